section
-- ===== PART A: goes FIRST, ahead of the names: the tables' words, and 'selects' of the private methods out of them =====
/-- a private method of a class that the tables say can be made, by its rows of tables_1 -/
def lw_okq (q : MethodName × Nat) : Prop := (q.1.cls ≠ "java/lang/invoke/MethodHandle" ∧ q.1.cls ≠ "java/lang/invoke/VarHandle") ∧ Cond.instantiable q.1.cls q.2 ∈ tables_1 ∧ Cond.privateMethod q.1 ∈ tables_1 ∧ Cond.instanceMethod q.1 ∈ tables_1
theorem lw_p0 : lw_okq (⟨"RingPost", "finding", "(I)I"⟩, 12) := ⟨⟨by decide +kernel, by decide +kernel⟩, List.mem_of_getElem? (i := 11) (by decide +kernel), List.mem_of_getElem? (i := 65) (by decide +kernel), List.mem_of_getElem? (i := 66) (by decide +kernel)⟩
theorem lw_p1 : lw_okq (⟨"RingPost", "ringAt", "(I)LRingPost$Ring;"⟩, 12) := ⟨⟨by decide +kernel, by decide +kernel⟩, List.mem_of_getElem? (i := 11) (by decide +kernel), List.mem_of_getElem? (i := 156) (by decide +kernel), List.mem_of_getElem? (i := 157) (by decide +kernel)⟩
theorem lw_p2 : lw_okq (⟨"RingPost", "otherMayBe", "(III)Z"⟩, 12) := ⟨⟨by decide +kernel, by decide +kernel⟩, List.mem_of_getElem? (i := 11) (by decide +kernel), List.mem_of_getElem? (i := 160) (by decide +kernel), List.mem_of_getElem? (i := 161) (by decide +kernel)⟩
theorem lw_p3 : lw_okq (⟨"RingPost", "readerAt", "(I)LRingPost$Reader;"⟩, 12) := ⟨⟨by decide +kernel, by decide +kernel⟩, List.mem_of_getElem? (i := 11) (by decide +kernel), List.mem_of_getElem? (i := 164) (by decide +kernel), List.mem_of_getElem? (i := 165) (by decide +kernel)⟩
theorem lw_p4 : lw_okq (⟨"RingPost", "placeOf", "(II)I"⟩, 12) := ⟨⟨by decide +kernel, by decide +kernel⟩, List.mem_of_getElem? (i := 11) (by decide +kernel), List.mem_of_getElem? (i := 168) (by decide +kernel), List.mem_of_getElem? (i := 169) (by decide +kernel)⟩
theorem lw_p5 : lw_okq (⟨"RingPost", "newReader", "(ILRingPost$Ring;I)LRingPost$Reader;"⟩, 12) := ⟨⟨by decide +kernel, by decide +kernel⟩, List.mem_of_getElem? (i := 11) (by decide +kernel), List.mem_of_getElem? (i := 176) (by decide +kernel), List.mem_of_getElem? (i := 177) (by decide +kernel)⟩
theorem lw_p6 : lw_okq (⟨"RingPost", "leadsTo", "(II)Z"⟩, 12) := ⟨⟨by decide +kernel, by decide +kernel⟩, List.mem_of_getElem? (i := 11) (by decide +kernel), List.mem_of_getElem? (i := 274) (by decide +kernel), List.mem_of_getElem? (i := 275) (by decide +kernel)⟩
theorem lw_p7 : lw_okq (⟨"RingPost", "namesOfAll", "(I)I"⟩, 12) := ⟨⟨by decide +kernel, by decide +kernel⟩, List.mem_of_getElem? (i := 11) (by decide +kernel), List.mem_of_getElem? (i := 278) (by decide +kernel), List.mem_of_getElem? (i := 279) (by decide +kernel)⟩
theorem lw_p8 : lw_okq (⟨"RingPost", "keepCircle", "(II)V"⟩, 12) := ⟨⟨by decide +kernel, by decide +kernel⟩, List.mem_of_getElem? (i := 11) (by decide +kernel), List.mem_of_getElem? (i := 282) (by decide +kernel), List.mem_of_getElem? (i := 283) (by decide +kernel)⟩
theorem lw_p9 : lw_okq (⟨"RingPost", "leastTowards", "(II)I"⟩, 12) := ⟨⟨by decide +kernel, by decide +kernel⟩, List.mem_of_getElem? (i := 11) (by decide +kernel), List.mem_of_getElem? (i := 286) (by decide +kernel), List.mem_of_getElem? (i := 287) (by decide +kernel)⟩
theorem lw_p10 : lw_okq (⟨"RingPost", "claimSome", "(LRingPost$Ring;JI)I"⟩, 12) := ⟨⟨by decide +kernel, by decide +kernel⟩, List.mem_of_getElem? (i := 11) (by decide +kernel), List.mem_of_getElem? (i := 306) (by decide +kernel), List.mem_of_getElem? (i := 307) (by decide +kernel)⟩
theorem lw_p11 : lw_okq (⟨"RingPost", "refusalOfClaims", "(LRingPost$Ring;JI)I"⟩, 12) := ⟨⟨by decide +kernel, by decide +kernel⟩, List.mem_of_getElem? (i := 11) (by decide +kernel), List.mem_of_getElem? (i := 310) (by decide +kernel), List.mem_of_getElem? (i := 311) (by decide +kernel)⟩
theorem lw_p12 : lw_okq (⟨"RingPost", "isHeldUp", "(LRingPost$Ring;I)Z"⟩, 12) := ⟨⟨by decide +kernel, by decide +kernel⟩, List.mem_of_getElem? (i := 11) (by decide +kernel), List.mem_of_getElem? (i := 314) (by decide +kernel), List.mem_of_getElem? (i := 315) (by decide +kernel)⟩
theorem lw_p13 : lw_okq (⟨"RingPost", "holderUpTo", "(LRingPost$Ring;I)I"⟩, 12) := ⟨⟨by decide +kernel, by decide +kernel⟩, List.mem_of_getElem? (i := 11) (by decide +kernel), List.mem_of_getElem? (i := 326) (by decide +kernel), List.mem_of_getElem? (i := 327) (by decide +kernel)⟩
theorem lw_p14 : lw_okq (⟨"RingPost", "publishSlot", "(LRingPost$Message;II)V"⟩, 12) := ⟨⟨by decide +kernel, by decide +kernel⟩, List.mem_of_getElem? (i := 11) (by decide +kernel), List.mem_of_getElem? (i := 372) (by decide +kernel), List.mem_of_getElem? (i := 373) (by decide +kernel)⟩
theorem lw_p15 : lw_okq (⟨"RingPost", "leastHolderPlace", "(LRingPost$Ring;)I"⟩, 12) := ⟨⟨by decide +kernel, by decide +kernel⟩, List.mem_of_getElem? (i := 11) (by decide +kernel), List.mem_of_getElem? (i := 401) (by decide +kernel), List.mem_of_getElem? (i := 402) (by decide +kernel)⟩
def lw_privs_1 : List (MethodName × Nat) := [(⟨"RingPost", "finding", "(I)I"⟩, 12), (⟨"RingPost", "ringAt", "(I)LRingPost$Ring;"⟩, 12), (⟨"RingPost", "otherMayBe", "(III)Z"⟩, 12), (⟨"RingPost", "readerAt", "(I)LRingPost$Reader;"⟩, 12), (⟨"RingPost", "placeOf", "(II)I"⟩, 12), (⟨"RingPost", "newReader", "(ILRingPost$Ring;I)LRingPost$Reader;"⟩, 12), (⟨"RingPost", "leadsTo", "(II)Z"⟩, 12), (⟨"RingPost", "namesOfAll", "(I)I"⟩, 12), (⟨"RingPost", "keepCircle", "(II)V"⟩, 12), (⟨"RingPost", "leastTowards", "(II)I"⟩, 12), (⟨"RingPost", "claimSome", "(LRingPost$Ring;JI)I"⟩, 12), (⟨"RingPost", "refusalOfClaims", "(LRingPost$Ring;JI)I"⟩, 12), (⟨"RingPost", "isHeldUp", "(LRingPost$Ring;I)Z"⟩, 12), (⟨"RingPost", "holderUpTo", "(LRingPost$Ring;I)I"⟩, 12), (⟨"RingPost", "publishSlot", "(LRingPost$Message;II)V"⟩, 12), (⟨"RingPost", "leastHolderPlace", "(LRingPost$Ring;)I"⟩, 12)]
theorem lw_r1 : ∀ q ∈ lw_privs_1, lw_okq q := List.forall_mem_cons.mpr ⟨lw_p0, List.forall_mem_cons.mpr ⟨lw_p1, List.forall_mem_cons.mpr ⟨lw_p2, List.forall_mem_cons.mpr ⟨lw_p3, List.forall_mem_cons.mpr ⟨lw_p4, List.forall_mem_cons.mpr ⟨lw_p5, List.forall_mem_cons.mpr ⟨lw_p6, List.forall_mem_cons.mpr ⟨lw_p7, List.forall_mem_cons.mpr ⟨lw_p8, List.forall_mem_cons.mpr ⟨lw_p9, List.forall_mem_cons.mpr ⟨lw_p10, List.forall_mem_cons.mpr ⟨lw_p11, List.forall_mem_cons.mpr ⟨lw_p12, List.forall_mem_cons.mpr ⟨lw_p13, List.forall_mem_cons.mpr ⟨lw_p14, List.forall_mem_cons.mpr ⟨lw_p15, fun _ h => absurd h List.not_mem_nil⟩⟩⟩⟩⟩⟩⟩⟩⟩⟩⟩⟩⟩⟩⟩⟩
theorem lw_p16 : lw_okq (⟨"RingPost", "countHolders", "(LRingPost$Ring;)I"⟩, 12) := ⟨⟨by decide +kernel, by decide +kernel⟩, List.mem_of_getElem? (i := 11) (by decide +kernel), List.mem_of_getElem? (i := 408) (by decide +kernel), List.mem_of_getElem? (i := 409) (by decide +kernel)⟩
theorem lw_p17 : lw_okq (⟨"RingPost", "readOnce", "(LRingPost$Reader;)I"⟩, 12) := ⟨⟨by decide +kernel, by decide +kernel⟩, List.mem_of_getElem? (i := 11) (by decide +kernel), List.mem_of_getElem? (i := 420) (by decide +kernel), List.mem_of_getElem? (i := 421) (by decide +kernel)⟩
theorem lw_p18 : lw_okq (⟨"RingPost", "reasonOf", "(LRingPost$Reader;)I"⟩, 12) := ⟨⟨by decide +kernel, by decide +kernel⟩, List.mem_of_getElem? (i := 11) (by decide +kernel), List.mem_of_getElem? (i := 436) (by decide +kernel), List.mem_of_getElem? (i := 437) (by decide +kernel)⟩
theorem lw_p19 : lw_okq (⟨"RingPost", "reasonOfMerge", "(LRingPost$Reader;)I"⟩, 12) := ⟨⟨by decide +kernel, by decide +kernel⟩, List.mem_of_getElem? (i := 11) (by decide +kernel), List.mem_of_getElem? (i := 440) (by decide +kernel), List.mem_of_getElem? (i := 441) (by decide +kernel)⟩
theorem lw_p20 : lw_okq (⟨"RingPost", "leastLackingRing", "(LRingPost$Reader;)I"⟩, 12) := ⟨⟨by decide +kernel, by decide +kernel⟩, List.mem_of_getElem? (i := 11) (by decide +kernel), List.mem_of_getElem? (i := 444) (by decide +kernel), List.mem_of_getElem? (i := 445) (by decide +kernel)⟩
theorem lw_p21 : lw_okq (⟨"RingPost", "isAwaited", "(LRingPost$Reader;LRingPost$Ring;)Z"⟩, 12) := ⟨⟨by decide +kernel, by decide +kernel⟩, List.mem_of_getElem? (i := 11) (by decide +kernel), List.mem_of_getElem? (i := 448) (by decide +kernel), List.mem_of_getElem? (i := 449) (by decide +kernel)⟩
theorem lw_p22 : lw_okq (⟨"RingPost", "ringOfLeastStamp", "(LRingPost$Reader;)LRingPost$Ring;"⟩, 12) := ⟨⟨by decide +kernel, by decide +kernel⟩, List.mem_of_getElem? (i := 11) (by decide +kernel), List.mem_of_getElem? (i := 456) (by decide +kernel), List.mem_of_getElem? (i := 457) (by decide +kernel)⟩
theorem lw_p23 : lw_okq (⟨"RingPost", "reasonAtPlace", "(LRingPost$Reader;)I"⟩, 12) := ⟨⟨by decide +kernel, by decide +kernel⟩, List.mem_of_getElem? (i := 11) (by decide +kernel), List.mem_of_getElem? (i := 466) (by decide +kernel), List.mem_of_getElem? (i := 467) (by decide +kernel)⟩
theorem lw_p24 : lw_okq (⟨"RingPost", "leastNamedBehind", "(LRingPost$Reader;)I"⟩, 12) := ⟨⟨by decide +kernel, by decide +kernel⟩, List.mem_of_getElem? (i := 11) (by decide +kernel), List.mem_of_getElem? (i := 471) (by decide +kernel), List.mem_of_getElem? (i := 472) (by decide +kernel)⟩
theorem lw_p25 : lw_okq (⟨"RingPost", "takeNext", "(LRingPost$Reader;)Z"⟩, 12) := ⟨⟨by decide +kernel, by decide +kernel⟩, List.mem_of_getElem? (i := 11) (by decide +kernel), List.mem_of_getElem? (i := 479) (by decide +kernel), List.mem_of_getElem? (i := 480) (by decide +kernel)⟩
theorem lw_p26 : lw_okq (⟨"RingPost", "takeAtPlace", "(LRingPost$Reader;LRingPost$Ring;)Z"⟩, 12) := ⟨⟨by decide +kernel, by decide +kernel⟩, List.mem_of_getElem? (i := 11) (by decide +kernel), List.mem_of_getElem? (i := 492) (by decide +kernel), List.mem_of_getElem? (i := 493) (by decide +kernel)⟩
theorem lw_p27 : lw_okq (⟨"RingPost", "writeOn", "(LRingPost$Message;LRingPost$Ring;)V"⟩, 12) := ⟨⟨by decide +kernel, by decide +kernel⟩, List.mem_of_getElem? (i := 11) (by decide +kernel), List.mem_of_getElem? (i := 500) (by decide +kernel), List.mem_of_getElem? (i := 501) (by decide +kernel)⟩
theorem lw_p28 : lw_okq (⟨"RingPost", "isAnyReady", "()Z"⟩, 12) := ⟨⟨by decide +kernel, by decide +kernel⟩, List.mem_of_getElem? (i := 11) (by decide +kernel), List.mem_of_getElem? (i := 549) (by decide +kernel), List.mem_of_getElem? (i := 550) (by decide +kernel)⟩
theorem lw_p29 : lw_okq (⟨"RingPostModel", "find", "(I)I"⟩, 42) := ⟨⟨by decide +kernel, by decide +kernel⟩, List.mem_of_getElem? (i := 557) (by decide +kernel), List.mem_of_getElem? (i := 695) (by decide +kernel), List.mem_of_getElem? (i := 696) (by decide +kernel)⟩
theorem lw_p30 : lw_okq (⟨"RingPostModel", "isNumbered", "(III)Z"⟩, 42) := ⟨⟨by decide +kernel, by decide +kernel⟩, List.mem_of_getElem? (i := 557) (by decide +kernel), List.mem_of_getElem? (i := 703) (by decide +kernel), List.mem_of_getElem? (i := 704) (by decide +kernel)⟩
theorem lw_p31 : lw_okq (⟨"RingPostModel", "isRing", "(I)Z"⟩, 42) := ⟨⟨by decide +kernel, by decide +kernel⟩, List.mem_of_getElem? (i := 557) (by decide +kernel), List.mem_of_getElem? (i := 707) (by decide +kernel), List.mem_of_getElem? (i := 708) (by decide +kernel)⟩
def lw_privs_2 : List (MethodName × Nat) := [(⟨"RingPost", "countHolders", "(LRingPost$Ring;)I"⟩, 12), (⟨"RingPost", "readOnce", "(LRingPost$Reader;)I"⟩, 12), (⟨"RingPost", "reasonOf", "(LRingPost$Reader;)I"⟩, 12), (⟨"RingPost", "reasonOfMerge", "(LRingPost$Reader;)I"⟩, 12), (⟨"RingPost", "leastLackingRing", "(LRingPost$Reader;)I"⟩, 12), (⟨"RingPost", "isAwaited", "(LRingPost$Reader;LRingPost$Ring;)Z"⟩, 12), (⟨"RingPost", "ringOfLeastStamp", "(LRingPost$Reader;)LRingPost$Ring;"⟩, 12), (⟨"RingPost", "reasonAtPlace", "(LRingPost$Reader;)I"⟩, 12), (⟨"RingPost", "leastNamedBehind", "(LRingPost$Reader;)I"⟩, 12), (⟨"RingPost", "takeNext", "(LRingPost$Reader;)Z"⟩, 12), (⟨"RingPost", "takeAtPlace", "(LRingPost$Reader;LRingPost$Ring;)Z"⟩, 12), (⟨"RingPost", "writeOn", "(LRingPost$Message;LRingPost$Ring;)V"⟩, 12), (⟨"RingPost", "isAnyReady", "()Z"⟩, 12), (⟨"RingPostModel", "find", "(I)I"⟩, 42), (⟨"RingPostModel", "isNumbered", "(III)Z"⟩, 42), (⟨"RingPostModel", "isRing", "(I)Z"⟩, 42)]
theorem lw_r2 : ∀ q ∈ lw_privs_2, lw_okq q := List.forall_mem_cons.mpr ⟨lw_p16, List.forall_mem_cons.mpr ⟨lw_p17, List.forall_mem_cons.mpr ⟨lw_p18, List.forall_mem_cons.mpr ⟨lw_p19, List.forall_mem_cons.mpr ⟨lw_p20, List.forall_mem_cons.mpr ⟨lw_p21, List.forall_mem_cons.mpr ⟨lw_p22, List.forall_mem_cons.mpr ⟨lw_p23, List.forall_mem_cons.mpr ⟨lw_p24, List.forall_mem_cons.mpr ⟨lw_p25, List.forall_mem_cons.mpr ⟨lw_p26, List.forall_mem_cons.mpr ⟨lw_p27, List.forall_mem_cons.mpr ⟨lw_p28, List.forall_mem_cons.mpr ⟨lw_p29, List.forall_mem_cons.mpr ⟨lw_p30, List.forall_mem_cons.mpr ⟨lw_p31, fun _ h => absurd h List.not_mem_nil⟩⟩⟩⟩⟩⟩⟩⟩⟩⟩⟩⟩⟩⟩⟩⟩
theorem lw_p32 : lw_okq (⟨"RingPostModel", "isReader", "(I)Z"⟩, 42) := ⟨⟨by decide +kernel, by decide +kernel⟩, List.mem_of_getElem? (i := 557) (by decide +kernel), List.mem_of_getElem? (i := 711) (by decide +kernel), List.mem_of_getElem? (i := 712) (by decide +kernel)⟩
theorem lw_p33 : lw_okq (⟨"RingPostModel", "index", "(II)I"⟩, 42) := ⟨⟨by decide +kernel, by decide +kernel⟩, List.mem_of_getElem? (i := 557) (by decide +kernel), List.mem_of_getElem? (i := 715) (by decide +kernel), List.mem_of_getElem? (i := 716) (by decide +kernel)⟩
theorem lw_p34 : lw_okq (⟨"RingPostModel", "doesName", "(II)Z"⟩, 42) := ⟨⟨by decide +kernel, by decide +kernel⟩, List.mem_of_getElem? (i := 557) (by decide +kernel), List.mem_of_getElem? (i := 727) (by decide +kernel), List.mem_of_getElem? (i := 728) (by decide +kernel)⟩
theorem lw_p35 : lw_okq (⟨"RingPostModel", "reach", "(I)V"⟩, 42) := ⟨⟨by decide +kernel, by decide +kernel⟩, List.mem_of_getElem? (i := 557) (by decide +kernel), List.mem_of_getElem? (i := 731) (by decide +kernel), List.mem_of_getElem? (i := 732) (by decide +kernel)⟩
theorem lw_p36 : lw_okq (⟨"RingPostModel", "go", "(II)V"⟩, 42) := ⟨⟨by decide +kernel, by decide +kernel⟩, List.mem_of_getElem? (i := 557) (by decide +kernel), List.mem_of_getElem? (i := 735) (by decide +kernel), List.mem_of_getElem? (i := 736) (by decide +kernel)⟩
theorem lw_p37 : lw_okq (⟨"RingPostModel", "makeAll", "(IJI)I"⟩, 42) := ⟨⟨by decide +kernel, by decide +kernel⟩, List.mem_of_getElem? (i := 557) (by decide +kernel), List.mem_of_getElem? (i := 755) (by decide +kernel), List.mem_of_getElem? (i := 756) (by decide +kernel)⟩
theorem lw_p38 : lw_okq (⟨"RingPostModel", "hinders", "(IJI)I"⟩, 42) := ⟨⟨by decide +kernel, by decide +kernel⟩, List.mem_of_getElem? (i := 557) (by decide +kernel), List.mem_of_getElem? (i := 759) (by decide +kernel), List.mem_of_getElem? (i := 760) (by decide +kernel)⟩
theorem lw_p39 : lw_okq (⟨"RingPostModel", "isHeld", "(II)Z"⟩, 42) := ⟨⟨by decide +kernel, by decide +kernel⟩, List.mem_of_getElem? (i := 557) (by decide +kernel), List.mem_of_getElem? (i := 763) (by decide +kernel), List.mem_of_getElem? (i := 764) (by decide +kernel)⟩
theorem lw_p40 : lw_okq (⟨"RingPostModel", "isOpen", "(II)Z"⟩, 42) := ⟨⟨by decide +kernel, by decide +kernel⟩, List.mem_of_getElem? (i := 557) (by decide +kernel), List.mem_of_getElem? (i := 767) (by decide +kernel), List.mem_of_getElem? (i := 768) (by decide +kernel)⟩
theorem lw_p41 : lw_okq (⟨"RingPostModel", "isKept", "(II)Z"⟩, 42) := ⟨⟨by decide +kernel, by decide +kernel⟩, List.mem_of_getElem? (i := 557) (by decide +kernel), List.mem_of_getElem? (i := 771) (by decide +kernel), List.mem_of_getElem? (i := 772) (by decide +kernel)⟩
theorem lw_p42 : lw_okq (⟨"RingPostModel", "slot", "(II)I"⟩, 42) := ⟨⟨by decide +kernel, by decide +kernel⟩, List.mem_of_getElem? (i := 557) (by decide +kernel), List.mem_of_getElem? (i := 775) (by decide +kernel), List.mem_of_getElem? (i := 776) (by decide +kernel)⟩
theorem lw_p43 : lw_okq (⟨"RingPostModel", "holderOf", "(II)I"⟩, 42) := ⟨⟨by decide +kernel, by decide +kernel⟩, List.mem_of_getElem? (i := 557) (by decide +kernel), List.mem_of_getElem? (i := 779) (by decide +kernel), List.mem_of_getElem? (i := 780) (by decide +kernel)⟩
theorem lw_p44 : lw_okq (⟨"RingPostModel", "isHolder", "(II)Z"⟩, 42) := ⟨⟨by decide +kernel, by decide +kernel⟩, List.mem_of_getElem? (i := 557) (by decide +kernel), List.mem_of_getElem? (i := 783) (by decide +kernel), List.mem_of_getElem? (i := 784) (by decide +kernel)⟩
theorem lw_p45 : lw_okq (⟨"RingPostModel", "placeIn", "(II)I"⟩, 42) := ⟨⟨by decide +kernel, by decide +kernel⟩, List.mem_of_getElem? (i := 557) (by decide +kernel), List.mem_of_getElem? (i := 787) (by decide +kernel), List.mem_of_getElem? (i := 788) (by decide +kernel)⟩
theorem lw_p46 : lw_okq (⟨"RingPostModel", "make", "(IJ)V"⟩, 42) := ⟨⟨by decide +kernel, by decide +kernel⟩, List.mem_of_getElem? (i := 557) (by decide +kernel), List.mem_of_getElem? (i := 791) (by decide +kernel), List.mem_of_getElem? (i := 792) (by decide +kernel)⟩
theorem lw_p47 : lw_okq (⟨"RingPostModel", "fold", "(II)V"⟩, 42) := ⟨⟨by decide +kernel, by decide +kernel⟩, List.mem_of_getElem? (i := 557) (by decide +kernel), List.mem_of_getElem? (i := 819) (by decide +kernel), List.mem_of_getElem? (i := 820) (by decide +kernel)⟩
def lw_privs_3 : List (MethodName × Nat) := [(⟨"RingPostModel", "isReader", "(I)Z"⟩, 42), (⟨"RingPostModel", "index", "(II)I"⟩, 42), (⟨"RingPostModel", "doesName", "(II)Z"⟩, 42), (⟨"RingPostModel", "reach", "(I)V"⟩, 42), (⟨"RingPostModel", "go", "(II)V"⟩, 42), (⟨"RingPostModel", "makeAll", "(IJI)I"⟩, 42), (⟨"RingPostModel", "hinders", "(IJI)I"⟩, 42), (⟨"RingPostModel", "isHeld", "(II)Z"⟩, 42), (⟨"RingPostModel", "isOpen", "(II)Z"⟩, 42), (⟨"RingPostModel", "isKept", "(II)Z"⟩, 42), (⟨"RingPostModel", "slot", "(II)I"⟩, 42), (⟨"RingPostModel", "holderOf", "(II)I"⟩, 42), (⟨"RingPostModel", "isHolder", "(II)Z"⟩, 42), (⟨"RingPostModel", "placeIn", "(II)I"⟩, 42), (⟨"RingPostModel", "make", "(IJ)V"⟩, 42), (⟨"RingPostModel", "fold", "(II)V"⟩, 42)]
theorem lw_r3 : ∀ q ∈ lw_privs_3, lw_okq q := List.forall_mem_cons.mpr ⟨lw_p32, List.forall_mem_cons.mpr ⟨lw_p33, List.forall_mem_cons.mpr ⟨lw_p34, List.forall_mem_cons.mpr ⟨lw_p35, List.forall_mem_cons.mpr ⟨lw_p36, List.forall_mem_cons.mpr ⟨lw_p37, List.forall_mem_cons.mpr ⟨lw_p38, List.forall_mem_cons.mpr ⟨lw_p39, List.forall_mem_cons.mpr ⟨lw_p40, List.forall_mem_cons.mpr ⟨lw_p41, List.forall_mem_cons.mpr ⟨lw_p42, List.forall_mem_cons.mpr ⟨lw_p43, List.forall_mem_cons.mpr ⟨lw_p44, List.forall_mem_cons.mpr ⟨lw_p45, List.forall_mem_cons.mpr ⟨lw_p46, List.forall_mem_cons.mpr ⟨lw_p47, fun _ h => absurd h List.not_mem_nil⟩⟩⟩⟩⟩⟩⟩⟩⟩⟩⟩⟩⟩⟩⟩⟩
theorem lw_p48 : lw_okq (⟨"RingPostModel", "enter", "(IIII)V"⟩, 42) := ⟨⟨by decide +kernel, by decide +kernel⟩, List.mem_of_getElem? (i := 557) (by decide +kernel), List.mem_of_getElem? (i := 823) (by decide +kernel), List.mem_of_getElem? (i := 824) (by decide +kernel)⟩
theorem lw_p49 : lw_okq (⟨"RingPostModel", "leastPlace", "(I)I"⟩, 42) := ⟨⟨by decide +kernel, by decide +kernel⟩, List.mem_of_getElem? (i := 557) (by decide +kernel), List.mem_of_getElem? (i := 835) (by decide +kernel), List.mem_of_getElem? (i := 836) (by decide +kernel)⟩
theorem lw_p50 : lw_okq (⟨"RingPostModel", "openMany", "(I)I"⟩, 42) := ⟨⟨by decide +kernel, by decide +kernel⟩, List.mem_of_getElem? (i := 557) (by decide +kernel), List.mem_of_getElem? (i := 839) (by decide +kernel), List.mem_of_getElem? (i := 840) (by decide +kernel)⟩
theorem lw_p51 : lw_okq (⟨"RingPostModel", "holders", "(I)I"⟩, 42) := ⟨⟨by decide +kernel, by decide +kernel⟩, List.mem_of_getElem? (i := 557) (by decide +kernel), List.mem_of_getElem? (i := 847) (by decide +kernel), List.mem_of_getElem? (i := 848) (by decide +kernel)⟩
theorem lw_p52 : lw_okq (⟨"RingPostModel", "isHeldUp", "(I)Z"⟩, 42) := ⟨⟨by decide +kernel, by decide +kernel⟩, List.mem_of_getElem? (i := 557) (by decide +kernel), List.mem_of_getElem? (i := 851) (by decide +kernel), List.mem_of_getElem? (i := 852) (by decide +kernel)⟩
theorem lw_p53 : lw_okq (⟨"RingPostModel", "whyOne", "(I)I"⟩, 42) := ⟨⟨by decide +kernel, by decide +kernel⟩, List.mem_of_getElem? (i := 557) (by decide +kernel), List.mem_of_getElem? (i := 863) (by decide +kernel), List.mem_of_getElem? (i := 864) (by decide +kernel)⟩
theorem lw_p54 : lw_okq (⟨"RingPostModel", "lacking", "(I)I"⟩, 42) := ⟨⟨by decide +kernel, by decide +kernel⟩, List.mem_of_getElem? (i := 557) (by decide +kernel), List.mem_of_getElem? (i := 867) (by decide +kernel), List.mem_of_getElem? (i := 868) (by decide +kernel)⟩
theorem lw_p55 : lw_okq (⟨"RingPostModel", "isPassed", "(II)Z"⟩, 42) := ⟨⟨by decide +kernel, by decide +kernel⟩, List.mem_of_getElem? (i := 557) (by decide +kernel), List.mem_of_getElem? (i := 871) (by decide +kernel), List.mem_of_getElem? (i := 872) (by decide +kernel)⟩
theorem lw_p56 : lw_okq (⟨"RingPostModel", "isPublished", "(II)Z"⟩, 42) := ⟨⟨by decide +kernel, by decide +kernel⟩, List.mem_of_getElem? (i := 557) (by decide +kernel), List.mem_of_getElem? (i := 875) (by decide +kernel), List.mem_of_getElem? (i := 876) (by decide +kernel)⟩
theorem lw_p57 : lw_okq (⟨"RingPostModel", "seen", "(I)I"⟩, 42) := ⟨⟨by decide +kernel, by decide +kernel⟩, List.mem_of_getElem? (i := 557) (by decide +kernel), List.mem_of_getElem? (i := 879) (by decide +kernel), List.mem_of_getElem? (i := 880) (by decide +kernel)⟩
theorem lw_p58 : lw_okq (⟨"RingPostModel", "from", "(I)I"⟩, 42) := ⟨⟨by decide +kernel, by decide +kernel⟩, List.mem_of_getElem? (i := 557) (by decide +kernel), List.mem_of_getElem? (i := 883) (by decide +kernel), List.mem_of_getElem? (i := 884) (by decide +kernel)⟩
theorem lw_p59 : lw_okq (⟨"RingPostModel", "behind", "(I)I"⟩, 42) := ⟨⟨by decide +kernel, by decide +kernel⟩, List.mem_of_getElem? (i := 557) (by decide +kernel), List.mem_of_getElem? (i := 887) (by decide +kernel), List.mem_of_getElem? (i := 888) (by decide +kernel)⟩
theorem lw_p60 : lw_okq (⟨"RingPostModel", "miss", "(II)V"⟩, 42) := ⟨⟨by decide +kernel, by decide +kernel⟩, List.mem_of_getElem? (i := 557) (by decide +kernel), List.mem_of_getElem? (i := 904) (by decide +kernel), List.mem_of_getElem? (i := 905) (by decide +kernel)⟩
theorem lw_p61 : lw_okq (⟨"RingPostModel", "takeEntry", "(I)V"⟩, 42) := ⟨⟨by decide +kernel, by decide +kernel⟩, List.mem_of_getElem? (i := 557) (by decide +kernel), List.mem_of_getElem? (i := 908) (by decide +kernel), List.mem_of_getElem? (i := 909) (by decide +kernel)⟩
theorem lw_p62 : lw_okq (⟨"RingPostModel", "takeLeast", "(I)V"⟩, 42) := ⟨⟨by decide +kernel, by decide +kernel⟩, List.mem_of_getElem? (i := 557) (by decide +kernel), List.mem_of_getElem? (i := 912) (by decide +kernel), List.mem_of_getElem? (i := 913) (by decide +kernel)⟩
theorem lw_p63 : lw_okq (⟨"RingPostModel", "take", "(III)V"⟩, 42) := ⟨⟨by decide +kernel, by decide +kernel⟩, List.mem_of_getElem? (i := 557) (by decide +kernel), List.mem_of_getElem? (i := 916) (by decide +kernel), List.mem_of_getElem? (i := 917) (by decide +kernel)⟩
def lw_privs_4 : List (MethodName × Nat) := [(⟨"RingPostModel", "enter", "(IIII)V"⟩, 42), (⟨"RingPostModel", "leastPlace", "(I)I"⟩, 42), (⟨"RingPostModel", "openMany", "(I)I"⟩, 42), (⟨"RingPostModel", "holders", "(I)I"⟩, 42), (⟨"RingPostModel", "isHeldUp", "(I)Z"⟩, 42), (⟨"RingPostModel", "whyOne", "(I)I"⟩, 42), (⟨"RingPostModel", "lacking", "(I)I"⟩, 42), (⟨"RingPostModel", "isPassed", "(II)Z"⟩, 42), (⟨"RingPostModel", "isPublished", "(II)Z"⟩, 42), (⟨"RingPostModel", "seen", "(I)I"⟩, 42), (⟨"RingPostModel", "from", "(I)I"⟩, 42), (⟨"RingPostModel", "behind", "(I)I"⟩, 42), (⟨"RingPostModel", "miss", "(II)V"⟩, 42), (⟨"RingPostModel", "takeEntry", "(I)V"⟩, 42), (⟨"RingPostModel", "takeLeast", "(I)V"⟩, 42), (⟨"RingPostModel", "take", "(III)V"⟩, 42)]
theorem lw_r4 : ∀ q ∈ lw_privs_4, lw_okq q := List.forall_mem_cons.mpr ⟨lw_p48, List.forall_mem_cons.mpr ⟨lw_p49, List.forall_mem_cons.mpr ⟨lw_p50, List.forall_mem_cons.mpr ⟨lw_p51, List.forall_mem_cons.mpr ⟨lw_p52, List.forall_mem_cons.mpr ⟨lw_p53, List.forall_mem_cons.mpr ⟨lw_p54, List.forall_mem_cons.mpr ⟨lw_p55, List.forall_mem_cons.mpr ⟨lw_p56, List.forall_mem_cons.mpr ⟨lw_p57, List.forall_mem_cons.mpr ⟨lw_p58, List.forall_mem_cons.mpr ⟨lw_p59, List.forall_mem_cons.mpr ⟨lw_p60, List.forall_mem_cons.mpr ⟨lw_p61, List.forall_mem_cons.mpr ⟨lw_p62, List.forall_mem_cons.mpr ⟨lw_p63, fun _ h => absurd h List.not_mem_nil⟩⟩⟩⟩⟩⟩⟩⟩⟩⟩⟩⟩⟩⟩⟩⟩
theorem lw_p64 : lw_okq (⟨"RingPostModel", "echo", "(I)V"⟩, 42) := ⟨⟨by decide +kernel, by decide +kernel⟩, List.mem_of_getElem? (i := 557) (by decide +kernel), List.mem_of_getElem? (i := 920) (by decide +kernel), List.mem_of_getElem? (i := 921) (by decide +kernel)⟩
def lw_privs_5 : List (MethodName × Nat) := [(⟨"RingPostModel", "echo", "(I)V"⟩, 42)]
theorem lw_r5 : ∀ q ∈ lw_privs_5, lw_okq q := List.forall_mem_cons.mpr ⟨lw_p64, fun _ h => absurd h List.not_mem_nil⟩
def lw_privs : List (MethodName × Nat) := lw_privs_1 ++ (lw_privs_2 ++ (lw_privs_3 ++ (lw_privs_4 ++ (lw_privs_5))))
def lw_tbl : List Cond := k2_sels lw_privs ++ tables_1
theorem lw_privs_ok : ∀ q ∈ lw_privs, lw_okq q := by
  show ∀ q ∈ lw_privs_1 ++ (lw_privs_2 ++ (lw_privs_3 ++ (lw_privs_4 ++ (lw_privs_5)))), lw_okq q
  exact List.forall_mem_append.mpr ⟨lw_r1, List.forall_mem_append.mpr ⟨lw_r2, List.forall_mem_append.mpr ⟨lw_r3, List.forall_mem_append.mpr ⟨lw_r4, lw_r5⟩⟩⟩⟩
end
section
def RX0 : String := "RingPost$Message"
def TX0 : u_T := fun k => match k with
  | 0 => ("RingPost$Message", "longs", "[J", true)
  | 1 => ("RingPost$Message", "ring", "I", false)
  | 2 => ("RingPost$Message", "number", "I", false)
  | 3 => ("RingPost$Message", "stamp", "J", false)
  | 4 => ("RingPost$Message", "key", "I", false)
  | 5 => ("RingPost$Message", "length", "I", false)
  | _ => ("RingPost$Message", "open", "Z", false)
def tyX0 : Nat → FieldType := fun k => match k with
  | 0 => .array .long
  | 1 => .int
  | 2 => .int
  | 3 => .long
  | 4 => .int
  | 5 => .int
  | _ => .boolean
abbrev wsX00 : List Cond := u_ws RX0 TX0 7
theorem nmX0 : ∀ a, a < 7 → ∀ b, b < 7 → a ≠ b → (TX0 a).2.1 ≠ (TX0 b).2.1 := by decide +kernel
theorem tyX0_ok : ∀ k, k < 7 → parseFieldDescriptor (TX0 k).2.2.1 = some (tyX0 k) := by decide +kernel
abbrev cX0_init : ByteArray := prog_2_method_1_code
def yX0_init : MethodName := ⟨RX0, "<init>", "()V"⟩
abbrev cX0_startOver : ByteArray := prog_2_method_2_code
def yX0_startOver : MethodName := ⟨RX0, "startOver", "(IIJ)V"⟩
abbrev cX0_become : ByteArray := prog_2_method_3_code
def yX0_become : MethodName := ⟨RX0, "become", "(LRingPost$Message;)V"⟩
def RX1 : String := "RingPost$Reader"
def TX1 : u_T := fun k => match k with
  | 0 => ("RingPost$Reader", "kind", "I", true)
  | 1 => ("RingPost$Reader", "home", "LRingPost$Ring;", true)
  | 2 => ("RingPost$Reader", "target", "LRingPost$Ring;", true)
  | 3 => ("RingPost$Reader", "kept", "LRingPost$Message;", true)
  | 4 => ("RingPost$Reader", "places", "[I", true)
  | 5 => ("RingPost$Reader", "names", "[I", true)
  | 6 => ("RingPost$Reader", "entries", "[LRingPost$Message;", true)
  | 7 => ("RingPost$Reader", "placeCount", "I", false)
  | 8 => ("RingPost$Reader", "nameCount", "I", false)
  | 9 => ("RingPost$Reader", "nameBits", "I", false)
  | 10 => ("RingPost$Reader", "entryCount", "I", false)
  | 11 => ("RingPost$Reader", "gotCount", "I", false)
  | 12 => ("RingPost$Reader", "missedCount", "I", false)
  | 13 => ("RingPost$Reader", "spanFirst", "I", false)
  | _ => ("RingPost$Reader", "spanLast", "I", false)
def tyX1 : Nat → FieldType := fun k => match k with
  | 0 => .int
  | 1 => .object "RingPost$Ring"
  | 2 => .object "RingPost$Ring"
  | 3 => .object "RingPost$Message"
  | 4 => .array .int
  | 5 => .array .int
  | 6 => .array (.object "RingPost$Message")
  | 7 => .int
  | 8 => .int
  | 9 => .int
  | 10 => .int
  | 11 => .int
  | 12 => .int
  | 13 => .int
  | _ => .int
abbrev wsX10 : List Cond := u_ws RX1 TX1 15
theorem nmX1 : ∀ a, a < 15 → ∀ b, b < 15 → a ≠ b → (TX1 a).2.1 ≠ (TX1 b).2.1 := by decide +kernel
theorem tyX1_ok : ∀ k, k < 15 → parseFieldDescriptor (TX1 k).2.2.1 = some (tyX1 k) := by decide +kernel
abbrev cX1_init : ByteArray := prog_3_method_1_code
def yX1_init : MethodName := ⟨RX1, "<init>", "(ILRingPost$Ring;LRingPost$Ring;)V"⟩
abbrev cX1_mayName : ByteArray := prog_3_method_2_code
def yX1_mayName : MethodName := ⟨RX1, "mayName", "()Z"⟩
abbrev cX1_isNaming : ByteArray := prog_3_method_3_code
def yX1_isNaming : MethodName := ⟨RX1, "isNaming", "(I)Z"⟩
abbrev cX1_addName : ByteArray := prog_3_method_4_code
def yX1_addName : MethodName := ⟨RX1, "addName", "(I)V"⟩
abbrev cX1_placeIn : ByteArray := prog_3_method_5_code
def yX1_placeIn : MethodName := ⟨RX1, "placeIn", "(I)I"⟩
abbrev cX1_standIn : ByteArray := prog_3_method_6_code
def yX1_standIn : MethodName := ⟨RX1, "standIn", "(I)V"⟩
abbrev cX1_stepOn : ByteArray := prog_3_method_7_code
def yX1_stepOn : MethodName := ⟨RX1, "stepOn", "(I)V"⟩
abbrev cX1_heldPlace : ByteArray := prog_3_method_8_code
def yX1_heldPlace : MethodName := ⟨RX1, "heldPlace", "(I)I"⟩
abbrev cX1_placeToRead : ByteArray := prog_3_method_9_code
def yX1_placeToRead : MethodName := ⟨RX1, "placeToRead", "()I"⟩
abbrev cX1_skipMissed : ByteArray := prog_3_method_10_code
def yX1_skipMissed : MethodName := ⟨RX1, "skipMissed", "()V"⟩
abbrev cX1_keep : ByteArray := prog_3_method_11_code
def yX1_keep : MethodName := ⟨RX1, "keep", "(LRingPost$Message;)Z"⟩
abbrev cX1_foldIn : ByteArray := prog_3_method_12_code
def yX1_foldIn : MethodName := ⟨RX1, "foldIn", "(LRingPost$Message;)V"⟩
abbrev cX1_takeEntry : ByteArray := prog_3_method_13_code
def yX1_takeEntry : MethodName := ⟨RX1, "takeEntry", "()Z"⟩
def RX2 : String := "RingPost$Ring"
def TX2 : u_T := fun k => match k with
  | 0 => ("RingPost$Ring", "number", "I", true)
  | 1 => ("RingPost$Ring", "slots", "I", true)
  | 2 => ("RingPost$Ring", "row", "[LRingPost$Message;", true)
  | 3 => ("RingPost$Ring", "claimed", "I", false)
  | 4 => ("RingPost$Ring", "latestStamp", "J", false)
  | 5 => ("RingPost$Ring", "closed", "Z", false)
  | _ => ("RingPost$Ring", "given", "Z", false)
def tyX2 : Nat → FieldType := fun k => match k with
  | 0 => .int
  | 1 => .int
  | 2 => .array (.object "RingPost$Message")
  | 3 => .int
  | 4 => .long
  | 5 => .boolean
  | _ => .boolean
abbrev wsX20 : List Cond := u_ws RX2 TX2 7
theorem nmX2 : ∀ a, a < 7 → ∀ b, b < 7 → a ≠ b → (TX2 a).2.1 ≠ (TX2 b).2.1 := by decide +kernel
theorem tyX2_ok : ∀ k, k < 7 → parseFieldDescriptor (TX2 k).2.2.1 = some (tyX2 k) := by decide +kernel
abbrev cX2_init : ByteArray := prog_4_method_1_code
def yX2_init : MethodName := ⟨RX2, "<init>", "(II)V"⟩
abbrev cX2_isLive : ByteArray := prog_4_method_2_code
def yX2_isLive : MethodName := ⟨RX2, "isLive", "()Z"⟩
abbrev cX2_slotOf : ByteArray := prog_4_method_3_code
def yX2_slotOf : MethodName := ⟨RX2, "slotOf", "(I)LRingPost$Message;"⟩
abbrev cX2_openSlot : ByteArray := prog_4_method_4_code
def yX2_openSlot : MethodName := ⟨RX2, "openSlot", "(I)LRingPost$Message;"⟩
abbrev cX2_isPublished : ByteArray := prog_4_method_5_code
def yX2_isPublished : MethodName := ⟨RX2, "isPublished", "(I)Z"⟩
abbrev cX2_countOpen : ByteArray := prog_4_method_6_code
def yX2_countOpen : MethodName := ⟨RX2, "countOpen", "()I"⟩
abbrev cX2_newestPublished : ByteArray := prog_4_method_7_code
def yX2_newestPublished : MethodName := ⟨RX2, "newestPublished", "()I"⟩
abbrev cX2_newClaim : ByteArray := prog_4_method_8_code
def yX2_newClaim : MethodName := ⟨RX2, "newClaim", "(J)LRingPost$Message;"⟩
def RX3 : String := "RingPost"
def TX3 : u_T := fun k => match k with
  | 0 => ("RingPost", "rings", "[LRingPost$Ring;", true)
  | 1 => ("RingPost", "readers", "[LRingPost$Reader;", true)
  | 2 => ("RingPost", "findings", "[I", true)
  | 3 => ("RingPost", "chain", "[I", true)
  | 4 => ("RingPost", "ringCount", "I", false)
  | 5 => ("RingPost", "readerCount", "I", false)
  | 6 => ("RingPost", "rowCount", "I", false)
  | 7 => ("RingPost", "latestFinding", "I", false)
  | 8 => ("RingPost", "chainLength", "I", false)
  | 9 => ("RingPost", "latestRefusal", "I", false)
  | 10 => ("RingPost", "latestBy", "I", false)
  | _ => ("RingPost", "begun", "Z", false)
def tyX3 : Nat → FieldType := fun k => match k with
  | 0 => .array (.object "RingPost$Ring")
  | 1 => .array (.object "RingPost$Reader")
  | 2 => .array .int
  | 3 => .array .int
  | 4 => .int
  | 5 => .int
  | 6 => .int
  | 7 => .int
  | 8 => .int
  | 9 => .int
  | 10 => .int
  | _ => .boolean
abbrev wsX30 : List Cond := u_ws RX3 TX3 12
theorem nmX3 : ∀ a, a < 12 → ∀ b, b < 12 → a ≠ b → (TX3 a).2.1 ≠ (TX3 b).2.1 := by decide +kernel
theorem tyX3_ok : ∀ k, k < 12 → parseFieldDescriptor (TX3 k).2.2.1 = some (tyX3 k) := by decide +kernel
abbrev cX3_init : ByteArray := prog_1_method_1_code
def yX3_init : MethodName := ⟨RX3, "<init>", "()V"⟩
abbrev cX3_ring : ByteArray := prog_1_method_2_code
def yX3_ring : MethodName := ⟨RX3, "ring", "(I)I"⟩
abbrev cX3_reader : ByteArray := prog_1_method_3_code
def yX3_reader : MethodName := ⟨RX3, "reader", "(III)I"⟩
abbrev cX3_join : ByteArray := prog_1_method_4_code
def yX3_join : MethodName := ⟨RX3, "join", "(II)I"⟩
abbrev cX3_name : ByteArray := prog_1_method_5_code
def yX3_name : MethodName := ⟨RX3, "name", "(II)I"⟩
abbrev cX3_circle : ByteArray := prog_1_method_6_code
def yX3_circle : MethodName := ⟨RX3, "circle", "(I)I"⟩
abbrev cX3_begin : ByteArray := prog_1_method_7_code
def yX3_begin : MethodName := ⟨RX3, "begin", "()I"⟩
abbrev cX3_made : ByteArray := prog_1_method_8_code
def yX3_made : MethodName := ⟨RX3, "made", "()I"⟩
abbrev cX3_claim : ByteArray := prog_1_method_9_code
def yX3_claim : MethodName := ⟨RX3, "claim", "(IJ)I"⟩
abbrev cX3_batch : ByteArray := prog_1_method_10_code
def yX3_batch : MethodName := ⟨RX3, "batch", "(IJI)I"⟩
abbrev cX3_by : ByteArray := prog_1_method_11_code
def yX3_by : MethodName := ⟨RX3, "by", "()I"⟩
abbrev cX3_again : ByteArray := prog_1_method_12_code
def yX3_again : MethodName := ⟨RX3, "again", "()I"⟩
abbrev cX3_fill : ByteArray := prog_1_method_13_code
def yX3_fill : MethodName := ⟨RX3, "fill", "(IIIJ)I"⟩
abbrev cX3_copy : ByteArray := prog_1_method_14_code
def yX3_copy : MethodName := ⟨RX3, "copy", "(IIIII)I"⟩
abbrev cX3_publish : ByteArray := prog_1_method_15_code
def yX3_publish : MethodName := ⟨RX3, "publish", "(IIII)I"⟩
abbrev cX3_close : ByteArray := prog_1_method_16_code
def yX3_close : MethodName := ⟨RX3, "close", "(I)I"⟩
abbrev cX3_give : ByteArray := prog_1_method_17_code
def yX3_give : MethodName := ⟨RX3, "give", "(I)I"⟩
abbrev cX3_told : ByteArray := prog_1_method_18_code
def yX3_told : MethodName := ⟨RX3, "told", "(II)I"⟩
abbrev cX3_last : ByteArray := prog_1_method_19_code
def yX3_last : MethodName := ⟨RX3, "last", "(I)J"⟩
abbrev cX3_read : ByteArray := prog_1_method_20_code
def yX3_read : MethodName := ⟨RX3, "read", "(I)I"⟩
abbrev cX3_round : ByteArray := prog_1_method_21_code
def yX3_round : MethodName := ⟨RX3, "round", "()I"⟩
abbrev cX3_got : ByteArray := prog_1_method_22_code
def yX3_got : MethodName := ⟨RX3, "got", "(II)J"⟩
abbrev cX3_word : ByteArray := prog_1_method_23_code
def yX3_word : MethodName := ⟨RX3, "word", "(II)J"⟩
abbrev cX3_of : ByteArray := prog_1_method_24_code
def yX3_of : MethodName := ⟨RX3, "of", "(II)I"⟩
abbrev cX3_place : ByteArray := prog_1_method_25_code
def yX3_place : MethodName := ⟨RX3, "place", "(II)I"⟩
abbrev cX3_named : ByteArray := prog_1_method_26_code
def yX3_named : MethodName := ⟨RX3, "named", "(II)I"⟩
abbrev cX3_entry : ByteArray := prog_1_method_27_code
def yX3_entry : MethodName := ⟨RX3, "entry", "(II)I"⟩
abbrev cX3_target : ByteArray := prog_1_method_28_code
def yX3_target : MethodName := ⟨RX3, "target", "(I)I"⟩
abbrev cX3_why : ByteArray := prog_1_method_29_code
def yX3_why : MethodName := ⟨RX3, "why", "(I)I"⟩
abbrev cX3_on : ByteArray := prog_1_method_30_code
def yX3_on : MethodName := ⟨RX3, "on", "(I)I"⟩
abbrev cX3_stuck : ByteArray := prog_1_method_31_code
def yX3_stuck : MethodName := ⟨RX3, "stuck", "()Z"⟩
abbrev cX3_found : ByteArray := prog_1_method_32_code
def yX3_found : MethodName := ⟨RX3, "found", "(I)I"⟩
abbrev cX3_ringAt : ByteArray := prog_1_method_33_code
def yX3_ringAt : MethodName := ⟨RX3, "ringAt", "(I)LRingPost$Ring;"⟩
abbrev cX3_readerAt : ByteArray := prog_1_method_34_code
def yX3_readerAt : MethodName := ⟨RX3, "readerAt", "(I)LRingPost$Reader;"⟩
abbrev cX3_placeOf : ByteArray := prog_1_method_35_code
def yX3_placeOf : MethodName := ⟨RX3, "placeOf", "(II)I"⟩
abbrev cX3_finding : ByteArray := prog_1_method_36_code
def yX3_finding : MethodName := ⟨RX3, "finding", "(I)I"⟩
abbrev cX3_otherMayBe : ByteArray := prog_1_method_37_code
def yX3_otherMayBe : MethodName := ⟨RX3, "otherMayBe", "(III)Z"⟩
abbrev cX3_newReader : ByteArray := prog_1_method_38_code
def yX3_newReader : MethodName := ⟨RX3, "newReader", "(ILRingPost$Ring;I)LRingPost$Reader;"⟩
abbrev cX3_leadsTo : ByteArray := prog_1_method_39_code
def yX3_leadsTo : MethodName := ⟨RX3, "leadsTo", "(II)Z"⟩
abbrev cX3_namesOfAll : ByteArray := prog_1_method_40_code
def yX3_namesOfAll : MethodName := ⟨RX3, "namesOfAll", "(I)I"⟩
abbrev cX3_keepCircle : ByteArray := prog_1_method_41_code
def yX3_keepCircle : MethodName := ⟨RX3, "keepCircle", "(II)V"⟩
abbrev cX3_leastTowards : ByteArray := prog_1_method_42_code
def yX3_leastTowards : MethodName := ⟨RX3, "leastTowards", "(II)I"⟩
abbrev cX3_claimSome : ByteArray := prog_1_method_43_code
def yX3_claimSome : MethodName := ⟨RX3, "claimSome", "(LRingPost$Ring;JI)I"⟩
abbrev cX3_refusalOfClaims : ByteArray := prog_1_method_44_code
def yX3_refusalOfClaims : MethodName := ⟨RX3, "refusalOfClaims", "(LRingPost$Ring;JI)I"⟩
abbrev cX3_isHeldUp : ByteArray := prog_1_method_45_code
def yX3_isHeldUp : MethodName := ⟨RX3, "isHeldUp", "(LRingPost$Ring;I)Z"⟩
abbrev cX3_holderUpTo : ByteArray := prog_1_method_46_code
def yX3_holderUpTo : MethodName := ⟨RX3, "holderUpTo", "(LRingPost$Ring;I)I"⟩
abbrev cX3_leastHolderPlace : ByteArray := prog_1_method_47_code
def yX3_leastHolderPlace : MethodName := ⟨RX3, "leastHolderPlace", "(LRingPost$Ring;)I"⟩
abbrev cX3_countHolders : ByteArray := prog_1_method_48_code
def yX3_countHolders : MethodName := ⟨RX3, "countHolders", "(LRingPost$Ring;)I"⟩
abbrev cX3_publishSlot : ByteArray := prog_1_method_49_code
def yX3_publishSlot : MethodName := ⟨RX3, "publishSlot", "(LRingPost$Message;II)V"⟩
abbrev cX3_readOnce : ByteArray := prog_1_method_50_code
def yX3_readOnce : MethodName := ⟨RX3, "readOnce", "(LRingPost$Reader;)I"⟩
abbrev cX3_takeNext : ByteArray := prog_1_method_51_code
def yX3_takeNext : MethodName := ⟨RX3, "takeNext", "(LRingPost$Reader;)Z"⟩
abbrev cX3_takeAtPlace : ByteArray := prog_1_method_52_code
def yX3_takeAtPlace : MethodName := ⟨RX3, "takeAtPlace", "(LRingPost$Reader;LRingPost$Ring;)Z"⟩
abbrev cX3_writeOn : ByteArray := prog_1_method_53_code
def yX3_writeOn : MethodName := ⟨RX3, "writeOn", "(LRingPost$Message;LRingPost$Ring;)V"⟩
abbrev cX3_isAnyReady : ByteArray := prog_1_method_54_code
def yX3_isAnyReady : MethodName := ⟨RX3, "isAnyReady", "()Z"⟩
abbrev cX3_reasonOf : ByteArray := prog_1_method_55_code
def yX3_reasonOf : MethodName := ⟨RX3, "reasonOf", "(LRingPost$Reader;)I"⟩
abbrev cX3_reasonAtPlace : ByteArray := prog_1_method_56_code
def yX3_reasonAtPlace : MethodName := ⟨RX3, "reasonAtPlace", "(LRingPost$Reader;)I"⟩
abbrev cX3_leastNamedBehind : ByteArray := prog_1_method_57_code
def yX3_leastNamedBehind : MethodName := ⟨RX3, "leastNamedBehind", "(LRingPost$Reader;)I"⟩
abbrev cX3_reasonOfMerge : ByteArray := prog_1_method_58_code
def yX3_reasonOfMerge : MethodName := ⟨RX3, "reasonOfMerge", "(LRingPost$Reader;)I"⟩
abbrev cX3_isAwaited : ByteArray := prog_1_method_59_code
def yX3_isAwaited : MethodName := ⟨RX3, "isAwaited", "(LRingPost$Reader;LRingPost$Ring;)Z"⟩
abbrev cX3_leastLackingRing : ByteArray := prog_1_method_60_code
def yX3_leastLackingRing : MethodName := ⟨RX3, "leastLackingRing", "(LRingPost$Reader;)I"⟩
abbrev cX3_ringOfLeastStamp : ByteArray := prog_1_method_61_code
def yX3_ringOfLeastStamp : MethodName := ⟨RX3, "ringOfLeastStamp", "(LRingPost$Reader;)LRingPost$Ring;"⟩
def RX4 : String := "RingPostModel"
def TX4 : u_T := fun k => match k with
  | 0 => ("RingPostModel", "rings", "I", false)
  | 1 => ("RingPostModel", "slots", "[I", true)
  | 2 => ("RingPostModel", "claimed", "[I", true)
  | 3 => ("RingPostModel", "how", "[I", true)
  | 4 => ("RingPostModel", "latest", "[J", true)
  | 5 => ("RingPostModel", "open", "[Z", true)
  | 6 => ("RingPostModel", "stamps", "[J", true)
  | 7 => ("RingPostModel", "keys", "[I", true)
  | 8 => ("RingPostModel", "lengths", "[I", true)
  | 9 => ("RingPostModel", "words", "[J", true)
  | 10 => ("RingPostModel", "readers", "I", false)
  | 11 => ("RingPostModel", "kinds", "[I", true)
  | 12 => ("RingPostModel", "ringOf", "[I", true)
  | 13 => ("RingPostModel", "placeOf", "[I", true)
  | 14 => ("RingPostModel", "ringMany", "[I", true)
  | 15 => ("RingPostModel", "names", "[I", true)
  | 16 => ("RingPostModel", "nameMany", "[I", true)
  | 17 => ("RingPostModel", "targets", "[I", true)
  | 18 => ("RingPostModel", "missed", "[I", true)
  | 19 => ("RingPostModel", "spanFrom", "[I", true)
  | 20 => ("RingPostModel", "spanTo", "[I", true)
  | 21 => ("RingPostModel", "gets", "[I", true)
  | 22 => ("RingPostModel", "gotRing", "[I", true)
  | 23 => ("RingPostModel", "gotNumber", "[I", true)
  | 24 => ("RingPostModel", "gotStamp", "[J", true)
  | 25 => ("RingPostModel", "gotKey", "[I", true)
  | 26 => ("RingPostModel", "gotLength", "[I", true)
  | 27 => ("RingPostModel", "gotWords", "[J", true)
  | 28 => ("RingPostModel", "entryMany", "[I", true)
  | 29 => ("RingPostModel", "entryNumber", "[I", true)
  | 30 => ("RingPostModel", "entryStamp", "[J", true)
  | 31 => ("RingPostModel", "entryKey", "[I", true)
  | 32 => ("RingPostModel", "entryLength", "[I", true)
  | 33 => ("RingPostModel", "entryWords", "[J", true)
  | 34 => ("RingPostModel", "begun", "Z", false)
  | 35 => ("RingPostModel", "made", "I", false)
  | 36 => ("RingPostModel", "heldBy", "I", false)
  | 37 => ("RingPostModel", "refusal", "I", false)
  | 38 => ("RingPostModel", "finds", "[I", true)
  | 39 => ("RingPostModel", "way", "[I", true)
  | 40 => ("RingPostModel", "wayMany", "I", false)
  | _ => ("RingPostModel", "reached", "[Z", true)
def tyX4 : Nat → FieldType := fun k => match k with
  | 0 => .int
  | 1 => .array .int
  | 2 => .array .int
  | 3 => .array .int
  | 4 => .array .long
  | 5 => .array .boolean
  | 6 => .array .long
  | 7 => .array .int
  | 8 => .array .int
  | 9 => .array .long
  | 10 => .int
  | 11 => .array .int
  | 12 => .array .int
  | 13 => .array .int
  | 14 => .array .int
  | 15 => .array .int
  | 16 => .array .int
  | 17 => .array .int
  | 18 => .array .int
  | 19 => .array .int
  | 20 => .array .int
  | 21 => .array .int
  | 22 => .array .int
  | 23 => .array .int
  | 24 => .array .long
  | 25 => .array .int
  | 26 => .array .int
  | 27 => .array .long
  | 28 => .array .int
  | 29 => .array .int
  | 30 => .array .long
  | 31 => .array .int
  | 32 => .array .int
  | 33 => .array .long
  | 34 => .boolean
  | 35 => .int
  | 36 => .int
  | 37 => .int
  | 38 => .array .int
  | 39 => .array .int
  | 40 => .int
  | _ => .array .boolean
abbrev wsX40 : List Cond := u_ws RX4 TX4 42
theorem nmX4 : ∀ a, a < 42 → ∀ b, b < 42 → a ≠ b → (TX4 a).2.1 ≠ (TX4 b).2.1 := by decide +kernel
theorem tyX4_ok : ∀ k, k < 42 → parseFieldDescriptor (TX4 k).2.2.1 = some (tyX4 k) := by decide +kernel
abbrev cX4_init : ByteArray := prog_6_method_1_code
def yX4_init : MethodName := ⟨RX4, "<init>", "()V"⟩
abbrev cX4_find : ByteArray := prog_6_method_2_code
def yX4_find : MethodName := ⟨RX4, "find", "(I)I"⟩
abbrev cX4_isRing : ByteArray := prog_6_method_3_code
def yX4_isRing : MethodName := ⟨RX4, "isRing", "(I)Z"⟩
abbrev cX4_isReader : ByteArray := prog_6_method_4_code
def yX4_isReader : MethodName := ⟨RX4, "isReader", "(I)Z"⟩
abbrev cX4_index : ByteArray := prog_6_method_5_code
def yX4_index : MethodName := ⟨RX4, "index", "(II)I"⟩
abbrev cX4_placeIn : ByteArray := prog_6_method_6_code
def yX4_placeIn : MethodName := ⟨RX4, "placeIn", "(II)I"⟩
abbrev cX4_ring : ByteArray := prog_6_method_7_code
def yX4_ring : MethodName := ⟨RX4, "ring", "(I)I"⟩
abbrev cX4_isNumbered : ByteArray := prog_6_method_8_code
def yX4_isNumbered : MethodName := ⟨RX4, "isNumbered", "(III)Z"⟩
abbrev cX4_reader : ByteArray := prog_6_method_9_code
def yX4_reader : MethodName := ⟨RX4, "reader", "(III)I"⟩
abbrev cX4_join : ByteArray := prog_6_method_10_code
def yX4_join : MethodName := ⟨RX4, "join", "(II)I"⟩
abbrev cX4_doesName : ByteArray := prog_6_method_11_code
def yX4_doesName : MethodName := ⟨RX4, "doesName", "(II)Z"⟩
abbrev cX4_reach : ByteArray := prog_6_method_12_code
def yX4_reach : MethodName := ⟨RX4, "reach", "(I)V"⟩
abbrev cX4_go : ByteArray := prog_6_method_13_code
def yX4_go : MethodName := ⟨RX4, "go", "(II)V"⟩
abbrev cX4_name : ByteArray := prog_6_method_14_code
def yX4_name : MethodName := ⟨RX4, "name", "(II)I"⟩
abbrev cX4_circle : ByteArray := prog_6_method_15_code
def yX4_circle : MethodName := ⟨RX4, "circle", "(I)I"⟩
abbrev cX4_begin : ByteArray := prog_6_method_16_code
def yX4_begin : MethodName := ⟨RX4, "begin", "()I"⟩
abbrev cX4_made : ByteArray := prog_6_method_17_code
def yX4_made : MethodName := ⟨RX4, "made", "()I"⟩
abbrev cX4_slot : ByteArray := prog_6_method_18_code
def yX4_slot : MethodName := ⟨RX4, "slot", "(II)I"⟩
abbrev cX4_isKept : ByteArray := prog_6_method_19_code
def yX4_isKept : MethodName := ⟨RX4, "isKept", "(II)Z"⟩
abbrev cX4_isOpen : ByteArray := prog_6_method_20_code
def yX4_isOpen : MethodName := ⟨RX4, "isOpen", "(II)Z"⟩
abbrev cX4_isPublished : ByteArray := prog_6_method_21_code
def yX4_isPublished : MethodName := ⟨RX4, "isPublished", "(II)Z"⟩
abbrev cX4_isHolder : ByteArray := prog_6_method_22_code
def yX4_isHolder : MethodName := ⟨RX4, "isHolder", "(II)Z"⟩
abbrev cX4_holderOf : ByteArray := prog_6_method_23_code
def yX4_holderOf : MethodName := ⟨RX4, "holderOf", "(II)I"⟩
abbrev cX4_isHeld : ByteArray := prog_6_method_24_code
def yX4_isHeld : MethodName := ⟨RX4, "isHeld", "(II)Z"⟩
abbrev cX4_isHeldUp : ByteArray := prog_6_method_25_code
def yX4_isHeldUp : MethodName := ⟨RX4, "isHeldUp", "(I)Z"⟩
abbrev cX4_make : ByteArray := prog_6_method_26_code
def yX4_make : MethodName := ⟨RX4, "make", "(IJ)V"⟩
abbrev cX4_hinders : ByteArray := prog_6_method_27_code
def yX4_hinders : MethodName := ⟨RX4, "hinders", "(IJI)I"⟩
abbrev cX4_makeAll : ByteArray := prog_6_method_28_code
def yX4_makeAll : MethodName := ⟨RX4, "makeAll", "(IJI)I"⟩
abbrev cX4_claim : ByteArray := prog_6_method_29_code
def yX4_claim : MethodName := ⟨RX4, "claim", "(IJ)I"⟩
abbrev cX4_batch : ByteArray := prog_6_method_30_code
def yX4_batch : MethodName := ⟨RX4, "batch", "(IJI)I"⟩
abbrev cX4_by : ByteArray := prog_6_method_31_code
def yX4_by : MethodName := ⟨RX4, "by", "()I"⟩
abbrev cX4_again : ByteArray := prog_6_method_32_code
def yX4_again : MethodName := ⟨RX4, "again", "()I"⟩
abbrev cX4_fill : ByteArray := prog_6_method_33_code
def yX4_fill : MethodName := ⟨RX4, "fill", "(IIIJ)I"⟩
abbrev cX4_copy : ByteArray := prog_6_method_34_code
def yX4_copy : MethodName := ⟨RX4, "copy", "(IIIII)I"⟩
abbrev cX4_enter : ByteArray := prog_6_method_35_code
def yX4_enter : MethodName := ⟨RX4, "enter", "(IIII)V"⟩
abbrev cX4_fold : ByteArray := prog_6_method_36_code
def yX4_fold : MethodName := ⟨RX4, "fold", "(II)V"⟩
abbrev cX4_publish : ByteArray := prog_6_method_37_code
def yX4_publish : MethodName := ⟨RX4, "publish", "(IIII)I"⟩
abbrev cX4_close : ByteArray := prog_6_method_38_code
def yX4_close : MethodName := ⟨RX4, "close", "(I)I"⟩
abbrev cX4_openMany : ByteArray := prog_6_method_39_code
def yX4_openMany : MethodName := ⟨RX4, "openMany", "(I)I"⟩
abbrev cX4_leastPlace : ByteArray := prog_6_method_40_code
def yX4_leastPlace : MethodName := ⟨RX4, "leastPlace", "(I)I"⟩
abbrev cX4_give : ByteArray := prog_6_method_41_code
def yX4_give : MethodName := ⟨RX4, "give", "(I)I"⟩
abbrev cX4_holders : ByteArray := prog_6_method_42_code
def yX4_holders : MethodName := ⟨RX4, "holders", "(I)I"⟩
abbrev cX4_told : ByteArray := prog_6_method_43_code
def yX4_told : MethodName := ⟨RX4, "told", "(II)I"⟩
abbrev cX4_last : ByteArray := prog_6_method_44_code
def yX4_last : MethodName := ⟨RX4, "last", "(I)J"⟩
abbrev cX4_seen : ByteArray := prog_6_method_45_code
def yX4_seen : MethodName := ⟨RX4, "seen", "(I)I"⟩
abbrev cX4_from : ByteArray := prog_6_method_46_code
def yX4_from : MethodName := ⟨RX4, "from", "(I)I"⟩
abbrev cX4_behind : ByteArray := prog_6_method_47_code
def yX4_behind : MethodName := ⟨RX4, "behind", "(I)I"⟩
abbrev cX4_isPassed : ByteArray := prog_6_method_48_code
def yX4_isPassed : MethodName := ⟨RX4, "isPassed", "(II)Z"⟩
abbrev cX4_lacking : ByteArray := prog_6_method_49_code
def yX4_lacking : MethodName := ⟨RX4, "lacking", "(I)I"⟩
abbrev cX4_whyOne : ByteArray := prog_6_method_50_code
def yX4_whyOne : MethodName := ⟨RX4, "whyOne", "(I)I"⟩
abbrev cX4_why : ByteArray := prog_6_method_51_code
def yX4_why : MethodName := ⟨RX4, "why", "(I)I"⟩
abbrev cX4_on : ByteArray := prog_6_method_52_code
def yX4_on : MethodName := ⟨RX4, "on", "(I)I"⟩
abbrev cX4_stuck : ByteArray := prog_6_method_53_code
def yX4_stuck : MethodName := ⟨RX4, "stuck", "()Z"⟩
abbrev cX4_take : ByteArray := prog_6_method_54_code
def yX4_take : MethodName := ⟨RX4, "take", "(III)V"⟩
abbrev cX4_takeEntry : ByteArray := prog_6_method_55_code
def yX4_takeEntry : MethodName := ⟨RX4, "takeEntry", "(I)V"⟩
abbrev cX4_echo : ByteArray := prog_6_method_56_code
def yX4_echo : MethodName := ⟨RX4, "echo", "(I)V"⟩
abbrev cX4_miss : ByteArray := prog_6_method_57_code
def yX4_miss : MethodName := ⟨RX4, "miss", "(II)V"⟩
abbrev cX4_takeLeast : ByteArray := prog_6_method_58_code
def yX4_takeLeast : MethodName := ⟨RX4, "takeLeast", "(I)V"⟩
abbrev cX4_read : ByteArray := prog_6_method_59_code
def yX4_read : MethodName := ⟨RX4, "read", "(I)I"⟩
abbrev cX4_round : ByteArray := prog_6_method_60_code
def yX4_round : MethodName := ⟨RX4, "round", "()I"⟩
abbrev cX4_got : ByteArray := prog_6_method_61_code
def yX4_got : MethodName := ⟨RX4, "got", "(II)J"⟩
abbrev cX4_word : ByteArray := prog_6_method_62_code
def yX4_word : MethodName := ⟨RX4, "word", "(II)J"⟩
abbrev cX4_of : ByteArray := prog_6_method_63_code
def yX4_of : MethodName := ⟨RX4, "of", "(II)I"⟩
abbrev cX4_place : ByteArray := prog_6_method_64_code
def yX4_place : MethodName := ⟨RX4, "place", "(II)I"⟩
abbrev cX4_named : ByteArray := prog_6_method_65_code
def yX4_named : MethodName := ⟨RX4, "named", "(II)I"⟩
abbrev cX4_entry : ByteArray := prog_6_method_66_code
def yX4_entry : MethodName := ⟨RX4, "entry", "(II)I"⟩
abbrev cX4_target : ByteArray := prog_6_method_67_code
def yX4_target : MethodName := ⟨RX4, "target", "(I)I"⟩
abbrev cX4_found : ByteArray := prog_6_method_68_code
def yX4_found : MethodName := ⟨RX4, "found", "(I)I"⟩
def RJ6 : String := "java/lang/Integer"
def TJ6 : u_T := fun k => match k with
  | _ => ("", "", "", false)
def tyJ6 : Nat → FieldType := fun k => match k with
  | _ => .int
abbrev wsJ60 : List Cond := u_ws RJ6 TJ6 0
theorem nmJ6 : ∀ a, a < 0 → ∀ b, b < 0 → a ≠ b → (TJ6 a).2.1 ≠ (TJ6 b).2.1 := by decide +kernel
theorem tyJ6_ok : ∀ k, k < 0 → parseFieldDescriptor (TJ6 k).2.2.1 = some (tyJ6 k) := by decide +kernel
abbrev cJ6_bitCount_0f7a4 : ByteArray := prog_7_method_49_code
def yJ6_bitCount_0f7a4 : MethodName := ⟨RJ6, "bitCount", "(I)I"⟩
def RJ9 : String := "java/lang/Math"
def TJ9 : u_T := fun k => match k with
  | _ => ("", "", "", false)
def tyJ9 : Nat → FieldType := fun k => match k with
  | _ => .int
abbrev wsJ90 : List Cond := u_ws RJ9 TJ9 0
theorem nmJ9 : ∀ a, a < 0 → ∀ b, b < 0 → a ≠ b → (TJ9 a).2.1 ≠ (TJ9 b).2.1 := by decide +kernel
theorem tyJ9_ok : ∀ k, k < 0 → parseFieldDescriptor (TJ9 k).2.2.1 = some (tyJ9 k) := by decide +kernel
abbrev cJ9_max_7cf53 : ByteArray := prog_8_method_65_code
def yJ9_max_7cf53 : MethodName := ⟨RJ9, "max", "(II)I"⟩
abbrev cJ9_min_7cf53 : ByteArray := prog_8_method_69_code
def yJ9_min_7cf53 : MethodName := ⟨RJ9, "min", "(II)I"⟩
def RJ10 : String := "java/lang/System"
def TJ10 : u_T := fun k => match k with
  | _ => ("", "", "", false)
def tyJ10 : Nat → FieldType := fun k => match k with
  | _ => .int
abbrev wsJ100 : List Cond := u_ws RJ10 TJ10 0
theorem nmJ10 : ∀ a, a < 0 → ∀ b, b < 0 → a ≠ b → (TJ10 a).2.1 ≠ (TJ10 b).2.1 := by decide +kernel
theorem tyJ10_ok : ∀ k, k < 0 → parseFieldDescriptor (TJ10 k).2.2.1 = some (tyJ10 k) := by decide +kernel
def RJ7 : String := "java/util/Arrays"
def TJ7 : u_T := fun k => match k with
  | _ => ("", "", "", false)
def tyJ7 : Nat → FieldType := fun k => match k with
  | _ => .int
abbrev wsJ70 : List Cond := u_ws RJ7 TJ7 0
theorem nmJ7 : ∀ a, a < 0 → ∀ b, b < 0 → a ≠ b → (TJ7 a).2.1 ≠ (TJ7 b).2.1 := by decide +kernel
theorem tyJ7_ok : ∀ k, k < 0 → parseFieldDescriptor (TJ7 k).2.2.1 = some (tyJ7 k) := by decide +kernel
abbrev cJ7_fill_d0a16 : ByteArray := prog_10_method_101_code
def yJ7_fill_d0a16 : MethodName := ⟨RJ7, "fill", "([JJ)V"⟩
abbrev cJ7_fill_53178 : ByteArray := prog_10_method_103_code
def yJ7_fill_53178 : MethodName := ⟨RJ7, "fill", "([II)V"⟩
def RL : String := "RingPostLaw"
abbrev cL_law : ByteArray := code
def yL_law : MethodName := ⟨RL, "law", "([I)Z"⟩
end
section
theorem dX0_init_0 : decode cX0_init 0 = .ok (.aload_n 0, 1) := by decide +kernel
theorem dX0_init_1 : decode cX0_init 1 = .ok (.invokespecial 3, 3) := by decide +kernel
theorem dX0_init_4 : decode cX0_init 4 = .ok (.aload_n 0, 1) := by decide +kernel
theorem dX0_init_5 : decode cX0_init 5 = .ok (.bipush 8, 2) := by decide +kernel
theorem dX0_init_7 : decode cX0_init 7 = .ok (.newarray .long, 2) := by decide +kernel
theorem dX0_init_9 : decode cX0_init 9 = .ok (.putfield 9, 3) := by decide +kernel
theorem dX0_init_12 : decode cX0_init 12 = .ok (.aload_n 0, 1) := by decide +kernel
theorem dX0_init_13 : decode cX0_init 13 = .ok (.iconst (-1), 1) := by decide +kernel
theorem dX0_init_14 : decode cX0_init 14 = .ok (.putfield 15, 3) := by decide +kernel
theorem dX0_init_17 : decode cX0_init 17 = .ok (.return_, 1) := by decide +kernel
theorem dX0_startOver_0 : decode cX0_startOver 0 = .ok (.aload_n 0, 1) := by decide +kernel
theorem dX0_startOver_1 : decode cX0_startOver 1 = .ok (.iload_n 1, 1) := by decide +kernel
theorem dX0_startOver_2 : decode cX0_startOver 2 = .ok (.putfield 19, 3) := by decide +kernel
theorem dX0_startOver_5 : decode cX0_startOver 5 = .ok (.aload_n 0, 1) := by decide +kernel
theorem dX0_startOver_6 : decode cX0_startOver 6 = .ok (.iload_n 2, 1) := by decide +kernel
theorem dX0_startOver_7 : decode cX0_startOver 7 = .ok (.putfield 15, 3) := by decide +kernel
theorem dX0_startOver_10 : decode cX0_startOver 10 = .ok (.aload_n 0, 1) := by decide +kernel
theorem dX0_startOver_11 : decode cX0_startOver 11 = .ok (.lload_n 3, 1) := by decide +kernel
theorem dX0_startOver_12 : decode cX0_startOver 12 = .ok (.putfield 22, 3) := by decide +kernel
theorem dX0_startOver_15 : decode cX0_startOver 15 = .ok (.aload_n 0, 1) := by decide +kernel
theorem dX0_startOver_16 : decode cX0_startOver 16 = .ok (.iconst 0, 1) := by decide +kernel
theorem dX0_startOver_17 : decode cX0_startOver 17 = .ok (.putfield 26, 3) := by decide +kernel
theorem dX0_startOver_20 : decode cX0_startOver 20 = .ok (.aload_n 0, 1) := by decide +kernel
theorem dX0_startOver_21 : decode cX0_startOver 21 = .ok (.iconst 0, 1) := by decide +kernel
theorem dX0_startOver_22 : decode cX0_startOver 22 = .ok (.putfield 29, 3) := by decide +kernel
theorem dX0_startOver_25 : decode cX0_startOver 25 = .ok (.aload_n 0, 1) := by decide +kernel
theorem dX0_startOver_26 : decode cX0_startOver 26 = .ok (.iconst 1, 1) := by decide +kernel
theorem dX0_startOver_27 : decode cX0_startOver 27 = .ok (.putfield 32, 3) := by decide +kernel
theorem dX0_startOver_30 : decode cX0_startOver 30 = .ok (.aload_n 0, 1) := by decide +kernel
theorem dX0_startOver_31 : decode cX0_startOver 31 = .ok (.getfield 9, 3) := by decide +kernel
theorem dX0_startOver_34 : decode cX0_startOver 34 = .ok (.lconst 0, 1) := by decide +kernel
theorem dX0_startOver_35 : decode cX0_startOver 35 = .ok (.invokestatic 36, 3) := by decide +kernel
theorem dX0_startOver_38 : decode cX0_startOver 38 = .ok (.return_, 1) := by decide +kernel
theorem dX0_become_0 : decode cX0_become 0 = .ok (.aload_n 0, 1) := by decide +kernel
theorem dX0_become_1 : decode cX0_become 1 = .ok (.aload_n 1, 1) := by decide +kernel
theorem dX0_become_2 : decode cX0_become 2 = .ok (.getfield 19, 3) := by decide +kernel
theorem dX0_become_5 : decode cX0_become 5 = .ok (.putfield 19, 3) := by decide +kernel
theorem dX0_become_8 : decode cX0_become 8 = .ok (.aload_n 0, 1) := by decide +kernel
theorem dX0_become_9 : decode cX0_become 9 = .ok (.aload_n 1, 1) := by decide +kernel
theorem dX0_become_10 : decode cX0_become 10 = .ok (.getfield 15, 3) := by decide +kernel
theorem dX0_become_13 : decode cX0_become 13 = .ok (.putfield 15, 3) := by decide +kernel
theorem dX0_become_16 : decode cX0_become 16 = .ok (.aload_n 0, 1) := by decide +kernel
theorem dX0_become_17 : decode cX0_become 17 = .ok (.aload_n 1, 1) := by decide +kernel
theorem dX0_become_18 : decode cX0_become 18 = .ok (.getfield 22, 3) := by decide +kernel
theorem dX0_become_21 : decode cX0_become 21 = .ok (.putfield 22, 3) := by decide +kernel
theorem dX0_become_24 : decode cX0_become 24 = .ok (.aload_n 0, 1) := by decide +kernel
theorem dX0_become_25 : decode cX0_become 25 = .ok (.aload_n 1, 1) := by decide +kernel
theorem dX0_become_26 : decode cX0_become 26 = .ok (.getfield 26, 3) := by decide +kernel
theorem dX0_become_29 : decode cX0_become 29 = .ok (.putfield 26, 3) := by decide +kernel
theorem dX0_become_32 : decode cX0_become 32 = .ok (.aload_n 0, 1) := by decide +kernel
theorem dX0_become_33 : decode cX0_become 33 = .ok (.aload_n 1, 1) := by decide +kernel
theorem dX0_become_34 : decode cX0_become 34 = .ok (.getfield 29, 3) := by decide +kernel
theorem dX0_become_37 : decode cX0_become 37 = .ok (.putfield 29, 3) := by decide +kernel
theorem dX0_become_40 : decode cX0_become 40 = .ok (.aload_n 1, 1) := by decide +kernel
theorem dX0_become_41 : decode cX0_become 41 = .ok (.getfield 9, 3) := by decide +kernel
theorem dX0_become_44 : decode cX0_become 44 = .ok (.iconst 0, 1) := by decide +kernel
theorem dX0_become_45 : decode cX0_become 45 = .ok (.aload_n 0, 1) := by decide +kernel
theorem dX0_become_46 : decode cX0_become 46 = .ok (.getfield 9, 3) := by decide +kernel
theorem dX0_become_49 : decode cX0_become 49 = .ok (.iconst 0, 1) := by decide +kernel
theorem dX0_become_50 : decode cX0_become 50 = .ok (.bipush 8, 2) := by decide +kernel
theorem dX0_become_52 : decode cX0_become 52 = .ok (.invokestatic 42, 3) := by decide +kernel
theorem dX0_become_55 : decode cX0_become 55 = .ok (.return_, 1) := by decide +kernel
theorem dX1_init_0 : decode cX1_init 0 = .ok (.aload_n 0, 1) := by decide +kernel
theorem dX1_init_1 : decode cX1_init 1 = .ok (.invokespecial 3, 3) := by decide +kernel
theorem dX1_init_4 : decode cX1_init 4 = .ok (.aload_n 0, 1) := by decide +kernel
theorem dX1_init_5 : decode cX1_init 5 = .ok (.iload_n 1, 1) := by decide +kernel
theorem dX1_init_6 : decode cX1_init 6 = .ok (.putfield 9, 3) := by decide +kernel
theorem dX1_init_9 : decode cX1_init 9 = .ok (.aload_n 0, 1) := by decide +kernel
theorem dX1_init_10 : decode cX1_init 10 = .ok (.aload_n 2, 1) := by decide +kernel
theorem dX1_init_11 : decode cX1_init 11 = .ok (.putfield 15, 3) := by decide +kernel
theorem dX1_init_14 : decode cX1_init 14 = .ok (.aload_n 0, 1) := by decide +kernel
theorem dX1_init_15 : decode cX1_init 15 = .ok (.aload_n 3, 1) := by decide +kernel
theorem dX1_init_16 : decode cX1_init 16 = .ok (.putfield 19, 3) := by decide +kernel
theorem dX1_init_19 : decode cX1_init 19 = .ok (.aload_n 0, 1) := by decide +kernel
theorem dX1_init_20 : decode cX1_init 20 = .ok (.new 22, 3) := by decide +kernel
theorem dX1_init_23 : decode cX1_init 23 = .ok (.dup, 1) := by decide +kernel
theorem dX1_init_24 : decode cX1_init 24 = .ok (.invokespecial 24, 3) := by decide +kernel
theorem dX1_init_27 : decode cX1_init 27 = .ok (.putfield 25, 3) := by decide +kernel
theorem dX1_init_30 : decode cX1_init 30 = .ok (.aload_n 0, 1) := by decide +kernel
theorem dX1_init_31 : decode cX1_init 31 = .ok (.bipush 8, 2) := by decide +kernel
theorem dX1_init_33 : decode cX1_init 33 = .ok (.newarray .int, 2) := by decide +kernel
theorem dX1_init_35 : decode cX1_init 35 = .ok (.putfield 29, 3) := by decide +kernel
theorem dX1_init_38 : decode cX1_init 38 = .ok (.aload_n 0, 1) := by decide +kernel
theorem dX1_init_39 : decode cX1_init 39 = .ok (.getfield 29, 3) := by decide +kernel
theorem dX1_init_42 : decode cX1_init 42 = .ok (.iconst (-1), 1) := by decide +kernel
theorem dX1_init_43 : decode cX1_init 43 = .ok (.invokestatic 33, 3) := by decide +kernel
theorem dX1_init_46 : decode cX1_init 46 = .ok (.aload_n 0, 1) := by decide +kernel
theorem dX1_init_47 : decode cX1_init 47 = .ok (.iconst 4, 1) := by decide +kernel
theorem dX1_init_48 : decode cX1_init 48 = .ok (.newarray .int, 2) := by decide +kernel
theorem dX1_init_50 : decode cX1_init 50 = .ok (.putfield 39, 3) := by decide +kernel
theorem dX1_init_53 : decode cX1_init 53 = .ok (.aload_n 0, 1) := by decide +kernel
theorem dX1_init_54 : decode cX1_init 54 = .ok (.iload_n 1, 1) := by decide +kernel
theorem dX1_init_55 : decode cX1_init 55 = .ok (.iconst 4, 1) := by decide +kernel
theorem dX1_init_56 : decode cX1_init 56 = .ok (.if_icmp .ne 8, 3) := by decide +kernel
theorem dX1_init_59 : decode cX1_init 59 = .ok (.bipush 32, 2) := by decide +kernel
theorem dX1_init_61 : decode cX1_init 61 = .ok (.goto 4, 3) := by decide +kernel
theorem dX1_init_64 : decode cX1_init 64 = .ok (.iconst 0, 1) := by decide +kernel
theorem dX1_init_65 : decode cX1_init 65 = .ok (.anewarray 22, 3) := by decide +kernel
theorem dX1_init_68 : decode cX1_init 68 = .ok (.putfield 42, 3) := by decide +kernel
theorem dX1_init_71 : decode cX1_init 71 = .ok (.iconst 0, 1) := by decide +kernel
theorem dX1_init_72 : decode cX1_init 72 = .ok (.istore 4, 2) := by decide +kernel
theorem dX1_init_74 : decode cX1_init 74 = .ok (.iload 4, 2) := by decide +kernel
theorem dX1_init_76 : decode cX1_init 76 = .ok (.aload_n 0, 1) := by decide +kernel
theorem dX1_init_77 : decode cX1_init 77 = .ok (.getfield 42, 3) := by decide +kernel
theorem dX1_init_80 : decode cX1_init 80 = .ok (.arraylength, 1) := by decide +kernel
theorem dX1_init_81 : decode cX1_init 81 = .ok (.if_icmp .ge 23, 3) := by decide +kernel
theorem dX1_init_84 : decode cX1_init 84 = .ok (.aload_n 0, 1) := by decide +kernel
theorem dX1_init_85 : decode cX1_init 85 = .ok (.getfield 42, 3) := by decide +kernel
theorem dX1_init_88 : decode cX1_init 88 = .ok (.iload 4, 2) := by decide +kernel
theorem dX1_init_90 : decode cX1_init 90 = .ok (.new 22, 3) := by decide +kernel
theorem dX1_init_93 : decode cX1_init 93 = .ok (.dup, 1) := by decide +kernel
theorem dX1_init_94 : decode cX1_init 94 = .ok (.invokespecial 24, 3) := by decide +kernel
theorem dX1_init_97 : decode cX1_init 97 = .ok (.aastore, 1) := by decide +kernel
theorem dX1_init_98 : decode cX1_init 98 = .ok (.iinc 4 1, 3) := by decide +kernel
theorem dX1_init_101 : decode cX1_init 101 = .ok (.goto (-27), 3) := by decide +kernel
theorem dX1_init_104 : decode cX1_init 104 = .ok (.aload_n 0, 1) := by decide +kernel
theorem dX1_init_105 : decode cX1_init 105 = .ok (.iconst (-1), 1) := by decide +kernel
theorem dX1_init_106 : decode cX1_init 106 = .ok (.putfield 46, 3) := by decide +kernel
theorem dX1_init_109 : decode cX1_init 109 = .ok (.aload_n 0, 1) := by decide +kernel
theorem dX1_init_110 : decode cX1_init 110 = .ok (.iconst (-1), 1) := by decide +kernel
theorem dX1_init_111 : decode cX1_init 111 = .ok (.putfield 49, 3) := by decide +kernel
theorem dX1_init_114 : decode cX1_init 114 = .ok (.return_, 1) := by decide +kernel
theorem dX1_mayName_0 : decode cX1_mayName 0 = .ok (.aload_n 0, 1) := by decide +kernel
theorem dX1_mayName_1 : decode cX1_mayName 1 = .ok (.getfield 9, 3) := by decide +kernel
theorem dX1_mayName_4 : decode cX1_mayName 4 = .ok (.bipush 6, 2) := by decide +kernel
theorem dX1_mayName_6 : decode cX1_mayName 6 = .ok (.if_icmp .eq 12, 3) := by decide +kernel
theorem dX1_mayName_9 : decode cX1_mayName 9 = .ok (.aload_n 0, 1) := by decide +kernel
theorem dX1_mayName_10 : decode cX1_mayName 10 = .ok (.getfield 9, 3) := by decide +kernel
theorem dX1_mayName_13 : decode cX1_mayName 13 = .ok (.bipush 7, 2) := by decide +kernel
theorem dX1_mayName_15 : decode cX1_mayName 15 = .ok (.if_icmp .ne 7, 3) := by decide +kernel
theorem dX1_mayName_18 : decode cX1_mayName 18 = .ok (.iconst 1, 1) := by decide +kernel
theorem dX1_mayName_19 : decode cX1_mayName 19 = .ok (.goto 4, 3) := by decide +kernel
theorem dX1_mayName_22 : decode cX1_mayName 22 = .ok (.iconst 0, 1) := by decide +kernel
theorem dX1_mayName_23 : decode cX1_mayName 23 = .ok (.ireturn, 1) := by decide +kernel
theorem dX1_isNaming_0 : decode cX1_isNaming 0 = .ok (.iload_n 1, 1) := by decide +kernel
theorem dX1_isNaming_1 : decode cX1_isNaming 1 = .ok (.ifCond .lt 24, 3) := by decide +kernel
theorem dX1_isNaming_4 : decode cX1_isNaming 4 = .ok (.iload_n 1, 1) := by decide +kernel
theorem dX1_isNaming_5 : decode cX1_isNaming 5 = .ok (.bipush 16, 2) := by decide +kernel
theorem dX1_isNaming_7 : decode cX1_isNaming 7 = .ok (.if_icmp .ge 18, 3) := by decide +kernel
theorem dX1_isNaming_10 : decode cX1_isNaming 10 = .ok (.aload_n 0, 1) := by decide +kernel
theorem dX1_isNaming_11 : decode cX1_isNaming 11 = .ok (.getfield 52, 3) := by decide +kernel
theorem dX1_isNaming_14 : decode cX1_isNaming 14 = .ok (.iload_n 1, 1) := by decide +kernel
theorem dX1_isNaming_15 : decode cX1_isNaming 15 = .ok (.ishr, 1) := by decide +kernel
theorem dX1_isNaming_16 : decode cX1_isNaming 16 = .ok (.iconst 1, 1) := by decide +kernel
theorem dX1_isNaming_17 : decode cX1_isNaming 17 = .ok (.iand, 1) := by decide +kernel
theorem dX1_isNaming_18 : decode cX1_isNaming 18 = .ok (.ifCond .eq 7, 3) := by decide +kernel
theorem dX1_isNaming_21 : decode cX1_isNaming 21 = .ok (.iconst 1, 1) := by decide +kernel
theorem dX1_isNaming_22 : decode cX1_isNaming 22 = .ok (.goto 4, 3) := by decide +kernel
theorem dX1_isNaming_25 : decode cX1_isNaming 25 = .ok (.iconst 0, 1) := by decide +kernel
theorem dX1_isNaming_26 : decode cX1_isNaming 26 = .ok (.ireturn, 1) := by decide +kernel
theorem dX1_addName_0 : decode cX1_addName 0 = .ok (.aload_n 0, 1) := by decide +kernel
theorem dX1_addName_1 : decode cX1_addName 1 = .ok (.getfield 55, 3) := by decide +kernel
theorem dX1_addName_4 : decode cX1_addName 4 = .ok (.iconst 4, 1) := by decide +kernel
theorem dX1_addName_5 : decode cX1_addName 5 = .ok (.if_icmp .ge 35, 3) := by decide +kernel
theorem dX1_addName_8 : decode cX1_addName 8 = .ok (.aload_n 0, 1) := by decide +kernel
theorem dX1_addName_9 : decode cX1_addName 9 = .ok (.getfield 39, 3) := by decide +kernel
theorem dX1_addName_12 : decode cX1_addName 12 = .ok (.aload_n 0, 1) := by decide +kernel
theorem dX1_addName_13 : decode cX1_addName 13 = .ok (.getfield 55, 3) := by decide +kernel
theorem dX1_addName_16 : decode cX1_addName 16 = .ok (.iload_n 1, 1) := by decide +kernel
theorem dX1_addName_17 : decode cX1_addName 17 = .ok (.iastore, 1) := by decide +kernel
theorem dX1_addName_18 : decode cX1_addName 18 = .ok (.aload_n 0, 1) := by decide +kernel
theorem dX1_addName_19 : decode cX1_addName 19 = .ok (.dup, 1) := by decide +kernel
theorem dX1_addName_20 : decode cX1_addName 20 = .ok (.getfield 55, 3) := by decide +kernel
theorem dX1_addName_23 : decode cX1_addName 23 = .ok (.iconst 1, 1) := by decide +kernel
theorem dX1_addName_24 : decode cX1_addName 24 = .ok (.iadd, 1) := by decide +kernel
theorem dX1_addName_25 : decode cX1_addName 25 = .ok (.putfield 55, 3) := by decide +kernel
theorem dX1_addName_28 : decode cX1_addName 28 = .ok (.aload_n 0, 1) := by decide +kernel
theorem dX1_addName_29 : decode cX1_addName 29 = .ok (.dup, 1) := by decide +kernel
theorem dX1_addName_30 : decode cX1_addName 30 = .ok (.getfield 52, 3) := by decide +kernel
theorem dX1_addName_33 : decode cX1_addName 33 = .ok (.iconst 1, 1) := by decide +kernel
theorem dX1_addName_34 : decode cX1_addName 34 = .ok (.iload_n 1, 1) := by decide +kernel
theorem dX1_addName_35 : decode cX1_addName 35 = .ok (.ishl, 1) := by decide +kernel
theorem dX1_addName_36 : decode cX1_addName 36 = .ok (.ior, 1) := by decide +kernel
theorem dX1_addName_37 : decode cX1_addName 37 = .ok (.putfield 52, 3) := by decide +kernel
theorem dX1_addName_40 : decode cX1_addName 40 = .ok (.return_, 1) := by decide +kernel
theorem dX1_placeIn_0 : decode cX1_placeIn 0 = .ok (.iload_n 1, 1) := by decide +kernel
theorem dX1_placeIn_1 : decode cX1_placeIn 1 = .ok (.ifCond .lt 18, 3) := by decide +kernel
theorem dX1_placeIn_4 : decode cX1_placeIn 4 = .ok (.iload_n 1, 1) := by decide +kernel
theorem dX1_placeIn_5 : decode cX1_placeIn 5 = .ok (.bipush 8, 2) := by decide +kernel
theorem dX1_placeIn_7 : decode cX1_placeIn 7 = .ok (.if_icmp .ge 12, 3) := by decide +kernel
theorem dX1_placeIn_10 : decode cX1_placeIn 10 = .ok (.aload_n 0, 1) := by decide +kernel
theorem dX1_placeIn_11 : decode cX1_placeIn 11 = .ok (.getfield 29, 3) := by decide +kernel
theorem dX1_placeIn_14 : decode cX1_placeIn 14 = .ok (.iload_n 1, 1) := by decide +kernel
theorem dX1_placeIn_15 : decode cX1_placeIn 15 = .ok (.iaload, 1) := by decide +kernel
theorem dX1_placeIn_16 : decode cX1_placeIn 16 = .ok (.goto 4, 3) := by decide +kernel
theorem dX1_placeIn_19 : decode cX1_placeIn 19 = .ok (.iconst (-1), 1) := by decide +kernel
theorem dX1_placeIn_20 : decode cX1_placeIn 20 = .ok (.ireturn, 1) := by decide +kernel
theorem dX1_standIn_0 : decode cX1_standIn 0 = .ok (.iload_n 1, 1) := by decide +kernel
theorem dX1_standIn_1 : decode cX1_standIn 1 = .ok (.ifCond .lt 26, 3) := by decide +kernel
theorem dX1_standIn_4 : decode cX1_standIn 4 = .ok (.iload_n 1, 1) := by decide +kernel
theorem dX1_standIn_5 : decode cX1_standIn 5 = .ok (.bipush 8, 2) := by decide +kernel
theorem dX1_standIn_7 : decode cX1_standIn 7 = .ok (.if_icmp .ge 20, 3) := by decide +kernel
theorem dX1_standIn_10 : decode cX1_standIn 10 = .ok (.aload_n 0, 1) := by decide +kernel
theorem dX1_standIn_11 : decode cX1_standIn 11 = .ok (.getfield 29, 3) := by decide +kernel
theorem dX1_standIn_14 : decode cX1_standIn 14 = .ok (.iload_n 1, 1) := by decide +kernel
theorem dX1_standIn_15 : decode cX1_standIn 15 = .ok (.iconst 0, 1) := by decide +kernel
theorem dX1_standIn_16 : decode cX1_standIn 16 = .ok (.iastore, 1) := by decide +kernel
theorem dX1_standIn_17 : decode cX1_standIn 17 = .ok (.aload_n 0, 1) := by decide +kernel
theorem dX1_standIn_18 : decode cX1_standIn 18 = .ok (.dup, 1) := by decide +kernel
theorem dX1_standIn_19 : decode cX1_standIn 19 = .ok (.getfield 58, 3) := by decide +kernel
theorem dX1_standIn_22 : decode cX1_standIn 22 = .ok (.iconst 1, 1) := by decide +kernel
theorem dX1_standIn_23 : decode cX1_standIn 23 = .ok (.iadd, 1) := by decide +kernel
theorem dX1_standIn_24 : decode cX1_standIn 24 = .ok (.putfield 58, 3) := by decide +kernel
theorem dX1_standIn_27 : decode cX1_standIn 27 = .ok (.return_, 1) := by decide +kernel
theorem dX1_stepOn_0 : decode cX1_stepOn 0 = .ok (.iload_n 1, 1) := by decide +kernel
theorem dX1_stepOn_1 : decode cX1_stepOn 1 = .ok (.ifCond .lt 19, 3) := by decide +kernel
theorem dX1_stepOn_4 : decode cX1_stepOn 4 = .ok (.iload_n 1, 1) := by decide +kernel
theorem dX1_stepOn_5 : decode cX1_stepOn 5 = .ok (.bipush 8, 2) := by decide +kernel
theorem dX1_stepOn_7 : decode cX1_stepOn 7 = .ok (.if_icmp .ge 13, 3) := by decide +kernel
theorem dX1_stepOn_10 : decode cX1_stepOn 10 = .ok (.aload_n 0, 1) := by decide +kernel
theorem dX1_stepOn_11 : decode cX1_stepOn 11 = .ok (.getfield 29, 3) := by decide +kernel
theorem dX1_stepOn_14 : decode cX1_stepOn 14 = .ok (.iload_n 1, 1) := by decide +kernel
theorem dX1_stepOn_15 : decode cX1_stepOn 15 = .ok (.dup2, 1) := by decide +kernel
theorem dX1_stepOn_16 : decode cX1_stepOn 16 = .ok (.iaload, 1) := by decide +kernel
theorem dX1_stepOn_17 : decode cX1_stepOn 17 = .ok (.iconst 1, 1) := by decide +kernel
theorem dX1_stepOn_18 : decode cX1_stepOn 18 = .ok (.iadd, 1) := by decide +kernel
theorem dX1_stepOn_19 : decode cX1_stepOn 19 = .ok (.iastore, 1) := by decide +kernel
theorem dX1_stepOn_20 : decode cX1_stepOn 20 = .ok (.return_, 1) := by decide +kernel
theorem dX1_heldPlace_0 : decode cX1_heldPlace 0 = .ok (.aload_n 0, 1) := by decide +kernel
theorem dX1_heldPlace_1 : decode cX1_heldPlace 1 = .ok (.getfield 9, 3) := by decide +kernel
theorem dX1_heldPlace_4 : decode cX1_heldPlace 4 = .ok (.iconst 3, 1) := by decide +kernel
theorem dX1_heldPlace_5 : decode cX1_heldPlace 5 = .ok (.if_icmp .eq 22, 3) := by decide +kernel
theorem dX1_heldPlace_8 : decode cX1_heldPlace 8 = .ok (.iload_n 1, 1) := by decide +kernel
theorem dX1_heldPlace_9 : decode cX1_heldPlace 9 = .ok (.ifCond .lt 18, 3) := by decide +kernel
theorem dX1_heldPlace_12 : decode cX1_heldPlace 12 = .ok (.iload_n 1, 1) := by decide +kernel
theorem dX1_heldPlace_13 : decode cX1_heldPlace 13 = .ok (.bipush 8, 2) := by decide +kernel
theorem dX1_heldPlace_15 : decode cX1_heldPlace 15 = .ok (.if_icmp .ge 12, 3) := by decide +kernel
theorem dX1_heldPlace_18 : decode cX1_heldPlace 18 = .ok (.aload_n 0, 1) := by decide +kernel
theorem dX1_heldPlace_19 : decode cX1_heldPlace 19 = .ok (.getfield 29, 3) := by decide +kernel
theorem dX1_heldPlace_22 : decode cX1_heldPlace 22 = .ok (.iload_n 1, 1) := by decide +kernel
theorem dX1_heldPlace_23 : decode cX1_heldPlace 23 = .ok (.iaload, 1) := by decide +kernel
theorem dX1_heldPlace_24 : decode cX1_heldPlace 24 = .ok (.goto 4, 3) := by decide +kernel
theorem dX1_heldPlace_27 : decode cX1_heldPlace 27 = .ok (.iconst (-1), 1) := by decide +kernel
theorem dX1_heldPlace_28 : decode cX1_heldPlace 28 = .ok (.ireturn, 1) := by decide +kernel
theorem dX1_placeToRead_0 : decode cX1_placeToRead 0 = .ok (.aload_n 0, 1) := by decide +kernel
theorem dX1_placeToRead_1 : decode cX1_placeToRead 1 = .ok (.aload_n 0, 1) := by decide +kernel
theorem dX1_placeToRead_2 : decode cX1_placeToRead 2 = .ok (.getfield 15, 3) := by decide +kernel
theorem dX1_placeToRead_5 : decode cX1_placeToRead 5 = .ok (.getfield 61, 3) := by decide +kernel
theorem dX1_placeToRead_8 : decode cX1_placeToRead 8 = .ok (.invokevirtual 66, 3) := by decide +kernel
theorem dX1_placeToRead_11 : decode cX1_placeToRead 11 = .ok (.istore_n 1, 1) := by decide +kernel
theorem dX1_placeToRead_12 : decode cX1_placeToRead 12 = .ok (.aload_n 0, 1) := by decide +kernel
theorem dX1_placeToRead_13 : decode cX1_placeToRead 13 = .ok (.getfield 9, 3) := by decide +kernel
theorem dX1_placeToRead_16 : decode cX1_placeToRead 16 = .ok (.iconst 3, 1) := by decide +kernel
theorem dX1_placeToRead_17 : decode cX1_placeToRead 17 = .ok (.if_icmp .eq 5, 3) := by decide +kernel
theorem dX1_placeToRead_20 : decode cX1_placeToRead 20 = .ok (.iload_n 1, 1) := by decide +kernel
theorem dX1_placeToRead_21 : decode cX1_placeToRead 21 = .ok (.ireturn, 1) := by decide +kernel
theorem dX1_placeToRead_22 : decode cX1_placeToRead 22 = .ok (.iload_n 1, 1) := by decide +kernel
theorem dX1_placeToRead_23 : decode cX1_placeToRead 23 = .ok (.aload_n 0, 1) := by decide +kernel
theorem dX1_placeToRead_24 : decode cX1_placeToRead 24 = .ok (.getfield 15, 3) := by decide +kernel
theorem dX1_placeToRead_27 : decode cX1_placeToRead 27 = .ok (.getfield 70, 3) := by decide +kernel
theorem dX1_placeToRead_30 : decode cX1_placeToRead 30 = .ok (.ifCond .eq 13, 3) := by decide +kernel
theorem dX1_placeToRead_33 : decode cX1_placeToRead 33 = .ok (.aload_n 0, 1) := by decide +kernel
theorem dX1_placeToRead_34 : decode cX1_placeToRead 34 = .ok (.getfield 15, 3) := by decide +kernel
theorem dX1_placeToRead_37 : decode cX1_placeToRead 37 = .ok (.getfield 74, 3) := by decide +kernel
theorem dX1_placeToRead_40 : decode cX1_placeToRead 40 = .ok (.goto 18, 3) := by decide +kernel
theorem dX1_placeToRead_43 : decode cX1_placeToRead 43 = .ok (.aload_n 0, 1) := by decide +kernel
theorem dX1_placeToRead_44 : decode cX1_placeToRead 44 = .ok (.getfield 15, 3) := by decide +kernel
theorem dX1_placeToRead_47 : decode cX1_placeToRead 47 = .ok (.getfield 74, 3) := by decide +kernel
theorem dX1_placeToRead_50 : decode cX1_placeToRead 50 = .ok (.aload_n 0, 1) := by decide +kernel
theorem dX1_placeToRead_51 : decode cX1_placeToRead 51 = .ok (.getfield 15, 3) := by decide +kernel
theorem dX1_placeToRead_54 : decode cX1_placeToRead 54 = .ok (.getfield 77, 3) := by decide +kernel
theorem dX1_placeToRead_57 : decode cX1_placeToRead 57 = .ok (.isub, 1) := by decide +kernel
theorem dX1_placeToRead_58 : decode cX1_placeToRead 58 = .ok (.invokestatic 80, 3) := by decide +kernel
theorem dX1_placeToRead_61 : decode cX1_placeToRead 61 = .ok (.ireturn, 1) := by decide +kernel
theorem dX1_skipMissed_0 : decode cX1_skipMissed 0 = .ok (.aload_n 0, 1) := by decide +kernel
theorem dX1_skipMissed_1 : decode cX1_skipMissed 1 = .ok (.aload_n 0, 1) := by decide +kernel
theorem dX1_skipMissed_2 : decode cX1_skipMissed 2 = .ok (.getfield 15, 3) := by decide +kernel
theorem dX1_skipMissed_5 : decode cX1_skipMissed 5 = .ok (.getfield 61, 3) := by decide +kernel
theorem dX1_skipMissed_8 : decode cX1_skipMissed 8 = .ok (.invokevirtual 66, 3) := by decide +kernel
theorem dX1_skipMissed_11 : decode cX1_skipMissed 11 = .ok (.istore_n 1, 1) := by decide +kernel
theorem dX1_skipMissed_12 : decode cX1_skipMissed 12 = .ok (.aload_n 0, 1) := by decide +kernel
theorem dX1_skipMissed_13 : decode cX1_skipMissed 13 = .ok (.invokevirtual 86, 3) := by decide +kernel
theorem dX1_skipMissed_16 : decode cX1_skipMissed 16 = .ok (.istore_n 2, 1) := by decide +kernel
theorem dX1_skipMissed_17 : decode cX1_skipMissed 17 = .ok (.iload_n 1, 1) := by decide +kernel
theorem dX1_skipMissed_18 : decode cX1_skipMissed 18 = .ok (.ifCond .lt 45, 3) := by decide +kernel
theorem dX1_skipMissed_21 : decode cX1_skipMissed 21 = .ok (.iload_n 2, 1) := by decide +kernel
theorem dX1_skipMissed_22 : decode cX1_skipMissed 22 = .ok (.iload_n 1, 1) := by decide +kernel
theorem dX1_skipMissed_23 : decode cX1_skipMissed 23 = .ok (.if_icmp .le 40, 3) := by decide +kernel
theorem dX1_skipMissed_26 : decode cX1_skipMissed 26 = .ok (.aload_n 0, 1) := by decide +kernel
theorem dX1_skipMissed_27 : decode cX1_skipMissed 27 = .ok (.dup, 1) := by decide +kernel
theorem dX1_skipMissed_28 : decode cX1_skipMissed 28 = .ok (.getfield 90, 3) := by decide +kernel
theorem dX1_skipMissed_31 : decode cX1_skipMissed 31 = .ok (.iload_n 2, 1) := by decide +kernel
theorem dX1_skipMissed_32 : decode cX1_skipMissed 32 = .ok (.iload_n 1, 1) := by decide +kernel
theorem dX1_skipMissed_33 : decode cX1_skipMissed 33 = .ok (.isub, 1) := by decide +kernel
theorem dX1_skipMissed_34 : decode cX1_skipMissed 34 = .ok (.iadd, 1) := by decide +kernel
theorem dX1_skipMissed_35 : decode cX1_skipMissed 35 = .ok (.putfield 90, 3) := by decide +kernel
theorem dX1_skipMissed_38 : decode cX1_skipMissed 38 = .ok (.aload_n 0, 1) := by decide +kernel
theorem dX1_skipMissed_39 : decode cX1_skipMissed 39 = .ok (.iload_n 1, 1) := by decide +kernel
theorem dX1_skipMissed_40 : decode cX1_skipMissed 40 = .ok (.putfield 46, 3) := by decide +kernel
theorem dX1_skipMissed_43 : decode cX1_skipMissed 43 = .ok (.aload_n 0, 1) := by decide +kernel
theorem dX1_skipMissed_44 : decode cX1_skipMissed 44 = .ok (.iload_n 2, 1) := by decide +kernel
theorem dX1_skipMissed_45 : decode cX1_skipMissed 45 = .ok (.iconst 1, 1) := by decide +kernel
theorem dX1_skipMissed_46 : decode cX1_skipMissed 46 = .ok (.isub, 1) := by decide +kernel
theorem dX1_skipMissed_47 : decode cX1_skipMissed 47 = .ok (.putfield 49, 3) := by decide +kernel
theorem dX1_skipMissed_50 : decode cX1_skipMissed 50 = .ok (.aload_n 0, 1) := by decide +kernel
theorem dX1_skipMissed_51 : decode cX1_skipMissed 51 = .ok (.getfield 29, 3) := by decide +kernel
theorem dX1_skipMissed_54 : decode cX1_skipMissed 54 = .ok (.aload_n 0, 1) := by decide +kernel
theorem dX1_skipMissed_55 : decode cX1_skipMissed 55 = .ok (.getfield 15, 3) := by decide +kernel
theorem dX1_skipMissed_58 : decode cX1_skipMissed 58 = .ok (.getfield 61, 3) := by decide +kernel
theorem dX1_skipMissed_61 : decode cX1_skipMissed 61 = .ok (.iload_n 2, 1) := by decide +kernel
theorem dX1_skipMissed_62 : decode cX1_skipMissed 62 = .ok (.iastore, 1) := by decide +kernel
theorem dX1_skipMissed_63 : decode cX1_skipMissed 63 = .ok (.return_, 1) := by decide +kernel
theorem dX1_keep_0 : decode cX1_keep 0 = .ok (.aload_n 1, 1) := by decide +kernel
theorem dX1_keep_1 : decode cX1_keep 1 = .ok (.ifnonnull 5, 3) := by decide +kernel
theorem dX1_keep_4 : decode cX1_keep 4 = .ok (.iconst 0, 1) := by decide +kernel
theorem dX1_keep_5 : decode cX1_keep 5 = .ok (.ireturn, 1) := by decide +kernel
theorem dX1_keep_6 : decode cX1_keep 6 = .ok (.aload_n 0, 1) := by decide +kernel
theorem dX1_keep_7 : decode cX1_keep 7 = .ok (.getfield 25, 3) := by decide +kernel
theorem dX1_keep_10 : decode cX1_keep 10 = .ok (.aload_n 1, 1) := by decide +kernel
theorem dX1_keep_11 : decode cX1_keep 11 = .ok (.invokevirtual 93, 3) := by decide +kernel
theorem dX1_keep_14 : decode cX1_keep 14 = .ok (.aload_n 0, 1) := by decide +kernel
theorem dX1_keep_15 : decode cX1_keep 15 = .ok (.dup, 1) := by decide +kernel
theorem dX1_keep_16 : decode cX1_keep 16 = .ok (.getfield 97, 3) := by decide +kernel
theorem dX1_keep_19 : decode cX1_keep 19 = .ok (.iconst 1, 1) := by decide +kernel
theorem dX1_keep_20 : decode cX1_keep 20 = .ok (.iadd, 1) := by decide +kernel
theorem dX1_keep_21 : decode cX1_keep 21 = .ok (.putfield 97, 3) := by decide +kernel
theorem dX1_keep_24 : decode cX1_keep 24 = .ok (.iconst 1, 1) := by decide +kernel
theorem dX1_keep_25 : decode cX1_keep 25 = .ok (.ireturn, 1) := by decide +kernel
theorem dX1_foldIn_0 : decode cX1_foldIn 0 = .ok (.iconst 0, 1) := by decide +kernel
theorem dX1_foldIn_1 : decode cX1_foldIn 1 = .ok (.istore_n 2, 1) := by decide +kernel
theorem dX1_foldIn_2 : decode cX1_foldIn 2 = .ok (.iload_n 2, 1) := by decide +kernel
theorem dX1_foldIn_3 : decode cX1_foldIn 3 = .ok (.aload_n 0, 1) := by decide +kernel
theorem dX1_foldIn_4 : decode cX1_foldIn 4 = .ok (.getfield 100, 3) := by decide +kernel
theorem dX1_foldIn_7 : decode cX1_foldIn 7 = .ok (.if_icmp .ge 52, 3) := by decide +kernel
theorem dX1_foldIn_10 : decode cX1_foldIn 10 = .ok (.aload_n 0, 1) := by decide +kernel
theorem dX1_foldIn_11 : decode cX1_foldIn 11 = .ok (.getfield 42, 3) := by decide +kernel
theorem dX1_foldIn_14 : decode cX1_foldIn 14 = .ok (.iload_n 2, 1) := by decide +kernel
theorem dX1_foldIn_15 : decode cX1_foldIn 15 = .ok (.aaload, 1) := by decide +kernel
theorem dX1_foldIn_16 : decode cX1_foldIn 16 = .ok (.getfield 103, 3) := by decide +kernel
theorem dX1_foldIn_19 : decode cX1_foldIn 19 = .ok (.aload_n 1, 1) := by decide +kernel
theorem dX1_foldIn_20 : decode cX1_foldIn 20 = .ok (.getfield 103, 3) := by decide +kernel
theorem dX1_foldIn_23 : decode cX1_foldIn 23 = .ok (.if_icmp .ne 30, 3) := by decide +kernel
theorem dX1_foldIn_26 : decode cX1_foldIn 26 = .ok (.aload_n 0, 1) := by decide +kernel
theorem dX1_foldIn_27 : decode cX1_foldIn 27 = .ok (.getfield 42, 3) := by decide +kernel
theorem dX1_foldIn_30 : decode cX1_foldIn 30 = .ok (.iload_n 2, 1) := by decide +kernel
theorem dX1_foldIn_31 : decode cX1_foldIn 31 = .ok (.aaload, 1) := by decide +kernel
theorem dX1_foldIn_32 : decode cX1_foldIn 32 = .ok (.getfield 106, 3) := by decide +kernel
theorem dX1_foldIn_35 : decode cX1_foldIn 35 = .ok (.aload_n 1, 1) := by decide +kernel
theorem dX1_foldIn_36 : decode cX1_foldIn 36 = .ok (.getfield 106, 3) := by decide +kernel
theorem dX1_foldIn_39 : decode cX1_foldIn 39 = .ok (.if_icmp .ge 13, 3) := by decide +kernel
theorem dX1_foldIn_42 : decode cX1_foldIn 42 = .ok (.aload_n 0, 1) := by decide +kernel
theorem dX1_foldIn_43 : decode cX1_foldIn 43 = .ok (.getfield 42, 3) := by decide +kernel
theorem dX1_foldIn_46 : decode cX1_foldIn 46 = .ok (.iload_n 2, 1) := by decide +kernel
theorem dX1_foldIn_47 : decode cX1_foldIn 47 = .ok (.aaload, 1) := by decide +kernel
theorem dX1_foldIn_48 : decode cX1_foldIn 48 = .ok (.aload_n 1, 1) := by decide +kernel
theorem dX1_foldIn_49 : decode cX1_foldIn 49 = .ok (.invokevirtual 93, 3) := by decide +kernel
theorem dX1_foldIn_52 : decode cX1_foldIn 52 = .ok (.return_, 1) := by decide +kernel
theorem dX1_foldIn_53 : decode cX1_foldIn 53 = .ok (.iinc 2 1, 3) := by decide +kernel
theorem dX1_foldIn_56 : decode cX1_foldIn 56 = .ok (.goto (-54), 3) := by decide +kernel
theorem dX1_foldIn_59 : decode cX1_foldIn 59 = .ok (.aload_n 0, 1) := by decide +kernel
theorem dX1_foldIn_60 : decode cX1_foldIn 60 = .ok (.getfield 100, 3) := by decide +kernel
theorem dX1_foldIn_63 : decode cX1_foldIn 63 = .ok (.aload_n 0, 1) := by decide +kernel
theorem dX1_foldIn_64 : decode cX1_foldIn 64 = .ok (.getfield 42, 3) := by decide +kernel
theorem dX1_foldIn_67 : decode cX1_foldIn 67 = .ok (.arraylength, 1) := by decide +kernel
theorem dX1_foldIn_68 : decode cX1_foldIn 68 = .ok (.if_icmp .ge 26, 3) := by decide +kernel
theorem dX1_foldIn_71 : decode cX1_foldIn 71 = .ok (.aload_n 0, 1) := by decide +kernel
theorem dX1_foldIn_72 : decode cX1_foldIn 72 = .ok (.getfield 42, 3) := by decide +kernel
theorem dX1_foldIn_75 : decode cX1_foldIn 75 = .ok (.aload_n 0, 1) := by decide +kernel
theorem dX1_foldIn_76 : decode cX1_foldIn 76 = .ok (.getfield 100, 3) := by decide +kernel
theorem dX1_foldIn_79 : decode cX1_foldIn 79 = .ok (.aaload, 1) := by decide +kernel
theorem dX1_foldIn_80 : decode cX1_foldIn 80 = .ok (.aload_n 1, 1) := by decide +kernel
theorem dX1_foldIn_81 : decode cX1_foldIn 81 = .ok (.invokevirtual 93, 3) := by decide +kernel
theorem dX1_foldIn_84 : decode cX1_foldIn 84 = .ok (.aload_n 0, 1) := by decide +kernel
theorem dX1_foldIn_85 : decode cX1_foldIn 85 = .ok (.dup, 1) := by decide +kernel
theorem dX1_foldIn_86 : decode cX1_foldIn 86 = .ok (.getfield 100, 3) := by decide +kernel
theorem dX1_foldIn_89 : decode cX1_foldIn 89 = .ok (.iconst 1, 1) := by decide +kernel
theorem dX1_foldIn_90 : decode cX1_foldIn 90 = .ok (.iadd, 1) := by decide +kernel
theorem dX1_foldIn_91 : decode cX1_foldIn 91 = .ok (.putfield 100, 3) := by decide +kernel
theorem dX1_foldIn_94 : decode cX1_foldIn 94 = .ok (.return_, 1) := by decide +kernel
theorem dX1_takeEntry_0 : decode cX1_takeEntry 0 = .ok (.aload_n 0, 1) := by decide +kernel
theorem dX1_takeEntry_1 : decode cX1_takeEntry 1 = .ok (.getfield 100, 3) := by decide +kernel
theorem dX1_takeEntry_4 : decode cX1_takeEntry 4 = .ok (.iconst 1, 1) := by decide +kernel
theorem dX1_takeEntry_5 : decode cX1_takeEntry 5 = .ok (.if_icmp .lt 15, 3) := by decide +kernel
theorem dX1_takeEntry_8 : decode cX1_takeEntry 8 = .ok (.aload_n 0, 1) := by decide +kernel
theorem dX1_takeEntry_9 : decode cX1_takeEntry 9 = .ok (.getfield 100, 3) := by decide +kernel
theorem dX1_takeEntry_12 : decode cX1_takeEntry 12 = .ok (.aload_n 0, 1) := by decide +kernel
theorem dX1_takeEntry_13 : decode cX1_takeEntry 13 = .ok (.getfield 42, 3) := by decide +kernel
theorem dX1_takeEntry_16 : decode cX1_takeEntry 16 = .ok (.arraylength, 1) := by decide +kernel
theorem dX1_takeEntry_17 : decode cX1_takeEntry 17 = .ok (.if_icmp .le 5, 3) := by decide +kernel
theorem dX1_takeEntry_20 : decode cX1_takeEntry 20 = .ok (.iconst 0, 1) := by decide +kernel
theorem dX1_takeEntry_21 : decode cX1_takeEntry 21 = .ok (.ireturn, 1) := by decide +kernel
theorem dX1_takeEntry_22 : decode cX1_takeEntry 22 = .ok (.aload_n 0, 1) := by decide +kernel
theorem dX1_takeEntry_23 : decode cX1_takeEntry 23 = .ok (.getfield 42, 3) := by decide +kernel
theorem dX1_takeEntry_26 : decode cX1_takeEntry 26 = .ok (.iconst 0, 1) := by decide +kernel
theorem dX1_takeEntry_27 : decode cX1_takeEntry 27 = .ok (.aaload, 1) := by decide +kernel
theorem dX1_takeEntry_28 : decode cX1_takeEntry 28 = .ok (.astore_n 1, 1) := by decide +kernel
theorem dX1_takeEntry_29 : decode cX1_takeEntry 29 = .ok (.iconst 1, 1) := by decide +kernel
theorem dX1_takeEntry_30 : decode cX1_takeEntry 30 = .ok (.istore_n 2, 1) := by decide +kernel
theorem dX1_takeEntry_31 : decode cX1_takeEntry 31 = .ok (.iload_n 2, 1) := by decide +kernel
theorem dX1_takeEntry_32 : decode cX1_takeEntry 32 = .ok (.aload_n 0, 1) := by decide +kernel
theorem dX1_takeEntry_33 : decode cX1_takeEntry 33 = .ok (.getfield 100, 3) := by decide +kernel
theorem dX1_takeEntry_36 : decode cX1_takeEntry 36 = .ok (.if_icmp .ge 23, 3) := by decide +kernel
theorem dX1_takeEntry_39 : decode cX1_takeEntry 39 = .ok (.aload_n 0, 1) := by decide +kernel
theorem dX1_takeEntry_40 : decode cX1_takeEntry 40 = .ok (.getfield 42, 3) := by decide +kernel
theorem dX1_takeEntry_43 : decode cX1_takeEntry 43 = .ok (.iload_n 2, 1) := by decide +kernel
theorem dX1_takeEntry_44 : decode cX1_takeEntry 44 = .ok (.iconst 1, 1) := by decide +kernel
theorem dX1_takeEntry_45 : decode cX1_takeEntry 45 = .ok (.isub, 1) := by decide +kernel
theorem dX1_takeEntry_46 : decode cX1_takeEntry 46 = .ok (.aload_n 0, 1) := by decide +kernel
theorem dX1_takeEntry_47 : decode cX1_takeEntry 47 = .ok (.getfield 42, 3) := by decide +kernel
theorem dX1_takeEntry_50 : decode cX1_takeEntry 50 = .ok (.iload_n 2, 1) := by decide +kernel
theorem dX1_takeEntry_51 : decode cX1_takeEntry 51 = .ok (.aaload, 1) := by decide +kernel
theorem dX1_takeEntry_52 : decode cX1_takeEntry 52 = .ok (.aastore, 1) := by decide +kernel
theorem dX1_takeEntry_53 : decode cX1_takeEntry 53 = .ok (.iinc 2 1, 3) := by decide +kernel
theorem dX1_takeEntry_56 : decode cX1_takeEntry 56 = .ok (.goto (-25), 3) := by decide +kernel
theorem dX1_takeEntry_59 : decode cX1_takeEntry 59 = .ok (.aload_n 0, 1) := by decide +kernel
theorem dX1_takeEntry_60 : decode cX1_takeEntry 60 = .ok (.dup, 1) := by decide +kernel
theorem dX1_takeEntry_61 : decode cX1_takeEntry 61 = .ok (.getfield 100, 3) := by decide +kernel
theorem dX1_takeEntry_64 : decode cX1_takeEntry 64 = .ok (.iconst 1, 1) := by decide +kernel
theorem dX1_takeEntry_65 : decode cX1_takeEntry 65 = .ok (.isub, 1) := by decide +kernel
theorem dX1_takeEntry_66 : decode cX1_takeEntry 66 = .ok (.putfield 100, 3) := by decide +kernel
theorem dX1_takeEntry_69 : decode cX1_takeEntry 69 = .ok (.aload_n 0, 1) := by decide +kernel
theorem dX1_takeEntry_70 : decode cX1_takeEntry 70 = .ok (.getfield 42, 3) := by decide +kernel
theorem dX1_takeEntry_73 : decode cX1_takeEntry 73 = .ok (.aload_n 0, 1) := by decide +kernel
theorem dX1_takeEntry_74 : decode cX1_takeEntry 74 = .ok (.getfield 100, 3) := by decide +kernel
theorem dX1_takeEntry_77 : decode cX1_takeEntry 77 = .ok (.aload_n 1, 1) := by decide +kernel
theorem dX1_takeEntry_78 : decode cX1_takeEntry 78 = .ok (.aastore, 1) := by decide +kernel
theorem dX1_takeEntry_79 : decode cX1_takeEntry 79 = .ok (.aload_n 0, 1) := by decide +kernel
theorem dX1_takeEntry_80 : decode cX1_takeEntry 80 = .ok (.aload_n 1, 1) := by decide +kernel
theorem dX1_takeEntry_81 : decode cX1_takeEntry 81 = .ok (.invokevirtual 107, 3) := by decide +kernel
theorem dX1_takeEntry_84 : decode cX1_takeEntry 84 = .ok (.ireturn, 1) := by decide +kernel
theorem dX2_init_0 : decode cX2_init 0 = .ok (.aload_n 0, 1) := by decide +kernel
theorem dX2_init_1 : decode cX2_init 1 = .ok (.invokespecial 1, 3) := by decide +kernel
theorem dX2_init_4 : decode cX2_init 4 = .ok (.aload_n 0, 1) := by decide +kernel
theorem dX2_init_5 : decode cX2_init 5 = .ok (.iload_n 1, 1) := by decide +kernel
theorem dX2_init_6 : decode cX2_init 6 = .ok (.putfield 7, 3) := by decide +kernel
theorem dX2_init_9 : decode cX2_init 9 = .ok (.aload_n 0, 1) := by decide +kernel
theorem dX2_init_10 : decode cX2_init 10 = .ok (.iload_n 2, 1) := by decide +kernel
theorem dX2_init_11 : decode cX2_init 11 = .ok (.putfield 13, 3) := by decide +kernel
theorem dX2_init_14 : decode cX2_init 14 = .ok (.aload_n 0, 1) := by decide +kernel
theorem dX2_init_15 : decode cX2_init 15 = .ok (.iload_n 2, 1) := by decide +kernel
theorem dX2_init_16 : decode cX2_init 16 = .ok (.anewarray 16, 3) := by decide +kernel
theorem dX2_init_19 : decode cX2_init 19 = .ok (.putfield 18, 3) := by decide +kernel
theorem dX2_init_22 : decode cX2_init 22 = .ok (.iconst 0, 1) := by decide +kernel
theorem dX2_init_23 : decode cX2_init 23 = .ok (.istore_n 3, 1) := by decide +kernel
theorem dX2_init_24 : decode cX2_init 24 = .ok (.iload_n 3, 1) := by decide +kernel
theorem dX2_init_25 : decode cX2_init 25 = .ok (.iload_n 2, 1) := by decide +kernel
theorem dX2_init_26 : decode cX2_init 26 = .ok (.if_icmp .ge 22, 3) := by decide +kernel
theorem dX2_init_29 : decode cX2_init 29 = .ok (.aload_n 0, 1) := by decide +kernel
theorem dX2_init_30 : decode cX2_init 30 = .ok (.getfield 18, 3) := by decide +kernel
theorem dX2_init_33 : decode cX2_init 33 = .ok (.iload_n 3, 1) := by decide +kernel
theorem dX2_init_34 : decode cX2_init 34 = .ok (.new 16, 3) := by decide +kernel
theorem dX2_init_37 : decode cX2_init 37 = .ok (.dup, 1) := by decide +kernel
theorem dX2_init_38 : decode cX2_init 38 = .ok (.invokespecial 22, 3) := by decide +kernel
theorem dX2_init_41 : decode cX2_init 41 = .ok (.aastore, 1) := by decide +kernel
theorem dX2_init_42 : decode cX2_init 42 = .ok (.iinc 3 1, 3) := by decide +kernel
theorem dX2_init_45 : decode cX2_init 45 = .ok (.goto (-21), 3) := by decide +kernel
theorem dX2_init_48 : decode cX2_init 48 = .ok (.return_, 1) := by decide +kernel
theorem dX2_isLive_0 : decode cX2_isLive 0 = .ok (.aload_n 0, 1) := by decide +kernel
theorem dX2_isLive_1 : decode cX2_isLive 1 = .ok (.getfield 23, 3) := by decide +kernel
theorem dX2_isLive_4 : decode cX2_isLive 4 = .ok (.ifCond .ne 14, 3) := by decide +kernel
theorem dX2_isLive_7 : decode cX2_isLive 7 = .ok (.aload_n 0, 1) := by decide +kernel
theorem dX2_isLive_8 : decode cX2_isLive 8 = .ok (.getfield 27, 3) := by decide +kernel
theorem dX2_isLive_11 : decode cX2_isLive 11 = .ok (.ifCond .ne 7, 3) := by decide +kernel
theorem dX2_isLive_14 : decode cX2_isLive 14 = .ok (.iconst 1, 1) := by decide +kernel
theorem dX2_isLive_15 : decode cX2_isLive 15 = .ok (.goto 4, 3) := by decide +kernel
theorem dX2_isLive_18 : decode cX2_isLive 18 = .ok (.iconst 0, 1) := by decide +kernel
theorem dX2_isLive_19 : decode cX2_isLive 19 = .ok (.ireturn, 1) := by decide +kernel
theorem dX2_slotOf_0 : decode cX2_slotOf 0 = .ok (.aload_n 0, 1) := by decide +kernel
theorem dX2_slotOf_1 : decode cX2_slotOf 1 = .ok (.getfield 23, 3) := by decide +kernel
theorem dX2_slotOf_4 : decode cX2_slotOf 4 = .ok (.ifCond .ne 32, 3) := by decide +kernel
theorem dX2_slotOf_7 : decode cX2_slotOf 7 = .ok (.iload_n 1, 1) := by decide +kernel
theorem dX2_slotOf_8 : decode cX2_slotOf 8 = .ok (.ifCond .lt 28, 3) := by decide +kernel
theorem dX2_slotOf_11 : decode cX2_slotOf 11 = .ok (.iload_n 1, 1) := by decide +kernel
theorem dX2_slotOf_12 : decode cX2_slotOf 12 = .ok (.aload_n 0, 1) := by decide +kernel
theorem dX2_slotOf_13 : decode cX2_slotOf 13 = .ok (.getfield 30, 3) := by decide +kernel
theorem dX2_slotOf_16 : decode cX2_slotOf 16 = .ok (.if_icmp .ge 20, 3) := by decide +kernel
theorem dX2_slotOf_19 : decode cX2_slotOf 19 = .ok (.iload_n 1, 1) := by decide +kernel
theorem dX2_slotOf_20 : decode cX2_slotOf 20 = .ok (.aload_n 0, 1) := by decide +kernel
theorem dX2_slotOf_21 : decode cX2_slotOf 21 = .ok (.getfield 30, 3) := by decide +kernel
theorem dX2_slotOf_24 : decode cX2_slotOf 24 = .ok (.aload_n 0, 1) := by decide +kernel
theorem dX2_slotOf_25 : decode cX2_slotOf 25 = .ok (.getfield 13, 3) := by decide +kernel
theorem dX2_slotOf_28 : decode cX2_slotOf 28 = .ok (.isub, 1) := by decide +kernel
theorem dX2_slotOf_29 : decode cX2_slotOf 29 = .ok (.if_icmp .lt 7, 3) := by decide +kernel
theorem dX2_slotOf_32 : decode cX2_slotOf 32 = .ok (.iconst 1, 1) := by decide +kernel
theorem dX2_slotOf_33 : decode cX2_slotOf 33 = .ok (.goto 4, 3) := by decide +kernel
theorem dX2_slotOf_36 : decode cX2_slotOf 36 = .ok (.iconst 0, 1) := by decide +kernel
theorem dX2_slotOf_37 : decode cX2_slotOf 37 = .ok (.istore_n 2, 1) := by decide +kernel
theorem dX2_slotOf_38 : decode cX2_slotOf 38 = .ok (.iload_n 2, 1) := by decide +kernel
theorem dX2_slotOf_39 : decode cX2_slotOf 39 = .ok (.ifCond .eq 19, 3) := by decide +kernel
theorem dX2_slotOf_42 : decode cX2_slotOf 42 = .ok (.aload_n 0, 1) := by decide +kernel
theorem dX2_slotOf_43 : decode cX2_slotOf 43 = .ok (.getfield 18, 3) := by decide +kernel
theorem dX2_slotOf_46 : decode cX2_slotOf 46 = .ok (.iload_n 1, 1) := by decide +kernel
theorem dX2_slotOf_47 : decode cX2_slotOf 47 = .ok (.aload_n 0, 1) := by decide +kernel
theorem dX2_slotOf_48 : decode cX2_slotOf 48 = .ok (.getfield 13, 3) := by decide +kernel
theorem dX2_slotOf_51 : decode cX2_slotOf 51 = .ok (.iconst 1, 1) := by decide +kernel
theorem dX2_slotOf_52 : decode cX2_slotOf 52 = .ok (.isub, 1) := by decide +kernel
theorem dX2_slotOf_53 : decode cX2_slotOf 53 = .ok (.iand, 1) := by decide +kernel
theorem dX2_slotOf_54 : decode cX2_slotOf 54 = .ok (.aaload, 1) := by decide +kernel
theorem dX2_slotOf_55 : decode cX2_slotOf 55 = .ok (.goto 4, 3) := by decide +kernel
theorem dX2_slotOf_58 : decode cX2_slotOf 58 = .ok (.aconst_null, 1) := by decide +kernel
theorem dX2_slotOf_59 : decode cX2_slotOf 59 = .ok (.areturn, 1) := by decide +kernel
theorem dX2_openSlot_0 : decode cX2_openSlot 0 = .ok (.aload_n 0, 1) := by decide +kernel
theorem dX2_openSlot_1 : decode cX2_openSlot 1 = .ok (.iload_n 1, 1) := by decide +kernel
theorem dX2_openSlot_2 : decode cX2_openSlot 2 = .ok (.invokevirtual 33, 3) := by decide +kernel
theorem dX2_openSlot_5 : decode cX2_openSlot 5 = .ok (.astore_n 2, 1) := by decide +kernel
theorem dX2_openSlot_6 : decode cX2_openSlot 6 = .ok (.aload_n 2, 1) := by decide +kernel
theorem dX2_openSlot_7 : decode cX2_openSlot 7 = .ok (.ifnull 14, 3) := by decide +kernel
theorem dX2_openSlot_10 : decode cX2_openSlot 10 = .ok (.aload_n 2, 1) := by decide +kernel
theorem dX2_openSlot_11 : decode cX2_openSlot 11 = .ok (.getfield 37, 3) := by decide +kernel
theorem dX2_openSlot_14 : decode cX2_openSlot 14 = .ok (.ifCond .eq 7, 3) := by decide +kernel
theorem dX2_openSlot_17 : decode cX2_openSlot 17 = .ok (.aload_n 2, 1) := by decide +kernel
theorem dX2_openSlot_18 : decode cX2_openSlot 18 = .ok (.goto 4, 3) := by decide +kernel
theorem dX2_openSlot_21 : decode cX2_openSlot 21 = .ok (.aconst_null, 1) := by decide +kernel
theorem dX2_openSlot_22 : decode cX2_openSlot 22 = .ok (.areturn, 1) := by decide +kernel
theorem dX2_isPublished_0 : decode cX2_isPublished 0 = .ok (.aload_n 0, 1) := by decide +kernel
theorem dX2_isPublished_1 : decode cX2_isPublished 1 = .ok (.iload_n 1, 1) := by decide +kernel
theorem dX2_isPublished_2 : decode cX2_isPublished 2 = .ok (.invokevirtual 33, 3) := by decide +kernel
theorem dX2_isPublished_5 : decode cX2_isPublished 5 = .ok (.astore_n 2, 1) := by decide +kernel
theorem dX2_isPublished_6 : decode cX2_isPublished 6 = .ok (.aload_n 2, 1) := by decide +kernel
theorem dX2_isPublished_7 : decode cX2_isPublished 7 = .ok (.ifnull 14, 3) := by decide +kernel
theorem dX2_isPublished_10 : decode cX2_isPublished 10 = .ok (.aload_n 2, 1) := by decide +kernel
theorem dX2_isPublished_11 : decode cX2_isPublished 11 = .ok (.getfield 37, 3) := by decide +kernel
theorem dX2_isPublished_14 : decode cX2_isPublished 14 = .ok (.ifCond .ne 7, 3) := by decide +kernel
theorem dX2_isPublished_17 : decode cX2_isPublished 17 = .ok (.iconst 1, 1) := by decide +kernel
theorem dX2_isPublished_18 : decode cX2_isPublished 18 = .ok (.goto 4, 3) := by decide +kernel
theorem dX2_isPublished_21 : decode cX2_isPublished 21 = .ok (.iconst 0, 1) := by decide +kernel
theorem dX2_isPublished_22 : decode cX2_isPublished 22 = .ok (.ireturn, 1) := by decide +kernel
theorem dX2_countOpen_0 : decode cX2_countOpen 0 = .ok (.iconst 0, 1) := by decide +kernel
theorem dX2_countOpen_1 : decode cX2_countOpen 1 = .ok (.istore_n 1, 1) := by decide +kernel
theorem dX2_countOpen_2 : decode cX2_countOpen 2 = .ok (.iconst 0, 1) := by decide +kernel
theorem dX2_countOpen_3 : decode cX2_countOpen 3 = .ok (.istore_n 2, 1) := by decide +kernel
theorem dX2_countOpen_4 : decode cX2_countOpen 4 = .ok (.iload_n 2, 1) := by decide +kernel
theorem dX2_countOpen_5 : decode cX2_countOpen 5 = .ok (.aload_n 0, 1) := by decide +kernel
theorem dX2_countOpen_6 : decode cX2_countOpen 6 = .ok (.getfield 13, 3) := by decide +kernel
theorem dX2_countOpen_9 : decode cX2_countOpen 9 = .ok (.if_icmp .ge 24, 3) := by decide +kernel
theorem dX2_countOpen_12 : decode cX2_countOpen 12 = .ok (.aload_n 0, 1) := by decide +kernel
theorem dX2_countOpen_13 : decode cX2_countOpen 13 = .ok (.getfield 18, 3) := by decide +kernel
theorem dX2_countOpen_16 : decode cX2_countOpen 16 = .ok (.iload_n 2, 1) := by decide +kernel
theorem dX2_countOpen_17 : decode cX2_countOpen 17 = .ok (.aaload, 1) := by decide +kernel
theorem dX2_countOpen_18 : decode cX2_countOpen 18 = .ok (.getfield 37, 3) := by decide +kernel
theorem dX2_countOpen_21 : decode cX2_countOpen 21 = .ok (.ifCond .eq 6, 3) := by decide +kernel
theorem dX2_countOpen_24 : decode cX2_countOpen 24 = .ok (.iinc 1 1, 3) := by decide +kernel
theorem dX2_countOpen_27 : decode cX2_countOpen 27 = .ok (.iinc 2 1, 3) := by decide +kernel
theorem dX2_countOpen_30 : decode cX2_countOpen 30 = .ok (.goto (-26), 3) := by decide +kernel
theorem dX2_countOpen_33 : decode cX2_countOpen 33 = .ok (.iload_n 1, 1) := by decide +kernel
theorem dX2_countOpen_34 : decode cX2_countOpen 34 = .ok (.ireturn, 1) := by decide +kernel
theorem dX2_newestPublished_0 : decode cX2_newestPublished 0 = .ok (.iconst 1, 1) := by decide +kernel
theorem dX2_newestPublished_1 : decode cX2_newestPublished 1 = .ok (.istore_n 1, 1) := by decide +kernel
theorem dX2_newestPublished_2 : decode cX2_newestPublished 2 = .ok (.iload_n 1, 1) := by decide +kernel
theorem dX2_newestPublished_3 : decode cX2_newestPublished 3 = .ok (.aload_n 0, 1) := by decide +kernel
theorem dX2_newestPublished_4 : decode cX2_newestPublished 4 = .ok (.getfield 13, 3) := by decide +kernel
theorem dX2_newestPublished_7 : decode cX2_newestPublished 7 = .ok (.if_icmp .gt 29, 3) := by decide +kernel
theorem dX2_newestPublished_10 : decode cX2_newestPublished 10 = .ok (.aload_n 0, 1) := by decide +kernel
theorem dX2_newestPublished_11 : decode cX2_newestPublished 11 = .ok (.aload_n 0, 1) := by decide +kernel
theorem dX2_newestPublished_12 : decode cX2_newestPublished 12 = .ok (.getfield 30, 3) := by decide +kernel
theorem dX2_newestPublished_15 : decode cX2_newestPublished 15 = .ok (.iload_n 1, 1) := by decide +kernel
theorem dX2_newestPublished_16 : decode cX2_newestPublished 16 = .ok (.isub, 1) := by decide +kernel
theorem dX2_newestPublished_17 : decode cX2_newestPublished 17 = .ok (.invokevirtual 40, 3) := by decide +kernel
theorem dX2_newestPublished_20 : decode cX2_newestPublished 20 = .ok (.ifCond .eq 10, 3) := by decide +kernel
theorem dX2_newestPublished_23 : decode cX2_newestPublished 23 = .ok (.aload_n 0, 1) := by decide +kernel
theorem dX2_newestPublished_24 : decode cX2_newestPublished 24 = .ok (.getfield 30, 3) := by decide +kernel
theorem dX2_newestPublished_27 : decode cX2_newestPublished 27 = .ok (.iload_n 1, 1) := by decide +kernel
theorem dX2_newestPublished_28 : decode cX2_newestPublished 28 = .ok (.isub, 1) := by decide +kernel
theorem dX2_newestPublished_29 : decode cX2_newestPublished 29 = .ok (.ireturn, 1) := by decide +kernel
theorem dX2_newestPublished_30 : decode cX2_newestPublished 30 = .ok (.iinc 1 1, 3) := by decide +kernel
theorem dX2_newestPublished_33 : decode cX2_newestPublished 33 = .ok (.goto (-31), 3) := by decide +kernel
theorem dX2_newestPublished_36 : decode cX2_newestPublished 36 = .ok (.iconst (-1), 1) := by decide +kernel
theorem dX2_newestPublished_37 : decode cX2_newestPublished 37 = .ok (.ireturn, 1) := by decide +kernel
theorem dX2_newClaim_0 : decode cX2_newClaim 0 = .ok (.aload_n 0, 1) := by decide +kernel
theorem dX2_newClaim_1 : decode cX2_newClaim 1 = .ok (.getfield 18, 3) := by decide +kernel
theorem dX2_newClaim_4 : decode cX2_newClaim 4 = .ok (.aload_n 0, 1) := by decide +kernel
theorem dX2_newClaim_5 : decode cX2_newClaim 5 = .ok (.getfield 30, 3) := by decide +kernel
theorem dX2_newClaim_8 : decode cX2_newClaim 8 = .ok (.aload_n 0, 1) := by decide +kernel
theorem dX2_newClaim_9 : decode cX2_newClaim 9 = .ok (.getfield 13, 3) := by decide +kernel
theorem dX2_newClaim_12 : decode cX2_newClaim 12 = .ok (.iconst 1, 1) := by decide +kernel
theorem dX2_newClaim_13 : decode cX2_newClaim 13 = .ok (.isub, 1) := by decide +kernel
theorem dX2_newClaim_14 : decode cX2_newClaim 14 = .ok (.iand, 1) := by decide +kernel
theorem dX2_newClaim_15 : decode cX2_newClaim 15 = .ok (.aaload, 1) := by decide +kernel
theorem dX2_newClaim_16 : decode cX2_newClaim 16 = .ok (.astore_n 3, 1) := by decide +kernel
theorem dX2_newClaim_17 : decode cX2_newClaim 17 = .ok (.aload_n 3, 1) := by decide +kernel
theorem dX2_newClaim_18 : decode cX2_newClaim 18 = .ok (.aload_n 0, 1) := by decide +kernel
theorem dX2_newClaim_19 : decode cX2_newClaim 19 = .ok (.getfield 7, 3) := by decide +kernel
theorem dX2_newClaim_22 : decode cX2_newClaim 22 = .ok (.aload_n 0, 1) := by decide +kernel
theorem dX2_newClaim_23 : decode cX2_newClaim 23 = .ok (.getfield 30, 3) := by decide +kernel
theorem dX2_newClaim_26 : decode cX2_newClaim 26 = .ok (.lload_n 1, 1) := by decide +kernel
theorem dX2_newClaim_27 : decode cX2_newClaim 27 = .ok (.invokevirtual 44, 3) := by decide +kernel
theorem dX2_newClaim_30 : decode cX2_newClaim 30 = .ok (.aload_n 0, 1) := by decide +kernel
theorem dX2_newClaim_31 : decode cX2_newClaim 31 = .ok (.dup, 1) := by decide +kernel
theorem dX2_newClaim_32 : decode cX2_newClaim 32 = .ok (.getfield 30, 3) := by decide +kernel
theorem dX2_newClaim_35 : decode cX2_newClaim 35 = .ok (.iconst 1, 1) := by decide +kernel
theorem dX2_newClaim_36 : decode cX2_newClaim 36 = .ok (.iadd, 1) := by decide +kernel
theorem dX2_newClaim_37 : decode cX2_newClaim 37 = .ok (.putfield 30, 3) := by decide +kernel
theorem dX2_newClaim_40 : decode cX2_newClaim 40 = .ok (.aload_n 0, 1) := by decide +kernel
theorem dX2_newClaim_41 : decode cX2_newClaim 41 = .ok (.lload_n 1, 1) := by decide +kernel
theorem dX2_newClaim_42 : decode cX2_newClaim 42 = .ok (.putfield 48, 3) := by decide +kernel
theorem dX2_newClaim_45 : decode cX2_newClaim 45 = .ok (.aload_n 3, 1) := by decide +kernel
theorem dX2_newClaim_46 : decode cX2_newClaim 46 = .ok (.areturn, 1) := by decide +kernel
theorem dX3_init_0 : decode cX3_init 0 = .ok (.aload_n 0, 1) := by decide +kernel
theorem dX3_init_1 : decode cX3_init 1 = .ok (.invokespecial 1, 3) := by decide +kernel
theorem dX3_init_4 : decode cX3_init 4 = .ok (.aload_n 0, 1) := by decide +kernel
theorem dX3_init_5 : decode cX3_init 5 = .ok (.bipush 8, 2) := by decide +kernel
theorem dX3_init_7 : decode cX3_init 7 = .ok (.anewarray 9, 3) := by decide +kernel
theorem dX3_init_10 : decode cX3_init 10 = .ok (.putfield 11, 3) := by decide +kernel
theorem dX3_init_13 : decode cX3_init 13 = .ok (.aload_n 0, 1) := by decide +kernel
theorem dX3_init_14 : decode cX3_init 14 = .ok (.bipush 16, 2) := by decide +kernel
theorem dX3_init_16 : decode cX3_init 16 = .ok (.anewarray 15, 3) := by decide +kernel
theorem dX3_init_19 : decode cX3_init 19 = .ok (.putfield 17, 3) := by decide +kernel
theorem dX3_init_22 : decode cX3_init 22 = .ok (.aload_n 0, 1) := by decide +kernel
theorem dX3_init_23 : decode cX3_init 23 = .ok (.bipush 7, 2) := by decide +kernel
theorem dX3_init_25 : decode cX3_init 25 = .ok (.newarray .int, 2) := by decide +kernel
theorem dX3_init_27 : decode cX3_init 27 = .ok (.putfield 21, 3) := by decide +kernel
theorem dX3_init_30 : decode cX3_init 30 = .ok (.aload_n 0, 1) := by decide +kernel
theorem dX3_init_31 : decode cX3_init 31 = .ok (.bipush 16, 2) := by decide +kernel
theorem dX3_init_33 : decode cX3_init 33 = .ok (.newarray .int, 2) := by decide +kernel
theorem dX3_init_35 : decode cX3_init 35 = .ok (.putfield 25, 3) := by decide +kernel
theorem dX3_init_38 : decode cX3_init 38 = .ok (.aload_n 0, 1) := by decide +kernel
theorem dX3_init_39 : decode cX3_init 39 = .ok (.iconst (-1), 1) := by decide +kernel
theorem dX3_init_40 : decode cX3_init 40 = .ok (.putfield 28, 3) := by decide +kernel
theorem dX3_init_43 : decode cX3_init 43 = .ok (.return_, 1) := by decide +kernel
theorem dX3_ring_0 : decode cX3_ring 0 = .ok (.iload_n 1, 1) := by decide +kernel
theorem dX3_ring_1 : decode cX3_ring 1 = .ok (.ifCond .ge 9, 3) := by decide +kernel
theorem dX3_ring_4 : decode cX3_ring 4 = .ok (.aload_n 0, 1) := by decide +kernel
theorem dX3_ring_5 : decode cX3_ring 5 = .ok (.iconst 3, 1) := by decide +kernel
theorem dX3_ring_6 : decode cX3_ring 6 = .ok (.invokevirtual 32, 3) := by decide +kernel
theorem dX3_ring_9 : decode cX3_ring 9 = .ok (.ireturn, 1) := by decide +kernel
theorem dX3_ring_10 : decode cX3_ring 10 = .ok (.iload_n 1, 1) := by decide +kernel
theorem dX3_ring_11 : decode cX3_ring 11 = .ok (.ifCond .eq 17, 3) := by decide +kernel
theorem dX3_ring_14 : decode cX3_ring 14 = .ok (.iload_n 1, 1) := by decide +kernel
theorem dX3_ring_15 : decode cX3_ring 15 = .ok (.bipush 64, 2) := by decide +kernel
theorem dX3_ring_17 : decode cX3_ring 17 = .ok (.if_icmp .gt 11, 3) := by decide +kernel
theorem dX3_ring_20 : decode cX3_ring 20 = .ok (.iload_n 1, 1) := by decide +kernel
theorem dX3_ring_21 : decode cX3_ring 21 = .ok (.invokestatic 36, 3) := by decide +kernel
theorem dX3_ring_24 : decode cX3_ring 24 = .ok (.iconst 1, 1) := by decide +kernel
theorem dX3_ring_25 : decode cX3_ring 25 = .ok (.if_icmp .eq 5, 3) := by decide +kernel
theorem dX3_ring_28 : decode cX3_ring 28 = .ok (.iconst (-1), 1) := by decide +kernel
theorem dX3_ring_29 : decode cX3_ring 29 = .ok (.ireturn, 1) := by decide +kernel
theorem dX3_ring_30 : decode cX3_ring 30 = .ok (.aload_n 0, 1) := by decide +kernel
theorem dX3_ring_31 : decode cX3_ring 31 = .ok (.getfield 41, 3) := by decide +kernel
theorem dX3_ring_34 : decode cX3_ring 34 = .ok (.ifCond .eq 6, 3) := by decide +kernel
theorem dX3_ring_37 : decode cX3_ring 37 = .ok (.bipush (-2), 2) := by decide +kernel
theorem dX3_ring_39 : decode cX3_ring 39 = .ok (.ireturn, 1) := by decide +kernel
theorem dX3_ring_40 : decode cX3_ring 40 = .ok (.aload_n 0, 1) := by decide +kernel
theorem dX3_ring_41 : decode cX3_ring 41 = .ok (.getfield 45, 3) := by decide +kernel
theorem dX3_ring_44 : decode cX3_ring 44 = .ok (.bipush 8, 2) := by decide +kernel
theorem dX3_ring_46 : decode cX3_ring 46 = .ok (.if_icmp .lt 6, 3) := by decide +kernel
theorem dX3_ring_49 : decode cX3_ring 49 = .ok (.bipush (-4), 2) := by decide +kernel
theorem dX3_ring_51 : decode cX3_ring 51 = .ok (.ireturn, 1) := by decide +kernel
theorem dX3_ring_52 : decode cX3_ring 52 = .ok (.aload_n 0, 1) := by decide +kernel
theorem dX3_ring_53 : decode cX3_ring 53 = .ok (.getfield 45, 3) := by decide +kernel
theorem dX3_ring_56 : decode cX3_ring 56 = .ok (.istore_n 2, 1) := by decide +kernel
theorem dX3_ring_57 : decode cX3_ring 57 = .ok (.aload_n 0, 1) := by decide +kernel
theorem dX3_ring_58 : decode cX3_ring 58 = .ok (.getfield 11, 3) := by decide +kernel
theorem dX3_ring_61 : decode cX3_ring 61 = .ok (.iload_n 2, 1) := by decide +kernel
theorem dX3_ring_62 : decode cX3_ring 62 = .ok (.new 9, 3) := by decide +kernel
theorem dX3_ring_65 : decode cX3_ring 65 = .ok (.dup, 1) := by decide +kernel
theorem dX3_ring_66 : decode cX3_ring 66 = .ok (.iload_n 2, 1) := by decide +kernel
theorem dX3_ring_67 : decode cX3_ring 67 = .ok (.iload_n 1, 1) := by decide +kernel
theorem dX3_ring_68 : decode cX3_ring 68 = .ok (.invokespecial 48, 3) := by decide +kernel
theorem dX3_ring_71 : decode cX3_ring 71 = .ok (.aastore, 1) := by decide +kernel
theorem dX3_ring_72 : decode cX3_ring 72 = .ok (.aload_n 0, 1) := by decide +kernel
theorem dX3_ring_73 : decode cX3_ring 73 = .ok (.dup, 1) := by decide +kernel
theorem dX3_ring_74 : decode cX3_ring 74 = .ok (.getfield 45, 3) := by decide +kernel
theorem dX3_ring_77 : decode cX3_ring 77 = .ok (.iconst 1, 1) := by decide +kernel
theorem dX3_ring_78 : decode cX3_ring 78 = .ok (.iadd, 1) := by decide +kernel
theorem dX3_ring_79 : decode cX3_ring 79 = .ok (.putfield 45, 3) := by decide +kernel
theorem dX3_ring_82 : decode cX3_ring 82 = .ok (.aload_n 0, 1) := by decide +kernel
theorem dX3_ring_83 : decode cX3_ring 83 = .ok (.dup, 1) := by decide +kernel
theorem dX3_ring_84 : decode cX3_ring 84 = .ok (.getfield 51, 3) := by decide +kernel
theorem dX3_ring_87 : decode cX3_ring 87 = .ok (.iconst 1, 1) := by decide +kernel
theorem dX3_ring_88 : decode cX3_ring 88 = .ok (.iload_n 1, 1) := by decide +kernel
theorem dX3_ring_89 : decode cX3_ring 89 = .ok (.iadd, 1) := by decide +kernel
theorem dX3_ring_90 : decode cX3_ring 90 = .ok (.iadd, 1) := by decide +kernel
theorem dX3_ring_91 : decode cX3_ring 91 = .ok (.putfield 51, 3) := by decide +kernel
theorem dX3_ring_94 : decode cX3_ring 94 = .ok (.iload_n 2, 1) := by decide +kernel
theorem dX3_ring_95 : decode cX3_ring 95 = .ok (.ireturn, 1) := by decide +kernel
theorem dX3_reader_0 : decode cX3_reader 0 = .ok (.aload_n 0, 1) := by decide +kernel
theorem dX3_reader_1 : decode cX3_reader 1 = .ok (.iload_n 2, 1) := by decide +kernel
theorem dX3_reader_2 : decode cX3_reader 2 = .ok (.invokevirtual 54, 3) := by decide +kernel
theorem dX3_reader_5 : decode cX3_reader 5 = .ok (.astore 4, 2) := by decide +kernel
theorem dX3_reader_7 : decode cX3_reader 7 = .ok (.iload_n 1, 1) := by decide +kernel
theorem dX3_reader_8 : decode cX3_reader 8 = .ok (.iconst 1, 1) := by decide +kernel
theorem dX3_reader_9 : decode cX3_reader 9 = .ok (.if_icmp .lt 24, 3) := by decide +kernel
theorem dX3_reader_12 : decode cX3_reader 12 = .ok (.iload_n 1, 1) := by decide +kernel
theorem dX3_reader_13 : decode cX3_reader 13 = .ok (.bipush 7, 2) := by decide +kernel
theorem dX3_reader_15 : decode cX3_reader 15 = .ok (.if_icmp .gt 18, 3) := by decide +kernel
theorem dX3_reader_18 : decode cX3_reader 18 = .ok (.aload 4, 2) := by decide +kernel
theorem dX3_reader_20 : decode cX3_reader 20 = .ok (.ifnull 13, 3) := by decide +kernel
theorem dX3_reader_23 : decode cX3_reader 23 = .ok (.aload_n 0, 1) := by decide +kernel
theorem dX3_reader_24 : decode cX3_reader 24 = .ok (.iload_n 1, 1) := by decide +kernel
theorem dX3_reader_25 : decode cX3_reader 25 = .ok (.iload_n 2, 1) := by decide +kernel
theorem dX3_reader_26 : decode cX3_reader 26 = .ok (.iload_n 3, 1) := by decide +kernel
theorem dX3_reader_27 : decode cX3_reader 27 = .ok (.invokevirtual 58, 3) := by decide +kernel
theorem dX3_reader_30 : decode cX3_reader 30 = .ok (.ifCond .ne 5, 3) := by decide +kernel
theorem dX3_reader_33 : decode cX3_reader 33 = .ok (.iconst (-1), 1) := by decide +kernel
theorem dX3_reader_34 : decode cX3_reader 34 = .ok (.ireturn, 1) := by decide +kernel
theorem dX3_reader_35 : decode cX3_reader 35 = .ok (.aload_n 0, 1) := by decide +kernel
theorem dX3_reader_36 : decode cX3_reader 36 = .ok (.getfield 41, 3) := by decide +kernel
theorem dX3_reader_39 : decode cX3_reader 39 = .ok (.ifCond .eq 6, 3) := by decide +kernel
theorem dX3_reader_42 : decode cX3_reader 42 = .ok (.bipush (-2), 2) := by decide +kernel
theorem dX3_reader_44 : decode cX3_reader 44 = .ok (.ireturn, 1) := by decide +kernel
theorem dX3_reader_45 : decode cX3_reader 45 = .ok (.iload_n 1, 1) := by decide +kernel
theorem dX3_reader_46 : decode cX3_reader 46 = .ok (.bipush 6, 2) := by decide +kernel
theorem dX3_reader_48 : decode cX3_reader 48 = .ok (.if_icmp .ne 15, 3) := by decide +kernel
theorem dX3_reader_51 : decode cX3_reader 51 = .ok (.aload_n 0, 1) := by decide +kernel
theorem dX3_reader_52 : decode cX3_reader 52 = .ok (.iload_n 3, 1) := by decide +kernel
theorem dX3_reader_53 : decode cX3_reader 53 = .ok (.iload_n 2, 1) := by decide +kernel
theorem dX3_reader_54 : decode cX3_reader 54 = .ok (.invokevirtual 62, 3) := by decide +kernel
theorem dX3_reader_57 : decode cX3_reader 57 = .ok (.ifCond .ge 6, 3) := by decide +kernel
theorem dX3_reader_60 : decode cX3_reader 60 = .ok (.bipush (-3), 2) := by decide +kernel
theorem dX3_reader_62 : decode cX3_reader 62 = .ok (.ireturn, 1) := by decide +kernel
theorem dX3_reader_63 : decode cX3_reader 63 = .ok (.aload_n 0, 1) := by decide +kernel
theorem dX3_reader_64 : decode cX3_reader 64 = .ok (.getfield 66, 3) := by decide +kernel
theorem dX3_reader_67 : decode cX3_reader 67 = .ok (.bipush 16, 2) := by decide +kernel
theorem dX3_reader_69 : decode cX3_reader 69 = .ok (.if_icmp .lt 6, 3) := by decide +kernel
theorem dX3_reader_72 : decode cX3_reader 72 = .ok (.bipush (-4), 2) := by decide +kernel
theorem dX3_reader_74 : decode cX3_reader 74 = .ok (.ireturn, 1) := by decide +kernel
theorem dX3_reader_75 : decode cX3_reader 75 = .ok (.aload_n 0, 1) := by decide +kernel
theorem dX3_reader_76 : decode cX3_reader 76 = .ok (.getfield 66, 3) := by decide +kernel
theorem dX3_reader_79 : decode cX3_reader 79 = .ok (.istore 5, 2) := by decide +kernel
theorem dX3_reader_81 : decode cX3_reader 81 = .ok (.aload_n 0, 1) := by decide +kernel
theorem dX3_reader_82 : decode cX3_reader 82 = .ok (.getfield 17, 3) := by decide +kernel
theorem dX3_reader_85 : decode cX3_reader 85 = .ok (.iload 5, 2) := by decide +kernel
theorem dX3_reader_87 : decode cX3_reader 87 = .ok (.aload_n 0, 1) := by decide +kernel
theorem dX3_reader_88 : decode cX3_reader 88 = .ok (.iload_n 1, 1) := by decide +kernel
theorem dX3_reader_89 : decode cX3_reader 89 = .ok (.aload 4, 2) := by decide +kernel
theorem dX3_reader_91 : decode cX3_reader 91 = .ok (.iload_n 3, 1) := by decide +kernel
theorem dX3_reader_92 : decode cX3_reader 92 = .ok (.invokevirtual 69, 3) := by decide +kernel
theorem dX3_reader_95 : decode cX3_reader 95 = .ok (.aastore, 1) := by decide +kernel
theorem dX3_reader_96 : decode cX3_reader 96 = .ok (.aload_n 0, 1) := by decide +kernel
theorem dX3_reader_97 : decode cX3_reader 97 = .ok (.dup, 1) := by decide +kernel
theorem dX3_reader_98 : decode cX3_reader 98 = .ok (.getfield 66, 3) := by decide +kernel
theorem dX3_reader_101 : decode cX3_reader 101 = .ok (.iconst 1, 1) := by decide +kernel
theorem dX3_reader_102 : decode cX3_reader 102 = .ok (.iadd, 1) := by decide +kernel
theorem dX3_reader_103 : decode cX3_reader 103 = .ok (.putfield 66, 3) := by decide +kernel
theorem dX3_reader_106 : decode cX3_reader 106 = .ok (.aload_n 0, 1) := by decide +kernel
theorem dX3_reader_107 : decode cX3_reader 107 = .ok (.dup, 1) := by decide +kernel
theorem dX3_reader_108 : decode cX3_reader 108 = .ok (.getfield 51, 3) := by decide +kernel
theorem dX3_reader_111 : decode cX3_reader 111 = .ok (.iload_n 1, 1) := by decide +kernel
theorem dX3_reader_112 : decode cX3_reader 112 = .ok (.iconst 4, 1) := by decide +kernel
theorem dX3_reader_113 : decode cX3_reader 113 = .ok (.if_icmp .ne 8, 3) := by decide +kernel
theorem dX3_reader_116 : decode cX3_reader 116 = .ok (.bipush 33, 2) := by decide +kernel
theorem dX3_reader_118 : decode cX3_reader 118 = .ok (.goto 4, 3) := by decide +kernel
theorem dX3_reader_121 : decode cX3_reader 121 = .ok (.iconst 1, 1) := by decide +kernel
theorem dX3_reader_122 : decode cX3_reader 122 = .ok (.iadd, 1) := by decide +kernel
theorem dX3_reader_123 : decode cX3_reader 123 = .ok (.putfield 51, 3) := by decide +kernel
theorem dX3_reader_126 : decode cX3_reader 126 = .ok (.iload 5, 2) := by decide +kernel
theorem dX3_reader_128 : decode cX3_reader 128 = .ok (.ireturn, 1) := by decide +kernel
theorem dX3_join_0 : decode cX3_join 0 = .ok (.aload_n 0, 1) := by decide +kernel
theorem dX3_join_1 : decode cX3_join 1 = .ok (.iload_n 1, 1) := by decide +kernel
theorem dX3_join_2 : decode cX3_join 2 = .ok (.invokevirtual 73, 3) := by decide +kernel
theorem dX3_join_5 : decode cX3_join 5 = .ok (.astore_n 3, 1) := by decide +kernel
theorem dX3_join_6 : decode cX3_join 6 = .ok (.aload_n 3, 1) := by decide +kernel
theorem dX3_join_7 : decode cX3_join 7 = .ok (.ifnull 11, 3) := by decide +kernel
theorem dX3_join_10 : decode cX3_join 10 = .ok (.aload_n 0, 1) := by decide +kernel
theorem dX3_join_11 : decode cX3_join 11 = .ok (.iload_n 2, 1) := by decide +kernel
theorem dX3_join_12 : decode cX3_join 12 = .ok (.invokevirtual 54, 3) := by decide +kernel
theorem dX3_join_15 : decode cX3_join 15 = .ok (.ifnonnull 5, 3) := by decide +kernel
theorem dX3_join_18 : decode cX3_join 18 = .ok (.iconst (-1), 1) := by decide +kernel
theorem dX3_join_19 : decode cX3_join 19 = .ok (.ireturn, 1) := by decide +kernel
theorem dX3_join_20 : decode cX3_join 20 = .ok (.aload_n 0, 1) := by decide +kernel
theorem dX3_join_21 : decode cX3_join 21 = .ok (.getfield 41, 3) := by decide +kernel
theorem dX3_join_24 : decode cX3_join 24 = .ok (.ifCond .eq 6, 3) := by decide +kernel
theorem dX3_join_27 : decode cX3_join 27 = .ok (.bipush (-2), 2) := by decide +kernel
theorem dX3_join_29 : decode cX3_join 29 = .ok (.ireturn, 1) := by decide +kernel
theorem dX3_join_30 : decode cX3_join 30 = .ok (.aload_n 3, 1) := by decide +kernel
theorem dX3_join_31 : decode cX3_join 31 = .ok (.getfield 77, 3) := by decide +kernel
theorem dX3_join_34 : decode cX3_join 34 = .ok (.iconst 5, 1) := by decide +kernel
theorem dX3_join_35 : decode cX3_join 35 = .ok (.if_icmp .eq 6, 3) := by decide +kernel
theorem dX3_join_38 : decode cX3_join 38 = .ok (.bipush (-3), 2) := by decide +kernel
theorem dX3_join_40 : decode cX3_join 40 = .ok (.ireturn, 1) := by decide +kernel
theorem dX3_join_41 : decode cX3_join 41 = .ok (.aload_n 3, 1) := by decide +kernel
theorem dX3_join_42 : decode cX3_join 42 = .ok (.iload_n 2, 1) := by decide +kernel
theorem dX3_join_43 : decode cX3_join 43 = .ok (.invokevirtual 80, 3) := by decide +kernel
theorem dX3_join_46 : decode cX3_join 46 = .ok (.ifCond .lt 6, 3) := by decide +kernel
theorem dX3_join_49 : decode cX3_join 49 = .ok (.bipush (-5), 2) := by decide +kernel
theorem dX3_join_51 : decode cX3_join 51 = .ok (.ireturn, 1) := by decide +kernel
theorem dX3_join_52 : decode cX3_join 52 = .ok (.aload_n 3, 1) := by decide +kernel
theorem dX3_join_53 : decode cX3_join 53 = .ok (.getfield 83, 3) := by decide +kernel
theorem dX3_join_56 : decode cX3_join 56 = .ok (.iconst 4, 1) := by decide +kernel
theorem dX3_join_57 : decode cX3_join 57 = .ok (.if_icmp .lt 6, 3) := by decide +kernel
theorem dX3_join_60 : decode cX3_join 60 = .ok (.bipush (-4), 2) := by decide +kernel
theorem dX3_join_62 : decode cX3_join 62 = .ok (.ireturn, 1) := by decide +kernel
theorem dX3_join_63 : decode cX3_join 63 = .ok (.aload_n 3, 1) := by decide +kernel
theorem dX3_join_64 : decode cX3_join 64 = .ok (.iload_n 2, 1) := by decide +kernel
theorem dX3_join_65 : decode cX3_join 65 = .ok (.invokevirtual 86, 3) := by decide +kernel
theorem dX3_join_68 : decode cX3_join 68 = .ok (.iconst 1, 1) := by decide +kernel
theorem dX3_join_69 : decode cX3_join 69 = .ok (.ireturn, 1) := by decide +kernel
theorem dX3_name_0 : decode cX3_name 0 = .ok (.aload_n 0, 1) := by decide +kernel
theorem dX3_name_1 : decode cX3_name 1 = .ok (.iload_n 1, 1) := by decide +kernel
theorem dX3_name_2 : decode cX3_name 2 = .ok (.invokevirtual 73, 3) := by decide +kernel
theorem dX3_name_5 : decode cX3_name 5 = .ok (.astore_n 3, 1) := by decide +kernel
theorem dX3_name_6 : decode cX3_name 6 = .ok (.aload_n 3, 1) := by decide +kernel
theorem dX3_name_7 : decode cX3_name 7 = .ok (.ifnull 11, 3) := by decide +kernel
theorem dX3_name_10 : decode cX3_name 10 = .ok (.aload_n 0, 1) := by decide +kernel
theorem dX3_name_11 : decode cX3_name 11 = .ok (.iload_n 2, 1) := by decide +kernel
theorem dX3_name_12 : decode cX3_name 12 = .ok (.invokevirtual 73, 3) := by decide +kernel
theorem dX3_name_15 : decode cX3_name 15 = .ok (.ifnonnull 5, 3) := by decide +kernel
theorem dX3_name_18 : decode cX3_name 18 = .ok (.iconst (-1), 1) := by decide +kernel
theorem dX3_name_19 : decode cX3_name 19 = .ok (.ireturn, 1) := by decide +kernel
theorem dX3_name_20 : decode cX3_name 20 = .ok (.aload_n 0, 1) := by decide +kernel
theorem dX3_name_21 : decode cX3_name 21 = .ok (.getfield 41, 3) := by decide +kernel
theorem dX3_name_24 : decode cX3_name 24 = .ok (.ifCond .eq 6, 3) := by decide +kernel
theorem dX3_name_27 : decode cX3_name 27 = .ok (.bipush (-2), 2) := by decide +kernel
theorem dX3_name_29 : decode cX3_name 29 = .ok (.ireturn, 1) := by decide +kernel
theorem dX3_name_30 : decode cX3_name 30 = .ok (.aload_n 3, 1) := by decide +kernel
theorem dX3_name_31 : decode cX3_name 31 = .ok (.invokevirtual 90, 3) := by decide +kernel
theorem dX3_name_34 : decode cX3_name 34 = .ok (.ifCond .eq 18, 3) := by decide +kernel
theorem dX3_name_37 : decode cX3_name 37 = .ok (.aload_n 0, 1) := by decide +kernel
theorem dX3_name_38 : decode cX3_name 38 = .ok (.iload_n 2, 1) := by decide +kernel
theorem dX3_name_39 : decode cX3_name 39 = .ok (.aload_n 3, 1) := by decide +kernel
theorem dX3_name_40 : decode cX3_name 40 = .ok (.getfield 94, 3) := by decide +kernel
theorem dX3_name_43 : decode cX3_name 43 = .ok (.getfield 98, 3) := by decide +kernel
theorem dX3_name_46 : decode cX3_name 46 = .ok (.invokevirtual 62, 3) := by decide +kernel
theorem dX3_name_49 : decode cX3_name 49 = .ok (.ifCond .ge 6, 3) := by decide +kernel
theorem dX3_name_52 : decode cX3_name 52 = .ok (.bipush (-3), 2) := by decide +kernel
theorem dX3_name_54 : decode cX3_name 54 = .ok (.ireturn, 1) := by decide +kernel
theorem dX3_name_55 : decode cX3_name 55 = .ok (.iload_n 1, 1) := by decide +kernel
theorem dX3_name_56 : decode cX3_name 56 = .ok (.iload_n 2, 1) := by decide +kernel
theorem dX3_name_57 : decode cX3_name 57 = .ok (.if_icmp .eq 11, 3) := by decide +kernel
theorem dX3_name_60 : decode cX3_name 60 = .ok (.aload_n 3, 1) := by decide +kernel
theorem dX3_name_61 : decode cX3_name 61 = .ok (.iload_n 2, 1) := by decide +kernel
theorem dX3_name_62 : decode cX3_name 62 = .ok (.invokevirtual 101, 3) := by decide +kernel
theorem dX3_name_65 : decode cX3_name 65 = .ok (.ifCond .eq 6, 3) := by decide +kernel
theorem dX3_name_68 : decode cX3_name 68 = .ok (.bipush (-5), 2) := by decide +kernel
theorem dX3_name_70 : decode cX3_name 70 = .ok (.ireturn, 1) := by decide +kernel
theorem dX3_name_71 : decode cX3_name 71 = .ok (.aload_n 3, 1) := by decide +kernel
theorem dX3_name_72 : decode cX3_name 72 = .ok (.getfield 105, 3) := by decide +kernel
theorem dX3_name_75 : decode cX3_name 75 = .ok (.iconst 4, 1) := by decide +kernel
theorem dX3_name_76 : decode cX3_name 76 = .ok (.if_icmp .lt 6, 3) := by decide +kernel
theorem dX3_name_79 : decode cX3_name 79 = .ok (.bipush (-4), 2) := by decide +kernel
theorem dX3_name_81 : decode cX3_name 81 = .ok (.ireturn, 1) := by decide +kernel
theorem dX3_name_82 : decode cX3_name 82 = .ok (.aload_n 0, 1) := by decide +kernel
theorem dX3_name_83 : decode cX3_name 83 = .ok (.iload_n 2, 1) := by decide +kernel
theorem dX3_name_84 : decode cX3_name 84 = .ok (.iload_n 1, 1) := by decide +kernel
theorem dX3_name_85 : decode cX3_name 85 = .ok (.invokevirtual 108, 3) := by decide +kernel
theorem dX3_name_88 : decode cX3_name 88 = .ok (.ifCond .eq 12, 3) := by decide +kernel
theorem dX3_name_91 : decode cX3_name 91 = .ok (.aload_n 0, 1) := by decide +kernel
theorem dX3_name_92 : decode cX3_name 92 = .ok (.iload_n 1, 1) := by decide +kernel
theorem dX3_name_93 : decode cX3_name 93 = .ok (.iload_n 2, 1) := by decide +kernel
theorem dX3_name_94 : decode cX3_name 94 = .ok (.invokevirtual 112, 3) := by decide +kernel
theorem dX3_name_97 : decode cX3_name 97 = .ok (.bipush (-6), 2) := by decide +kernel
theorem dX3_name_99 : decode cX3_name 99 = .ok (.ireturn, 1) := by decide +kernel
theorem dX3_name_100 : decode cX3_name 100 = .ok (.aload_n 3, 1) := by decide +kernel
theorem dX3_name_101 : decode cX3_name 101 = .ok (.iload_n 2, 1) := by decide +kernel
theorem dX3_name_102 : decode cX3_name 102 = .ok (.invokevirtual 115, 3) := by decide +kernel
theorem dX3_name_105 : decode cX3_name 105 = .ok (.iconst 1, 1) := by decide +kernel
theorem dX3_name_106 : decode cX3_name 106 = .ok (.ireturn, 1) := by decide +kernel
theorem dX3_circle_0 : decode cX3_circle 0 = .ok (.iload_n 1, 1) := by decide +kernel
theorem dX3_circle_1 : decode cX3_circle 1 = .ok (.ifCond .lt 29, 3) := by decide +kernel
theorem dX3_circle_4 : decode cX3_circle 4 = .ok (.iload_n 1, 1) := by decide +kernel
theorem dX3_circle_5 : decode cX3_circle 5 = .ok (.aload_n 0, 1) := by decide +kernel
theorem dX3_circle_6 : decode cX3_circle 6 = .ok (.getfield 118, 3) := by decide +kernel
theorem dX3_circle_9 : decode cX3_circle 9 = .ok (.if_icmp .ge 21, 3) := by decide +kernel
theorem dX3_circle_12 : decode cX3_circle 12 = .ok (.iload_n 1, 1) := by decide +kernel
theorem dX3_circle_13 : decode cX3_circle 13 = .ok (.aload_n 0, 1) := by decide +kernel
theorem dX3_circle_14 : decode cX3_circle 14 = .ok (.getfield 25, 3) := by decide +kernel
theorem dX3_circle_17 : decode cX3_circle 17 = .ok (.arraylength, 1) := by decide +kernel
theorem dX3_circle_18 : decode cX3_circle 18 = .ok (.if_icmp .ge 12, 3) := by decide +kernel
theorem dX3_circle_21 : decode cX3_circle 21 = .ok (.aload_n 0, 1) := by decide +kernel
theorem dX3_circle_22 : decode cX3_circle 22 = .ok (.getfield 25, 3) := by decide +kernel
theorem dX3_circle_25 : decode cX3_circle 25 = .ok (.iload_n 1, 1) := by decide +kernel
theorem dX3_circle_26 : decode cX3_circle 26 = .ok (.iaload, 1) := by decide +kernel
theorem dX3_circle_27 : decode cX3_circle 27 = .ok (.goto 4, 3) := by decide +kernel
theorem dX3_circle_30 : decode cX3_circle 30 = .ok (.iconst (-1), 1) := by decide +kernel
theorem dX3_circle_31 : decode cX3_circle 31 = .ok (.ireturn, 1) := by decide +kernel
theorem dX3_begin_0 : decode cX3_begin 0 = .ok (.aload_n 0, 1) := by decide +kernel
theorem dX3_begin_1 : decode cX3_begin 1 = .ok (.getfield 41, 3) := by decide +kernel
theorem dX3_begin_4 : decode cX3_begin 4 = .ok (.ifCond .eq 6, 3) := by decide +kernel
theorem dX3_begin_7 : decode cX3_begin 7 = .ok (.bipush (-2), 2) := by decide +kernel
theorem dX3_begin_9 : decode cX3_begin 9 = .ok (.ireturn, 1) := by decide +kernel
theorem dX3_begin_10 : decode cX3_begin 10 = .ok (.aload_n 0, 1) := by decide +kernel
theorem dX3_begin_11 : decode cX3_begin 11 = .ok (.iconst 1, 1) := by decide +kernel
theorem dX3_begin_12 : decode cX3_begin 12 = .ok (.putfield 41, 3) := by decide +kernel
theorem dX3_begin_15 : decode cX3_begin 15 = .ok (.iconst 1, 1) := by decide +kernel
theorem dX3_begin_16 : decode cX3_begin 16 = .ok (.ireturn, 1) := by decide +kernel
theorem dX3_made_0 : decode cX3_made 0 = .ok (.aload_n 0, 1) := by decide +kernel
theorem dX3_made_1 : decode cX3_made 1 = .ok (.getfield 51, 3) := by decide +kernel
theorem dX3_made_4 : decode cX3_made 4 = .ok (.ireturn, 1) := by decide +kernel
theorem dX3_claim_0 : decode cX3_claim 0 = .ok (.aload_n 0, 1) := by decide +kernel
theorem dX3_claim_1 : decode cX3_claim 1 = .ok (.aload_n 0, 1) := by decide +kernel
theorem dX3_claim_2 : decode cX3_claim 2 = .ok (.iload_n 1, 1) := by decide +kernel
theorem dX3_claim_3 : decode cX3_claim 3 = .ok (.invokevirtual 54, 3) := by decide +kernel
theorem dX3_claim_6 : decode cX3_claim 6 = .ok (.lload_n 2, 1) := by decide +kernel
theorem dX3_claim_7 : decode cX3_claim 7 = .ok (.iconst 1, 1) := by decide +kernel
theorem dX3_claim_8 : decode cX3_claim 8 = .ok (.invokevirtual 121, 3) := by decide +kernel
theorem dX3_claim_11 : decode cX3_claim 11 = .ok (.ireturn, 1) := by decide +kernel
theorem dX3_batch_0 : decode cX3_batch 0 = .ok (.aload_n 0, 1) := by decide +kernel
theorem dX3_batch_1 : decode cX3_batch 1 = .ok (.aload_n 0, 1) := by decide +kernel
theorem dX3_batch_2 : decode cX3_batch 2 = .ok (.iload_n 1, 1) := by decide +kernel
theorem dX3_batch_3 : decode cX3_batch 3 = .ok (.invokevirtual 54, 3) := by decide +kernel
theorem dX3_batch_6 : decode cX3_batch 6 = .ok (.lload_n 2, 1) := by decide +kernel
theorem dX3_batch_7 : decode cX3_batch 7 = .ok (.iload 4, 2) := by decide +kernel
theorem dX3_batch_9 : decode cX3_batch 9 = .ok (.invokevirtual 121, 3) := by decide +kernel
theorem dX3_batch_12 : decode cX3_batch 12 = .ok (.ireturn, 1) := by decide +kernel
theorem dX3_by_0 : decode cX3_by 0 = .ok (.aload_n 0, 1) := by decide +kernel
theorem dX3_by_1 : decode cX3_by 1 = .ok (.getfield 28, 3) := by decide +kernel
theorem dX3_by_4 : decode cX3_by 4 = .ok (.ireturn, 1) := by decide +kernel
theorem dX3_again_0 : decode cX3_again 0 = .ok (.aload_n 0, 1) := by decide +kernel
theorem dX3_again_1 : decode cX3_again 1 = .ok (.getfield 125, 3) := by decide +kernel
theorem dX3_again_4 : decode cX3_again 4 = .ok (.ifCond .ne 12, 3) := by decide +kernel
theorem dX3_again_7 : decode cX3_again 7 = .ok (.aload_n 0, 1) := by decide +kernel
theorem dX3_again_8 : decode cX3_again 8 = .ok (.bipush 6, 2) := by decide +kernel
theorem dX3_again_10 : decode cX3_again 10 = .ok (.invokevirtual 32, 3) := by decide +kernel
theorem dX3_again_13 : decode cX3_again 13 = .ok (.goto 7, 3) := by decide +kernel
theorem dX3_again_16 : decode cX3_again 16 = .ok (.aload_n 0, 1) := by decide +kernel
theorem dX3_again_17 : decode cX3_again 17 = .ok (.getfield 125, 3) := by decide +kernel
theorem dX3_again_20 : decode cX3_again 20 = .ok (.ireturn, 1) := by decide +kernel
theorem dX3_fill_0 : decode cX3_fill 0 = .ok (.aload_n 0, 1) := by decide +kernel
theorem dX3_fill_1 : decode cX3_fill 1 = .ok (.iload_n 1, 1) := by decide +kernel
theorem dX3_fill_2 : decode cX3_fill 2 = .ok (.invokevirtual 54, 3) := by decide +kernel
theorem dX3_fill_5 : decode cX3_fill 5 = .ok (.astore 6, 2) := by decide +kernel
theorem dX3_fill_7 : decode cX3_fill 7 = .ok (.aload 6, 2) := by decide +kernel
theorem dX3_fill_9 : decode cX3_fill 9 = .ok (.ifnonnull 5, 3) := by decide +kernel
theorem dX3_fill_12 : decode cX3_fill 12 = .ok (.iconst (-1), 1) := by decide +kernel
theorem dX3_fill_13 : decode cX3_fill 13 = .ok (.ireturn, 1) := by decide +kernel
theorem dX3_fill_14 : decode cX3_fill 14 = .ok (.aload_n 0, 1) := by decide +kernel
theorem dX3_fill_15 : decode cX3_fill 15 = .ok (.getfield 41, 3) := by decide +kernel
theorem dX3_fill_18 : decode cX3_fill 18 = .ok (.ifCond .ne 6, 3) := by decide +kernel
theorem dX3_fill_21 : decode cX3_fill 21 = .ok (.bipush (-2), 2) := by decide +kernel
theorem dX3_fill_23 : decode cX3_fill 23 = .ok (.ireturn, 1) := by decide +kernel
theorem dX3_fill_24 : decode cX3_fill 24 = .ok (.aload 6, 2) := by decide +kernel
theorem dX3_fill_26 : decode cX3_fill 26 = .ok (.getfield 128, 3) := by decide +kernel
theorem dX3_fill_29 : decode cX3_fill 29 = .ok (.ifCond .eq 9, 3) := by decide +kernel
theorem dX3_fill_32 : decode cX3_fill 32 = .ok (.aload_n 0, 1) := by decide +kernel
theorem dX3_fill_33 : decode cX3_fill 33 = .ok (.iconst 1, 1) := by decide +kernel
theorem dX3_fill_34 : decode cX3_fill 34 = .ok (.invokevirtual 32, 3) := by decide +kernel
theorem dX3_fill_37 : decode cX3_fill 37 = .ok (.ireturn, 1) := by decide +kernel
theorem dX3_fill_38 : decode cX3_fill 38 = .ok (.aload 6, 2) := by decide +kernel
theorem dX3_fill_40 : decode cX3_fill 40 = .ok (.iload_n 2, 1) := by decide +kernel
theorem dX3_fill_41 : decode cX3_fill 41 = .ok (.invokevirtual 131, 3) := by decide +kernel
theorem dX3_fill_44 : decode cX3_fill 44 = .ok (.astore 7, 2) := by decide +kernel
theorem dX3_fill_46 : decode cX3_fill 46 = .ok (.aload 7, 2) := by decide +kernel
theorem dX3_fill_48 : decode cX3_fill 48 = .ok (.ifnonnull 6, 3) := by decide +kernel
theorem dX3_fill_51 : decode cX3_fill 51 = .ok (.bipush (-11), 2) := by decide +kernel
theorem dX3_fill_53 : decode cX3_fill 53 = .ok (.ireturn, 1) := by decide +kernel
theorem dX3_fill_54 : decode cX3_fill 54 = .ok (.iload_n 3, 1) := by decide +kernel
theorem dX3_fill_55 : decode cX3_fill 55 = .ok (.ifCond .lt 9, 3) := by decide +kernel
theorem dX3_fill_58 : decode cX3_fill 58 = .ok (.iload_n 3, 1) := by decide +kernel
theorem dX3_fill_59 : decode cX3_fill 59 = .ok (.bipush 8, 2) := by decide +kernel
theorem dX3_fill_61 : decode cX3_fill 61 = .ok (.if_icmp .lt 9, 3) := by decide +kernel
theorem dX3_fill_64 : decode cX3_fill 64 = .ok (.aload_n 0, 1) := by decide +kernel
theorem dX3_fill_65 : decode cX3_fill 65 = .ok (.iconst 2, 1) := by decide +kernel
theorem dX3_fill_66 : decode cX3_fill 66 = .ok (.invokevirtual 32, 3) := by decide +kernel
theorem dX3_fill_69 : decode cX3_fill 69 = .ok (.ireturn, 1) := by decide +kernel
theorem dX3_fill_70 : decode cX3_fill 70 = .ok (.aload 7, 2) := by decide +kernel
theorem dX3_fill_72 : decode cX3_fill 72 = .ok (.getfield 135, 3) := by decide +kernel
theorem dX3_fill_75 : decode cX3_fill 75 = .ok (.iload_n 3, 1) := by decide +kernel
theorem dX3_fill_76 : decode cX3_fill 76 = .ok (.lload 4, 2) := by decide +kernel
theorem dX3_fill_78 : decode cX3_fill 78 = .ok (.lastore, 1) := by decide +kernel
theorem dX3_fill_79 : decode cX3_fill 79 = .ok (.iconst 1, 1) := by decide +kernel
theorem dX3_fill_80 : decode cX3_fill 80 = .ok (.ireturn, 1) := by decide +kernel
theorem dX3_copy_0 : decode cX3_copy 0 = .ok (.aload_n 0, 1) := by decide +kernel
theorem dX3_copy_1 : decode cX3_copy 1 = .ok (.iload_n 1, 1) := by decide +kernel
theorem dX3_copy_2 : decode cX3_copy 2 = .ok (.invokevirtual 54, 3) := by decide +kernel
theorem dX3_copy_5 : decode cX3_copy 5 = .ok (.astore 6, 2) := by decide +kernel
theorem dX3_copy_7 : decode cX3_copy 7 = .ok (.aload_n 0, 1) := by decide +kernel
theorem dX3_copy_8 : decode cX3_copy 8 = .ok (.iload_n 3, 1) := by decide +kernel
theorem dX3_copy_9 : decode cX3_copy 9 = .ok (.invokevirtual 73, 3) := by decide +kernel
theorem dX3_copy_12 : decode cX3_copy 12 = .ok (.astore 7, 2) := by decide +kernel
theorem dX3_copy_14 : decode cX3_copy 14 = .ok (.aload 6, 2) := by decide +kernel
theorem dX3_copy_16 : decode cX3_copy 16 = .ok (.ifnull 8, 3) := by decide +kernel
theorem dX3_copy_19 : decode cX3_copy 19 = .ok (.aload 7, 2) := by decide +kernel
theorem dX3_copy_21 : decode cX3_copy 21 = .ok (.ifnonnull 5, 3) := by decide +kernel
theorem dX3_copy_24 : decode cX3_copy 24 = .ok (.iconst (-1), 1) := by decide +kernel
theorem dX3_copy_25 : decode cX3_copy 25 = .ok (.ireturn, 1) := by decide +kernel
theorem dX3_copy_26 : decode cX3_copy 26 = .ok (.aload_n 0, 1) := by decide +kernel
theorem dX3_copy_27 : decode cX3_copy 27 = .ok (.getfield 41, 3) := by decide +kernel
theorem dX3_copy_30 : decode cX3_copy 30 = .ok (.ifCond .ne 6, 3) := by decide +kernel
theorem dX3_copy_33 : decode cX3_copy 33 = .ok (.bipush (-2), 2) := by decide +kernel
theorem dX3_copy_35 : decode cX3_copy 35 = .ok (.ireturn, 1) := by decide +kernel
theorem dX3_copy_36 : decode cX3_copy 36 = .ok (.aload 6, 2) := by decide +kernel
theorem dX3_copy_38 : decode cX3_copy 38 = .ok (.getfield 128, 3) := by decide +kernel
theorem dX3_copy_41 : decode cX3_copy 41 = .ok (.ifCond .eq 9, 3) := by decide +kernel
theorem dX3_copy_44 : decode cX3_copy 44 = .ok (.aload_n 0, 1) := by decide +kernel
theorem dX3_copy_45 : decode cX3_copy 45 = .ok (.iconst 1, 1) := by decide +kernel
theorem dX3_copy_46 : decode cX3_copy 46 = .ok (.invokevirtual 32, 3) := by decide +kernel
theorem dX3_copy_49 : decode cX3_copy 49 = .ok (.ireturn, 1) := by decide +kernel
theorem dX3_copy_50 : decode cX3_copy 50 = .ok (.aload 6, 2) := by decide +kernel
theorem dX3_copy_52 : decode cX3_copy 52 = .ok (.iload_n 2, 1) := by decide +kernel
theorem dX3_copy_53 : decode cX3_copy 53 = .ok (.invokevirtual 131, 3) := by decide +kernel
theorem dX3_copy_56 : decode cX3_copy 56 = .ok (.astore 8, 2) := by decide +kernel
theorem dX3_copy_58 : decode cX3_copy 58 = .ok (.aload 8, 2) := by decide +kernel
theorem dX3_copy_60 : decode cX3_copy 60 = .ok (.ifnonnull 6, 3) := by decide +kernel
theorem dX3_copy_63 : decode cX3_copy 63 = .ok (.bipush (-11), 2) := by decide +kernel
theorem dX3_copy_65 : decode cX3_copy 65 = .ok (.ireturn, 1) := by decide +kernel
theorem dX3_copy_66 : decode cX3_copy 66 = .ok (.iload 4, 2) := by decide +kernel
theorem dX3_copy_68 : decode cX3_copy 68 = .ok (.ifCond .lt 25, 3) := by decide +kernel
theorem dX3_copy_71 : decode cX3_copy 71 = .ok (.iload 4, 2) := by decide +kernel
theorem dX3_copy_73 : decode cX3_copy 73 = .ok (.bipush 8, 2) := by decide +kernel
theorem dX3_copy_75 : decode cX3_copy 75 = .ok (.if_icmp .gt 18, 3) := by decide +kernel
theorem dX3_copy_78 : decode cX3_copy 78 = .ok (.iload 5, 2) := by decide +kernel
theorem dX3_copy_80 : decode cX3_copy 80 = .ok (.ifCond .lt 13, 3) := by decide +kernel
theorem dX3_copy_83 : decode cX3_copy 83 = .ok (.iload 5, 2) := by decide +kernel
theorem dX3_copy_85 : decode cX3_copy 85 = .ok (.bipush 8, 2) := by decide +kernel
theorem dX3_copy_87 : decode cX3_copy 87 = .ok (.iload 4, 2) := by decide +kernel
theorem dX3_copy_89 : decode cX3_copy 89 = .ok (.isub, 1) := by decide +kernel
theorem dX3_copy_90 : decode cX3_copy 90 = .ok (.if_icmp .le 9, 3) := by decide +kernel
theorem dX3_copy_93 : decode cX3_copy 93 = .ok (.aload_n 0, 1) := by decide +kernel
theorem dX3_copy_94 : decode cX3_copy 94 = .ok (.iconst 5, 1) := by decide +kernel
theorem dX3_copy_95 : decode cX3_copy 95 = .ok (.invokevirtual 32, 3) := by decide +kernel
theorem dX3_copy_98 : decode cX3_copy 98 = .ok (.ireturn, 1) := by decide +kernel
theorem dX3_copy_99 : decode cX3_copy 99 = .ok (.aload 7, 2) := by decide +kernel
theorem dX3_copy_101 : decode cX3_copy 101 = .ok (.getfield 141, 3) := by decide +kernel
theorem dX3_copy_104 : decode cX3_copy 104 = .ok (.getfield 135, 3) := by decide +kernel
theorem dX3_copy_107 : decode cX3_copy 107 = .ok (.iload 4, 2) := by decide +kernel
theorem dX3_copy_109 : decode cX3_copy 109 = .ok (.aload 8, 2) := by decide +kernel
theorem dX3_copy_111 : decode cX3_copy 111 = .ok (.getfield 135, 3) := by decide +kernel
theorem dX3_copy_114 : decode cX3_copy 114 = .ok (.iconst 0, 1) := by decide +kernel
theorem dX3_copy_115 : decode cX3_copy 115 = .ok (.iload 5, 2) := by decide +kernel
theorem dX3_copy_117 : decode cX3_copy 117 = .ok (.invokestatic 145, 3) := by decide +kernel
theorem dX3_copy_120 : decode cX3_copy 120 = .ok (.iconst 1, 1) := by decide +kernel
theorem dX3_copy_121 : decode cX3_copy 121 = .ok (.ireturn, 1) := by decide +kernel
theorem dX3_publish_0 : decode cX3_publish 0 = .ok (.aload_n 0, 1) := by decide +kernel
theorem dX3_publish_1 : decode cX3_publish 1 = .ok (.iload_n 1, 1) := by decide +kernel
theorem dX3_publish_2 : decode cX3_publish 2 = .ok (.invokevirtual 54, 3) := by decide +kernel
theorem dX3_publish_5 : decode cX3_publish 5 = .ok (.astore 5, 2) := by decide +kernel
theorem dX3_publish_7 : decode cX3_publish 7 = .ok (.aload 5, 2) := by decide +kernel
theorem dX3_publish_9 : decode cX3_publish 9 = .ok (.ifnull 25, 3) := by decide +kernel
theorem dX3_publish_12 : decode cX3_publish 12 = .ok (.iload_n 3, 1) := by decide +kernel
theorem dX3_publish_13 : decode cX3_publish 13 = .ok (.ifCond .lt 21, 3) := by decide +kernel
theorem dX3_publish_16 : decode cX3_publish 16 = .ok (.iload_n 3, 1) := by decide +kernel
theorem dX3_publish_17 : decode cX3_publish 17 = .ok (.bipush 32, 2) := by decide +kernel
theorem dX3_publish_19 : decode cX3_publish 19 = .ok (.if_icmp .ge 15, 3) := by decide +kernel
theorem dX3_publish_22 : decode cX3_publish 22 = .ok (.iload 4, 2) := by decide +kernel
theorem dX3_publish_24 : decode cX3_publish 24 = .ok (.ifCond .lt 10, 3) := by decide +kernel
theorem dX3_publish_27 : decode cX3_publish 27 = .ok (.iload 4, 2) := by decide +kernel
theorem dX3_publish_29 : decode cX3_publish 29 = .ok (.bipush 8, 2) := by decide +kernel
theorem dX3_publish_31 : decode cX3_publish 31 = .ok (.if_icmp .le 5, 3) := by decide +kernel
theorem dX3_publish_34 : decode cX3_publish 34 = .ok (.iconst (-1), 1) := by decide +kernel
theorem dX3_publish_35 : decode cX3_publish 35 = .ok (.ireturn, 1) := by decide +kernel
theorem dX3_publish_36 : decode cX3_publish 36 = .ok (.aload_n 0, 1) := by decide +kernel
theorem dX3_publish_37 : decode cX3_publish 37 = .ok (.getfield 41, 3) := by decide +kernel
theorem dX3_publish_40 : decode cX3_publish 40 = .ok (.ifCond .ne 6, 3) := by decide +kernel
theorem dX3_publish_43 : decode cX3_publish 43 = .ok (.bipush (-2), 2) := by decide +kernel
theorem dX3_publish_45 : decode cX3_publish 45 = .ok (.ireturn, 1) := by decide +kernel
theorem dX3_publish_46 : decode cX3_publish 46 = .ok (.aload 5, 2) := by decide +kernel
theorem dX3_publish_48 : decode cX3_publish 48 = .ok (.getfield 128, 3) := by decide +kernel
theorem dX3_publish_51 : decode cX3_publish 51 = .ok (.ifCond .eq 6, 3) := by decide +kernel
theorem dX3_publish_54 : decode cX3_publish 54 = .ok (.bipush (-7), 2) := by decide +kernel
theorem dX3_publish_56 : decode cX3_publish 56 = .ok (.ireturn, 1) := by decide +kernel
theorem dX3_publish_57 : decode cX3_publish 57 = .ok (.aload 5, 2) := by decide +kernel
theorem dX3_publish_59 : decode cX3_publish 59 = .ok (.iload_n 2, 1) := by decide +kernel
theorem dX3_publish_60 : decode cX3_publish 60 = .ok (.invokevirtual 131, 3) := by decide +kernel
theorem dX3_publish_63 : decode cX3_publish 63 = .ok (.astore 6, 2) := by decide +kernel
theorem dX3_publish_65 : decode cX3_publish 65 = .ok (.aload 6, 2) := by decide +kernel
theorem dX3_publish_67 : decode cX3_publish 67 = .ok (.ifnonnull 6, 3) := by decide +kernel
theorem dX3_publish_70 : decode cX3_publish 70 = .ok (.bipush (-11), 2) := by decide +kernel
theorem dX3_publish_72 : decode cX3_publish 72 = .ok (.ireturn, 1) := by decide +kernel
theorem dX3_publish_73 : decode cX3_publish 73 = .ok (.aload_n 0, 1) := by decide +kernel
theorem dX3_publish_74 : decode cX3_publish 74 = .ok (.aload 6, 2) := by decide +kernel
theorem dX3_publish_76 : decode cX3_publish 76 = .ok (.iload_n 3, 1) := by decide +kernel
theorem dX3_publish_77 : decode cX3_publish 77 = .ok (.iload 4, 2) := by decide +kernel
theorem dX3_publish_79 : decode cX3_publish 79 = .ok (.invokevirtual 151, 3) := by decide +kernel
theorem dX3_publish_82 : decode cX3_publish 82 = .ok (.iconst 1, 1) := by decide +kernel
theorem dX3_publish_83 : decode cX3_publish 83 = .ok (.ireturn, 1) := by decide +kernel
theorem dX3_close_0 : decode cX3_close 0 = .ok (.aload_n 0, 1) := by decide +kernel
theorem dX3_close_1 : decode cX3_close 1 = .ok (.iload_n 1, 1) := by decide +kernel
theorem dX3_close_2 : decode cX3_close 2 = .ok (.invokevirtual 54, 3) := by decide +kernel
theorem dX3_close_5 : decode cX3_close 5 = .ok (.astore_n 2, 1) := by decide +kernel
theorem dX3_close_6 : decode cX3_close 6 = .ok (.aload_n 2, 1) := by decide +kernel
theorem dX3_close_7 : decode cX3_close 7 = .ok (.ifnonnull 5, 3) := by decide +kernel
theorem dX3_close_10 : decode cX3_close 10 = .ok (.iconst (-1), 1) := by decide +kernel
theorem dX3_close_11 : decode cX3_close 11 = .ok (.ireturn, 1) := by decide +kernel
theorem dX3_close_12 : decode cX3_close 12 = .ok (.aload_n 0, 1) := by decide +kernel
theorem dX3_close_13 : decode cX3_close 13 = .ok (.getfield 41, 3) := by decide +kernel
theorem dX3_close_16 : decode cX3_close 16 = .ok (.ifCond .ne 6, 3) := by decide +kernel
theorem dX3_close_19 : decode cX3_close 19 = .ok (.bipush (-2), 2) := by decide +kernel
theorem dX3_close_21 : decode cX3_close 21 = .ok (.ireturn, 1) := by decide +kernel
theorem dX3_close_22 : decode cX3_close 22 = .ok (.aload_n 2, 1) := by decide +kernel
theorem dX3_close_23 : decode cX3_close 23 = .ok (.getfield 128, 3) := by decide +kernel
theorem dX3_close_26 : decode cX3_close 26 = .ok (.ifCond .eq 6, 3) := by decide +kernel
theorem dX3_close_29 : decode cX3_close 29 = .ok (.bipush (-7), 2) := by decide +kernel
theorem dX3_close_31 : decode cX3_close 31 = .ok (.ireturn, 1) := by decide +kernel
theorem dX3_close_32 : decode cX3_close 32 = .ok (.aload_n 2, 1) := by decide +kernel
theorem dX3_close_33 : decode cX3_close 33 = .ok (.getfield 155, 3) := by decide +kernel
theorem dX3_close_36 : decode cX3_close 36 = .ok (.ifCond .eq 6, 3) := by decide +kernel
theorem dX3_close_39 : decode cX3_close 39 = .ok (.bipush (-8), 2) := by decide +kernel
theorem dX3_close_41 : decode cX3_close 41 = .ok (.ireturn, 1) := by decide +kernel
theorem dX3_close_42 : decode cX3_close 42 = .ok (.aload_n 2, 1) := by decide +kernel
theorem dX3_close_43 : decode cX3_close 43 = .ok (.iconst 1, 1) := by decide +kernel
theorem dX3_close_44 : decode cX3_close 44 = .ok (.putfield 155, 3) := by decide +kernel
theorem dX3_close_47 : decode cX3_close 47 = .ok (.iconst 1, 1) := by decide +kernel
theorem dX3_close_48 : decode cX3_close 48 = .ok (.ireturn, 1) := by decide +kernel
theorem dX3_give_0 : decode cX3_give 0 = .ok (.aload_n 0, 1) := by decide +kernel
theorem dX3_give_1 : decode cX3_give 1 = .ok (.iload_n 1, 1) := by decide +kernel
theorem dX3_give_2 : decode cX3_give 2 = .ok (.invokevirtual 54, 3) := by decide +kernel
theorem dX3_give_5 : decode cX3_give 5 = .ok (.astore_n 2, 1) := by decide +kernel
theorem dX3_give_6 : decode cX3_give 6 = .ok (.aload_n 2, 1) := by decide +kernel
theorem dX3_give_7 : decode cX3_give 7 = .ok (.ifnonnull 5, 3) := by decide +kernel
theorem dX3_give_10 : decode cX3_give 10 = .ok (.iconst (-1), 1) := by decide +kernel
theorem dX3_give_11 : decode cX3_give 11 = .ok (.ireturn, 1) := by decide +kernel
theorem dX3_give_12 : decode cX3_give 12 = .ok (.aload_n 0, 1) := by decide +kernel
theorem dX3_give_13 : decode cX3_give 13 = .ok (.getfield 41, 3) := by decide +kernel
theorem dX3_give_16 : decode cX3_give 16 = .ok (.ifCond .ne 6, 3) := by decide +kernel
theorem dX3_give_19 : decode cX3_give 19 = .ok (.bipush (-2), 2) := by decide +kernel
theorem dX3_give_21 : decode cX3_give 21 = .ok (.ireturn, 1) := by decide +kernel
theorem dX3_give_22 : decode cX3_give 22 = .ok (.aload_n 2, 1) := by decide +kernel
theorem dX3_give_23 : decode cX3_give 23 = .ok (.getfield 128, 3) := by decide +kernel
theorem dX3_give_26 : decode cX3_give 26 = .ok (.ifCond .eq 6, 3) := by decide +kernel
theorem dX3_give_29 : decode cX3_give 29 = .ok (.bipush (-7), 2) := by decide +kernel
theorem dX3_give_31 : decode cX3_give 31 = .ok (.ireturn, 1) := by decide +kernel
theorem dX3_give_32 : decode cX3_give 32 = .ok (.aload_n 2, 1) := by decide +kernel
theorem dX3_give_33 : decode cX3_give 33 = .ok (.invokevirtual 158, 3) := by decide +kernel
theorem dX3_give_36 : decode cX3_give 36 = .ok (.ifCond .gt 17, 3) := by decide +kernel
theorem dX3_give_39 : decode cX3_give 39 = .ok (.aload_n 0, 1) := by decide +kernel
theorem dX3_give_40 : decode cX3_give 40 = .ok (.aload_n 2, 1) := by decide +kernel
theorem dX3_give_41 : decode cX3_give 41 = .ok (.aload_n 2, 1) := by decide +kernel
theorem dX3_give_42 : decode cX3_give 42 = .ok (.getfield 162, 3) := by decide +kernel
theorem dX3_give_45 : decode cX3_give 45 = .ok (.iconst 1, 1) := by decide +kernel
theorem dX3_give_46 : decode cX3_give 46 = .ok (.isub, 1) := by decide +kernel
theorem dX3_give_47 : decode cX3_give 47 = .ok (.invokevirtual 165, 3) := by decide +kernel
theorem dX3_give_50 : decode cX3_give 50 = .ok (.ifCond .lt 6, 3) := by decide +kernel
theorem dX3_give_53 : decode cX3_give 53 = .ok (.bipush (-10), 2) := by decide +kernel
theorem dX3_give_55 : decode cX3_give 55 = .ok (.ireturn, 1) := by decide +kernel
theorem dX3_give_56 : decode cX3_give 56 = .ok (.aload_n 2, 1) := by decide +kernel
theorem dX3_give_57 : decode cX3_give 57 = .ok (.iconst 1, 1) := by decide +kernel
theorem dX3_give_58 : decode cX3_give 58 = .ok (.putfield 128, 3) := by decide +kernel
theorem dX3_give_61 : decode cX3_give 61 = .ok (.iconst 1, 1) := by decide +kernel
theorem dX3_give_62 : decode cX3_give 62 = .ok (.ireturn, 1) := by decide +kernel
theorem dX3_told_0 : decode cX3_told 0 = .ok (.iload_n 2, 1) := by decide +kernel
theorem dX3_told_1 : decode cX3_told 1 = .ok (.ifCond .lt 9, 3) := by decide +kernel
theorem dX3_told_4 : decode cX3_told 4 = .ok (.iload_n 2, 1) := by decide +kernel
theorem dX3_told_5 : decode cX3_told 5 = .ok (.bipush 6, 2) := by decide +kernel
theorem dX3_told_7 : decode cX3_told 7 = .ok (.if_icmp .le 5, 3) := by decide +kernel
theorem dX3_told_10 : decode cX3_told 10 = .ok (.iconst (-1), 1) := by decide +kernel
theorem dX3_told_11 : decode cX3_told 11 = .ok (.ireturn, 1) := by decide +kernel
theorem dX3_told_12 : decode cX3_told 12 = .ok (.aload_n 0, 1) := by decide +kernel
theorem dX3_told_13 : decode cX3_told 13 = .ok (.iload_n 1, 1) := by decide +kernel
theorem dX3_told_14 : decode cX3_told 14 = .ok (.invokevirtual 54, 3) := by decide +kernel
theorem dX3_told_17 : decode cX3_told 17 = .ok (.astore_n 3, 1) := by decide +kernel
theorem dX3_told_18 : decode cX3_told 18 = .ok (.aload_n 3, 1) := by decide +kernel
theorem dX3_told_19 : decode cX3_told 19 = .ok (.ifnonnull 9, 3) := by decide +kernel
theorem dX3_told_22 : decode cX3_told 22 = .ok (.aload_n 0, 1) := by decide +kernel
theorem dX3_told_23 : decode cX3_told 23 = .ok (.iconst 2, 1) := by decide +kernel
theorem dX3_told_24 : decode cX3_told 24 = .ok (.invokevirtual 32, 3) := by decide +kernel
theorem dX3_told_27 : decode cX3_told 27 = .ok (.ireturn, 1) := by decide +kernel
theorem dX3_told_28 : decode cX3_told 28 = .ok (.iload_n 2, 1) := by decide +kernel
theorem dX3_told_29 : decode cX3_told 29 = .ok (.tableswitch 84 0 5 #[39, 44, 49, 54, 60, 66], 39) := by decide +kernel
theorem dX3_told_68 : decode cX3_told 68 = .ok (.aload_n 3, 1) := by decide +kernel
theorem dX3_told_69 : decode cX3_told 69 = .ok (.getfield 169, 3) := by decide +kernel
theorem dX3_told_72 : decode cX3_told 72 = .ok (.ireturn, 1) := by decide +kernel
theorem dX3_told_73 : decode cX3_told 73 = .ok (.aload_n 3, 1) := by decide +kernel
theorem dX3_told_74 : decode cX3_told 74 = .ok (.getfield 162, 3) := by decide +kernel
theorem dX3_told_77 : decode cX3_told 77 = .ok (.ireturn, 1) := by decide +kernel
theorem dX3_told_78 : decode cX3_told 78 = .ok (.aload_n 3, 1) := by decide +kernel
theorem dX3_told_79 : decode cX3_told 79 = .ok (.invokevirtual 158, 3) := by decide +kernel
theorem dX3_told_82 : decode cX3_told 82 = .ok (.ireturn, 1) := by decide +kernel
theorem dX3_told_83 : decode cX3_told 83 = .ok (.aload_n 0, 1) := by decide +kernel
theorem dX3_told_84 : decode cX3_told 84 = .ok (.aload_n 3, 1) := by decide +kernel
theorem dX3_told_85 : decode cX3_told 85 = .ok (.invokevirtual 172, 3) := by decide +kernel
theorem dX3_told_88 : decode cX3_told 88 = .ok (.ireturn, 1) := by decide +kernel
theorem dX3_told_89 : decode cX3_told 89 = .ok (.aload_n 0, 1) := by decide +kernel
theorem dX3_told_90 : decode cX3_told 90 = .ok (.aload_n 3, 1) := by decide +kernel
theorem dX3_told_91 : decode cX3_told 91 = .ok (.invokevirtual 176, 3) := by decide +kernel
theorem dX3_told_94 : decode cX3_told 94 = .ok (.ireturn, 1) := by decide +kernel
theorem dX3_told_95 : decode cX3_told 95 = .ok (.aload_n 0, 1) := by decide +kernel
theorem dX3_told_96 : decode cX3_told 96 = .ok (.aload_n 3, 1) := by decide +kernel
theorem dX3_told_97 : decode cX3_told 97 = .ok (.aload_n 3, 1) := by decide +kernel
theorem dX3_told_98 : decode cX3_told 98 = .ok (.getfield 162, 3) := by decide +kernel
theorem dX3_told_101 : decode cX3_told 101 = .ok (.invokevirtual 179, 3) := by decide +kernel
theorem dX3_told_104 : decode cX3_told 104 = .ok (.ifCond .eq 7, 3) := by decide +kernel
theorem dX3_told_107 : decode cX3_told 107 = .ok (.iconst 1, 1) := by decide +kernel
theorem dX3_told_108 : decode cX3_told 108 = .ok (.goto 4, 3) := by decide +kernel
theorem dX3_told_111 : decode cX3_told 111 = .ok (.iconst 0, 1) := by decide +kernel
theorem dX3_told_112 : decode cX3_told 112 = .ok (.ireturn, 1) := by decide +kernel
theorem dX3_told_113 : decode cX3_told 113 = .ok (.aload_n 3, 1) := by decide +kernel
theorem dX3_told_114 : decode cX3_told 114 = .ok (.getfield 128, 3) := by decide +kernel
theorem dX3_told_117 : decode cX3_told 117 = .ok (.ifCond .eq 7, 3) := by decide +kernel
theorem dX3_told_120 : decode cX3_told 120 = .ok (.iconst 2, 1) := by decide +kernel
theorem dX3_told_121 : decode cX3_told 121 = .ok (.goto 15, 3) := by decide +kernel
theorem dX3_told_124 : decode cX3_told 124 = .ok (.aload_n 3, 1) := by decide +kernel
theorem dX3_told_125 : decode cX3_told 125 = .ok (.getfield 155, 3) := by decide +kernel
theorem dX3_told_128 : decode cX3_told 128 = .ok (.ifCond .eq 7, 3) := by decide +kernel
theorem dX3_told_131 : decode cX3_told 131 = .ok (.iconst 1, 1) := by decide +kernel
theorem dX3_told_132 : decode cX3_told 132 = .ok (.goto 4, 3) := by decide +kernel
theorem dX3_told_135 : decode cX3_told 135 = .ok (.iconst 0, 1) := by decide +kernel
theorem dX3_told_136 : decode cX3_told 136 = .ok (.ireturn, 1) := by decide +kernel
theorem dX3_last_0 : decode cX3_last 0 = .ok (.aload_n 0, 1) := by decide +kernel
theorem dX3_last_1 : decode cX3_last 1 = .ok (.iload_n 1, 1) := by decide +kernel
theorem dX3_last_2 : decode cX3_last 2 = .ok (.invokevirtual 54, 3) := by decide +kernel
theorem dX3_last_5 : decode cX3_last 5 = .ok (.astore_n 2, 1) := by decide +kernel
theorem dX3_last_6 : decode cX3_last 6 = .ok (.aload_n 2, 1) := by decide +kernel
theorem dX3_last_7 : decode cX3_last 7 = .ok (.ifnonnull 7, 3) := by decide +kernel
theorem dX3_last_10 : decode cX3_last 10 = .ok (.lconst 0, 1) := by decide +kernel
theorem dX3_last_11 : decode cX3_last 11 = .ok (.goto 7, 3) := by decide +kernel
theorem dX3_last_14 : decode cX3_last 14 = .ok (.aload_n 2, 1) := by decide +kernel
theorem dX3_last_15 : decode cX3_last 15 = .ok (.getfield 183, 3) := by decide +kernel
theorem dX3_last_18 : decode cX3_last 18 = .ok (.lreturn, 1) := by decide +kernel
theorem dX3_read_0 : decode cX3_read 0 = .ok (.aload_n 0, 1) := by decide +kernel
theorem dX3_read_1 : decode cX3_read 1 = .ok (.getfield 41, 3) := by decide +kernel
theorem dX3_read_4 : decode cX3_read 4 = .ok (.ifCond .ne 6, 3) := by decide +kernel
theorem dX3_read_7 : decode cX3_read 7 = .ok (.bipush (-2), 2) := by decide +kernel
theorem dX3_read_9 : decode cX3_read 9 = .ok (.ireturn, 1) := by decide +kernel
theorem dX3_read_10 : decode cX3_read 10 = .ok (.aload_n 0, 1) := by decide +kernel
theorem dX3_read_11 : decode cX3_read 11 = .ok (.iload_n 1, 1) := by decide +kernel
theorem dX3_read_12 : decode cX3_read 12 = .ok (.invokevirtual 73, 3) := by decide +kernel
theorem dX3_read_15 : decode cX3_read 15 = .ok (.astore_n 2, 1) := by decide +kernel
theorem dX3_read_16 : decode cX3_read 16 = .ok (.aload_n 2, 1) := by decide +kernel
theorem dX3_read_17 : decode cX3_read 17 = .ok (.ifnonnull 11, 3) := by decide +kernel
theorem dX3_read_20 : decode cX3_read 20 = .ok (.aload_n 0, 1) := by decide +kernel
theorem dX3_read_21 : decode cX3_read 21 = .ok (.iconst 2, 1) := by decide +kernel
theorem dX3_read_22 : decode cX3_read 22 = .ok (.invokevirtual 32, 3) := by decide +kernel
theorem dX3_read_25 : decode cX3_read 25 = .ok (.goto 8, 3) := by decide +kernel
theorem dX3_read_28 : decode cX3_read 28 = .ok (.aload_n 0, 1) := by decide +kernel
theorem dX3_read_29 : decode cX3_read 29 = .ok (.aload_n 2, 1) := by decide +kernel
theorem dX3_read_30 : decode cX3_read 30 = .ok (.invokevirtual 187, 3) := by decide +kernel
theorem dX3_read_33 : decode cX3_read 33 = .ok (.ireturn, 1) := by decide +kernel
theorem dX3_round_0 : decode cX3_round 0 = .ok (.aload_n 0, 1) := by decide +kernel
theorem dX3_round_1 : decode cX3_round 1 = .ok (.getfield 41, 3) := by decide +kernel
theorem dX3_round_4 : decode cX3_round 4 = .ok (.ifCond .ne 6, 3) := by decide +kernel
theorem dX3_round_7 : decode cX3_round 7 = .ok (.bipush (-2), 2) := by decide +kernel
theorem dX3_round_9 : decode cX3_round 9 = .ok (.ireturn, 1) := by decide +kernel
theorem dX3_round_10 : decode cX3_round 10 = .ok (.iconst 0, 1) := by decide +kernel
theorem dX3_round_11 : decode cX3_round 11 = .ok (.istore_n 1, 1) := by decide +kernel
theorem dX3_round_12 : decode cX3_round 12 = .ok (.iconst 0, 1) := by decide +kernel
theorem dX3_round_13 : decode cX3_round 13 = .ok (.istore_n 2, 1) := by decide +kernel
theorem dX3_round_14 : decode cX3_round 14 = .ok (.iload_n 2, 1) := by decide +kernel
theorem dX3_round_15 : decode cX3_round 15 = .ok (.bipush 16, 2) := by decide +kernel
theorem dX3_round_17 : decode cX3_round 17 = .ok (.if_icmp .ge 31, 3) := by decide +kernel
theorem dX3_round_20 : decode cX3_round 20 = .ok (.aload_n 0, 1) := by decide +kernel
theorem dX3_round_21 : decode cX3_round 21 = .ok (.iload_n 2, 1) := by decide +kernel
theorem dX3_round_22 : decode cX3_round 22 = .ok (.invokevirtual 73, 3) := by decide +kernel
theorem dX3_round_25 : decode cX3_round 25 = .ok (.astore_n 3, 1) := by decide +kernel
theorem dX3_round_26 : decode cX3_round 26 = .ok (.aload_n 3, 1) := by decide +kernel
theorem dX3_round_27 : decode cX3_round 27 = .ok (.ifnull 15, 3) := by decide +kernel
theorem dX3_round_30 : decode cX3_round 30 = .ok (.aload_n 0, 1) := by decide +kernel
theorem dX3_round_31 : decode cX3_round 31 = .ok (.aload_n 3, 1) := by decide +kernel
theorem dX3_round_32 : decode cX3_round 32 = .ok (.invokevirtual 187, 3) := by decide +kernel
theorem dX3_round_35 : decode cX3_round 35 = .ok (.iconst 1, 1) := by decide +kernel
theorem dX3_round_36 : decode cX3_round 36 = .ok (.if_icmp .ne 6, 3) := by decide +kernel
theorem dX3_round_39 : decode cX3_round 39 = .ok (.iinc 1 1, 3) := by decide +kernel
theorem dX3_round_42 : decode cX3_round 42 = .ok (.iinc 2 1, 3) := by decide +kernel
theorem dX3_round_45 : decode cX3_round 45 = .ok (.goto (-31), 3) := by decide +kernel
theorem dX3_round_48 : decode cX3_round 48 = .ok (.iload_n 1, 1) := by decide +kernel
theorem dX3_round_49 : decode cX3_round 49 = .ok (.ireturn, 1) := by decide +kernel
theorem dX3_got_0 : decode cX3_got 0 = .ok (.aload_n 0, 1) := by decide +kernel
theorem dX3_got_1 : decode cX3_got 1 = .ok (.iload_n 1, 1) := by decide +kernel
theorem dX3_got_2 : decode cX3_got 2 = .ok (.invokevirtual 73, 3) := by decide +kernel
theorem dX3_got_5 : decode cX3_got 5 = .ok (.astore_n 3, 1) := by decide +kernel
theorem dX3_got_6 : decode cX3_got 6 = .ok (.aload_n 3, 1) := by decide +kernel
theorem dX3_got_7 : decode cX3_got 7 = .ok (.ifnull 13, 3) := by decide +kernel
theorem dX3_got_10 : decode cX3_got 10 = .ok (.aload_n 3, 1) := by decide +kernel
theorem dX3_got_11 : decode cX3_got 11 = .ok (.getfield 141, 3) := by decide +kernel
theorem dX3_got_14 : decode cX3_got 14 = .ok (.getfield 191, 3) := by decide +kernel
theorem dX3_got_17 : decode cX3_got 17 = .ok (.ifCond .ge 7, 3) := by decide +kernel
theorem dX3_got_20 : decode cX3_got 20 = .ok (.ldc2_w 192, 3) := by decide +kernel
theorem dX3_got_23 : decode cX3_got 23 = .ok (.lreturn, 1) := by decide +kernel
theorem dX3_got_24 : decode cX3_got 24 = .ok (.iload_n 2, 1) := by decide +kernel
theorem dX3_got_25 : decode cX3_got 25 = .ok (.tableswitch 79 0 4 #[35, 44, 53, 61, 70], 35) := by decide +kernel
theorem dX3_got_60 : decode cX3_got 60 = .ok (.aload_n 3, 1) := by decide +kernel
theorem dX3_got_61 : decode cX3_got 61 = .ok (.getfield 141, 3) := by decide +kernel
theorem dX3_got_64 : decode cX3_got 64 = .ok (.getfield 194, 3) := by decide +kernel
theorem dX3_got_67 : decode cX3_got 67 = .ok (.i2l, 1) := by decide +kernel
theorem dX3_got_68 : decode cX3_got 68 = .ok (.lreturn, 1) := by decide +kernel
theorem dX3_got_69 : decode cX3_got 69 = .ok (.aload_n 3, 1) := by decide +kernel
theorem dX3_got_70 : decode cX3_got 70 = .ok (.getfield 141, 3) := by decide +kernel
theorem dX3_got_73 : decode cX3_got 73 = .ok (.getfield 191, 3) := by decide +kernel
theorem dX3_got_76 : decode cX3_got 76 = .ok (.i2l, 1) := by decide +kernel
theorem dX3_got_77 : decode cX3_got 77 = .ok (.lreturn, 1) := by decide +kernel
theorem dX3_got_78 : decode cX3_got 78 = .ok (.aload_n 3, 1) := by decide +kernel
theorem dX3_got_79 : decode cX3_got 79 = .ok (.getfield 141, 3) := by decide +kernel
theorem dX3_got_82 : decode cX3_got 82 = .ok (.getfield 197, 3) := by decide +kernel
theorem dX3_got_85 : decode cX3_got 85 = .ok (.lreturn, 1) := by decide +kernel
theorem dX3_got_86 : decode cX3_got 86 = .ok (.aload_n 3, 1) := by decide +kernel
theorem dX3_got_87 : decode cX3_got 87 = .ok (.getfield 141, 3) := by decide +kernel
theorem dX3_got_90 : decode cX3_got 90 = .ok (.getfield 200, 3) := by decide +kernel
theorem dX3_got_93 : decode cX3_got 93 = .ok (.i2l, 1) := by decide +kernel
theorem dX3_got_94 : decode cX3_got 94 = .ok (.lreturn, 1) := by decide +kernel
theorem dX3_got_95 : decode cX3_got 95 = .ok (.aload_n 3, 1) := by decide +kernel
theorem dX3_got_96 : decode cX3_got 96 = .ok (.getfield 141, 3) := by decide +kernel
theorem dX3_got_99 : decode cX3_got 99 = .ok (.getfield 203, 3) := by decide +kernel
theorem dX3_got_102 : decode cX3_got 102 = .ok (.i2l, 1) := by decide +kernel
theorem dX3_got_103 : decode cX3_got 103 = .ok (.lreturn, 1) := by decide +kernel
theorem dX3_got_104 : decode cX3_got 104 = .ok (.ldc2_w 192, 3) := by decide +kernel
theorem dX3_got_107 : decode cX3_got 107 = .ok (.lreturn, 1) := by decide +kernel
theorem dX3_word_0 : decode cX3_word 0 = .ok (.aload_n 0, 1) := by decide +kernel
theorem dX3_word_1 : decode cX3_word 1 = .ok (.iload_n 1, 1) := by decide +kernel
theorem dX3_word_2 : decode cX3_word 2 = .ok (.invokevirtual 73, 3) := by decide +kernel
theorem dX3_word_5 : decode cX3_word 5 = .ok (.astore_n 3, 1) := by decide +kernel
theorem dX3_word_6 : decode cX3_word 6 = .ok (.aload_n 3, 1) := by decide +kernel
theorem dX3_word_7 : decode cX3_word 7 = .ok (.ifnull 13, 3) := by decide +kernel
theorem dX3_word_10 : decode cX3_word 10 = .ok (.iload_n 2, 1) := by decide +kernel
theorem dX3_word_11 : decode cX3_word 11 = .ok (.ifCond .lt 9, 3) := by decide +kernel
theorem dX3_word_14 : decode cX3_word 14 = .ok (.iload_n 2, 1) := by decide +kernel
theorem dX3_word_15 : decode cX3_word 15 = .ok (.bipush 8, 2) := by decide +kernel
theorem dX3_word_17 : decode cX3_word 17 = .ok (.if_icmp .lt 7, 3) := by decide +kernel
theorem dX3_word_20 : decode cX3_word 20 = .ok (.lconst 0, 1) := by decide +kernel
theorem dX3_word_21 : decode cX3_word 21 = .ok (.goto 12, 3) := by decide +kernel
theorem dX3_word_24 : decode cX3_word 24 = .ok (.aload_n 3, 1) := by decide +kernel
theorem dX3_word_25 : decode cX3_word 25 = .ok (.getfield 141, 3) := by decide +kernel
theorem dX3_word_28 : decode cX3_word 28 = .ok (.getfield 135, 3) := by decide +kernel
theorem dX3_word_31 : decode cX3_word 31 = .ok (.iload_n 2, 1) := by decide +kernel
theorem dX3_word_32 : decode cX3_word 32 = .ok (.laload, 1) := by decide +kernel
theorem dX3_word_33 : decode cX3_word 33 = .ok (.lreturn, 1) := by decide +kernel
theorem dX3_of_0 : decode cX3_of 0 = .ok (.iload_n 2, 1) := by decide +kernel
theorem dX3_of_1 : decode cX3_of 1 = .ok (.ifCond .lt 9, 3) := by decide +kernel
theorem dX3_of_4 : decode cX3_of 4 = .ok (.iload_n 2, 1) := by decide +kernel
theorem dX3_of_5 : decode cX3_of 5 = .ok (.bipush 8, 2) := by decide +kernel
theorem dX3_of_7 : decode cX3_of 7 = .ok (.if_icmp .le 5, 3) := by decide +kernel
theorem dX3_of_10 : decode cX3_of 10 = .ok (.iconst (-1), 1) := by decide +kernel
theorem dX3_of_11 : decode cX3_of 11 = .ok (.ireturn, 1) := by decide +kernel
theorem dX3_of_12 : decode cX3_of 12 = .ok (.aload_n 0, 1) := by decide +kernel
theorem dX3_of_13 : decode cX3_of 13 = .ok (.iload_n 1, 1) := by decide +kernel
theorem dX3_of_14 : decode cX3_of 14 = .ok (.invokevirtual 73, 3) := by decide +kernel
theorem dX3_of_17 : decode cX3_of 17 = .ok (.astore_n 3, 1) := by decide +kernel
theorem dX3_of_18 : decode cX3_of 18 = .ok (.aload_n 3, 1) := by decide +kernel
theorem dX3_of_19 : decode cX3_of 19 = .ok (.ifnonnull 9, 3) := by decide +kernel
theorem dX3_of_22 : decode cX3_of 22 = .ok (.aload_n 0, 1) := by decide +kernel
theorem dX3_of_23 : decode cX3_of 23 = .ok (.iconst 2, 1) := by decide +kernel
theorem dX3_of_24 : decode cX3_of 24 = .ok (.invokevirtual 32, 3) := by decide +kernel
theorem dX3_of_27 : decode cX3_of 27 = .ok (.ireturn, 1) := by decide +kernel
theorem dX3_of_28 : decode cX3_of 28 = .ok (.iload_n 2, 1) := by decide +kernel
theorem dX3_of_29 : decode cX3_of 29 = .ok (.tableswitch 97 0 7 #[47, 52, 60, 72, 77, 82, 87, 92], 47) := by decide +kernel
theorem dX3_of_76 : decode cX3_of 76 = .ok (.aload_n 3, 1) := by decide +kernel
theorem dX3_of_77 : decode cX3_of 77 = .ok (.getfield 77, 3) := by decide +kernel
theorem dX3_of_80 : decode cX3_of 80 = .ok (.ireturn, 1) := by decide +kernel
theorem dX3_of_81 : decode cX3_of 81 = .ok (.aload_n 3, 1) := by decide +kernel
theorem dX3_of_82 : decode cX3_of 82 = .ok (.getfield 94, 3) := by decide +kernel
theorem dX3_of_85 : decode cX3_of 85 = .ok (.getfield 98, 3) := by decide +kernel
theorem dX3_of_88 : decode cX3_of 88 = .ok (.ireturn, 1) := by decide +kernel
theorem dX3_of_89 : decode cX3_of 89 = .ok (.aload_n 3, 1) := by decide +kernel
theorem dX3_of_90 : decode cX3_of 90 = .ok (.aload_n 3, 1) := by decide +kernel
theorem dX3_of_91 : decode cX3_of 91 = .ok (.getfield 94, 3) := by decide +kernel
theorem dX3_of_94 : decode cX3_of 94 = .ok (.getfield 98, 3) := by decide +kernel
theorem dX3_of_97 : decode cX3_of 97 = .ok (.invokevirtual 80, 3) := by decide +kernel
theorem dX3_of_100 : decode cX3_of 100 = .ok (.ireturn, 1) := by decide +kernel
theorem dX3_of_101 : decode cX3_of 101 = .ok (.aload_n 3, 1) := by decide +kernel
theorem dX3_of_102 : decode cX3_of 102 = .ok (.getfield 206, 3) := by decide +kernel
theorem dX3_of_105 : decode cX3_of 105 = .ok (.ireturn, 1) := by decide +kernel
theorem dX3_of_106 : decode cX3_of 106 = .ok (.aload_n 3, 1) := by decide +kernel
theorem dX3_of_107 : decode cX3_of 107 = .ok (.getfield 209, 3) := by decide +kernel
theorem dX3_of_110 : decode cX3_of 110 = .ok (.ireturn, 1) := by decide +kernel
theorem dX3_of_111 : decode cX3_of 111 = .ok (.aload_n 3, 1) := by decide +kernel
theorem dX3_of_112 : decode cX3_of 112 = .ok (.getfield 212, 3) := by decide +kernel
theorem dX3_of_115 : decode cX3_of 115 = .ok (.ireturn, 1) := by decide +kernel
theorem dX3_of_116 : decode cX3_of 116 = .ok (.aload_n 3, 1) := by decide +kernel
theorem dX3_of_117 : decode cX3_of 117 = .ok (.getfield 215, 3) := by decide +kernel
theorem dX3_of_120 : decode cX3_of 120 = .ok (.ireturn, 1) := by decide +kernel
theorem dX3_of_121 : decode cX3_of 121 = .ok (.aload_n 3, 1) := by decide +kernel
theorem dX3_of_122 : decode cX3_of 122 = .ok (.getfield 105, 3) := by decide +kernel
theorem dX3_of_125 : decode cX3_of 125 = .ok (.ireturn, 1) := by decide +kernel
theorem dX3_of_126 : decode cX3_of 126 = .ok (.aload_n 3, 1) := by decide +kernel
theorem dX3_of_127 : decode cX3_of 127 = .ok (.getfield 218, 3) := by decide +kernel
theorem dX3_of_130 : decode cX3_of 130 = .ok (.ireturn, 1) := by decide +kernel
theorem dX3_place_0 : decode cX3_place 0 = .ok (.aload_n 0, 1) := by decide +kernel
theorem dX3_place_1 : decode cX3_place 1 = .ok (.iload_n 1, 1) := by decide +kernel
theorem dX3_place_2 : decode cX3_place 2 = .ok (.iload_n 2, 1) := by decide +kernel
theorem dX3_place_3 : decode cX3_place 3 = .ok (.invokevirtual 62, 3) := by decide +kernel
theorem dX3_place_6 : decode cX3_place 6 = .ok (.ireturn, 1) := by decide +kernel
theorem dX3_named_0 : decode cX3_named 0 = .ok (.aload_n 0, 1) := by decide +kernel
theorem dX3_named_1 : decode cX3_named 1 = .ok (.iload_n 1, 1) := by decide +kernel
theorem dX3_named_2 : decode cX3_named 2 = .ok (.invokevirtual 73, 3) := by decide +kernel
theorem dX3_named_5 : decode cX3_named 5 = .ok (.astore_n 3, 1) := by decide +kernel
theorem dX3_named_6 : decode cX3_named 6 = .ok (.aload_n 3, 1) := by decide +kernel
theorem dX3_named_7 : decode cX3_named 7 = .ok (.ifnonnull 9, 3) := by decide +kernel
theorem dX3_named_10 : decode cX3_named 10 = .ok (.aload_n 0, 1) := by decide +kernel
theorem dX3_named_11 : decode cX3_named 11 = .ok (.iconst 2, 1) := by decide +kernel
theorem dX3_named_12 : decode cX3_named 12 = .ok (.invokevirtual 32, 3) := by decide +kernel
theorem dX3_named_15 : decode cX3_named 15 = .ok (.ireturn, 1) := by decide +kernel
theorem dX3_named_16 : decode cX3_named 16 = .ok (.aload_n 3, 1) := by decide +kernel
theorem dX3_named_17 : decode cX3_named 17 = .ok (.invokevirtual 90, 3) := by decide +kernel
theorem dX3_named_20 : decode cX3_named 20 = .ok (.ifCond .ne 9, 3) := by decide +kernel
theorem dX3_named_23 : decode cX3_named 23 = .ok (.aload_n 0, 1) := by decide +kernel
theorem dX3_named_24 : decode cX3_named 24 = .ok (.iconst 4, 1) := by decide +kernel
theorem dX3_named_25 : decode cX3_named 25 = .ok (.invokevirtual 32, 3) := by decide +kernel
theorem dX3_named_28 : decode cX3_named 28 = .ok (.ireturn, 1) := by decide +kernel
theorem dX3_named_29 : decode cX3_named 29 = .ok (.iload_n 2, 1) := by decide +kernel
theorem dX3_named_30 : decode cX3_named 30 = .ok (.ifCond .lt 25, 3) := by decide +kernel
theorem dX3_named_33 : decode cX3_named 33 = .ok (.iload_n 2, 1) := by decide +kernel
theorem dX3_named_34 : decode cX3_named 34 = .ok (.aload_n 3, 1) := by decide +kernel
theorem dX3_named_35 : decode cX3_named 35 = .ok (.getfield 105, 3) := by decide +kernel
theorem dX3_named_38 : decode cX3_named 38 = .ok (.if_icmp .ge 17, 3) := by decide +kernel
theorem dX3_named_41 : decode cX3_named 41 = .ok (.iload_n 2, 1) := by decide +kernel
theorem dX3_named_42 : decode cX3_named 42 = .ok (.iconst 4, 1) := by decide +kernel
theorem dX3_named_43 : decode cX3_named 43 = .ok (.if_icmp .ge 12, 3) := by decide +kernel
theorem dX3_named_46 : decode cX3_named 46 = .ok (.aload_n 3, 1) := by decide +kernel
theorem dX3_named_47 : decode cX3_named 47 = .ok (.getfield 221, 3) := by decide +kernel
theorem dX3_named_50 : decode cX3_named 50 = .ok (.iload_n 2, 1) := by decide +kernel
theorem dX3_named_51 : decode cX3_named 51 = .ok (.iaload, 1) := by decide +kernel
theorem dX3_named_52 : decode cX3_named 52 = .ok (.goto 4, 3) := by decide +kernel
theorem dX3_named_55 : decode cX3_named 55 = .ok (.iconst (-1), 1) := by decide +kernel
theorem dX3_named_56 : decode cX3_named 56 = .ok (.ireturn, 1) := by decide +kernel
theorem dX3_entry_0 : decode cX3_entry 0 = .ok (.aload_n 0, 1) := by decide +kernel
theorem dX3_entry_1 : decode cX3_entry 1 = .ok (.iload_n 1, 1) := by decide +kernel
theorem dX3_entry_2 : decode cX3_entry 2 = .ok (.invokevirtual 73, 3) := by decide +kernel
theorem dX3_entry_5 : decode cX3_entry 5 = .ok (.astore_n 3, 1) := by decide +kernel
theorem dX3_entry_6 : decode cX3_entry 6 = .ok (.aload_n 3, 1) := by decide +kernel
theorem dX3_entry_7 : decode cX3_entry 7 = .ok (.ifnonnull 9, 3) := by decide +kernel
theorem dX3_entry_10 : decode cX3_entry 10 = .ok (.aload_n 0, 1) := by decide +kernel
theorem dX3_entry_11 : decode cX3_entry 11 = .ok (.iconst 2, 1) := by decide +kernel
theorem dX3_entry_12 : decode cX3_entry 12 = .ok (.invokevirtual 32, 3) := by decide +kernel
theorem dX3_entry_15 : decode cX3_entry 15 = .ok (.ireturn, 1) := by decide +kernel
theorem dX3_entry_16 : decode cX3_entry 16 = .ok (.aload_n 3, 1) := by decide +kernel
theorem dX3_entry_17 : decode cX3_entry 17 = .ok (.getfield 77, 3) := by decide +kernel
theorem dX3_entry_20 : decode cX3_entry 20 = .ok (.iconst 4, 1) := by decide +kernel
theorem dX3_entry_21 : decode cX3_entry 21 = .ok (.if_icmp .eq 9, 3) := by decide +kernel
theorem dX3_entry_24 : decode cX3_entry 24 = .ok (.aload_n 0, 1) := by decide +kernel
theorem dX3_entry_25 : decode cX3_entry 25 = .ok (.iconst 4, 1) := by decide +kernel
theorem dX3_entry_26 : decode cX3_entry 26 = .ok (.invokevirtual 32, 3) := by decide +kernel
theorem dX3_entry_29 : decode cX3_entry 29 = .ok (.ireturn, 1) := by decide +kernel
theorem dX3_entry_30 : decode cX3_entry 30 = .ok (.iload_n 2, 1) := by decide +kernel
theorem dX3_entry_31 : decode cX3_entry 31 = .ok (.ifCond .lt 32, 3) := by decide +kernel
theorem dX3_entry_34 : decode cX3_entry 34 = .ok (.iload_n 2, 1) := by decide +kernel
theorem dX3_entry_35 : decode cX3_entry 35 = .ok (.aload_n 3, 1) := by decide +kernel
theorem dX3_entry_36 : decode cX3_entry 36 = .ok (.getfield 215, 3) := by decide +kernel
theorem dX3_entry_39 : decode cX3_entry 39 = .ok (.if_icmp .ge 24, 3) := by decide +kernel
theorem dX3_entry_42 : decode cX3_entry 42 = .ok (.iload_n 2, 1) := by decide +kernel
theorem dX3_entry_43 : decode cX3_entry 43 = .ok (.aload_n 3, 1) := by decide +kernel
theorem dX3_entry_44 : decode cX3_entry 44 = .ok (.getfield 224, 3) := by decide +kernel
theorem dX3_entry_47 : decode cX3_entry 47 = .ok (.arraylength, 1) := by decide +kernel
theorem dX3_entry_48 : decode cX3_entry 48 = .ok (.if_icmp .ge 15, 3) := by decide +kernel
theorem dX3_entry_51 : decode cX3_entry 51 = .ok (.aload_n 3, 1) := by decide +kernel
theorem dX3_entry_52 : decode cX3_entry 52 = .ok (.getfield 224, 3) := by decide +kernel
theorem dX3_entry_55 : decode cX3_entry 55 = .ok (.iload_n 2, 1) := by decide +kernel
theorem dX3_entry_56 : decode cX3_entry 56 = .ok (.aaload, 1) := by decide +kernel
theorem dX3_entry_57 : decode cX3_entry 57 = .ok (.getfield 200, 3) := by decide +kernel
theorem dX3_entry_60 : decode cX3_entry 60 = .ok (.goto 4, 3) := by decide +kernel
theorem dX3_entry_63 : decode cX3_entry 63 = .ok (.iconst (-1), 1) := by decide +kernel
theorem dX3_entry_64 : decode cX3_entry 64 = .ok (.ireturn, 1) := by decide +kernel
theorem dX3_target_0 : decode cX3_target 0 = .ok (.aload_n 0, 1) := by decide +kernel
theorem dX3_target_1 : decode cX3_target 1 = .ok (.iload_n 1, 1) := by decide +kernel
theorem dX3_target_2 : decode cX3_target 2 = .ok (.invokevirtual 73, 3) := by decide +kernel
theorem dX3_target_5 : decode cX3_target 5 = .ok (.astore_n 2, 1) := by decide +kernel
theorem dX3_target_6 : decode cX3_target 6 = .ok (.aload_n 2, 1) := by decide +kernel
theorem dX3_target_7 : decode cX3_target 7 = .ok (.ifnonnull 9, 3) := by decide +kernel
theorem dX3_target_10 : decode cX3_target 10 = .ok (.aload_n 0, 1) := by decide +kernel
theorem dX3_target_11 : decode cX3_target 11 = .ok (.iconst 2, 1) := by decide +kernel
theorem dX3_target_12 : decode cX3_target 12 = .ok (.invokevirtual 32, 3) := by decide +kernel
theorem dX3_target_15 : decode cX3_target 15 = .ok (.ireturn, 1) := by decide +kernel
theorem dX3_target_16 : decode cX3_target 16 = .ok (.aload_n 2, 1) := by decide +kernel
theorem dX3_target_17 : decode cX3_target 17 = .ok (.getfield 228, 3) := by decide +kernel
theorem dX3_target_20 : decode cX3_target 20 = .ok (.ifnonnull 11, 3) := by decide +kernel
theorem dX3_target_23 : decode cX3_target 23 = .ok (.aload_n 0, 1) := by decide +kernel
theorem dX3_target_24 : decode cX3_target 24 = .ok (.iconst 4, 1) := by decide +kernel
theorem dX3_target_25 : decode cX3_target 25 = .ok (.invokevirtual 32, 3) := by decide +kernel
theorem dX3_target_28 : decode cX3_target 28 = .ok (.goto 10, 3) := by decide +kernel
theorem dX3_target_31 : decode cX3_target 31 = .ok (.aload_n 2, 1) := by decide +kernel
theorem dX3_target_32 : decode cX3_target 32 = .ok (.getfield 228, 3) := by decide +kernel
theorem dX3_target_35 : decode cX3_target 35 = .ok (.getfield 98, 3) := by decide +kernel
theorem dX3_target_38 : decode cX3_target 38 = .ok (.ireturn, 1) := by decide +kernel
theorem dX3_why_0 : decode cX3_why 0 = .ok (.aload_n 0, 1) := by decide +kernel
theorem dX3_why_1 : decode cX3_why 1 = .ok (.getfield 41, 3) := by decide +kernel
theorem dX3_why_4 : decode cX3_why 4 = .ok (.ifCond .ne 6, 3) := by decide +kernel
theorem dX3_why_7 : decode cX3_why 7 = .ok (.bipush (-2), 2) := by decide +kernel
theorem dX3_why_9 : decode cX3_why 9 = .ok (.ireturn, 1) := by decide +kernel
theorem dX3_why_10 : decode cX3_why 10 = .ok (.aload_n 0, 1) := by decide +kernel
theorem dX3_why_11 : decode cX3_why 11 = .ok (.iload_n 1, 1) := by decide +kernel
theorem dX3_why_12 : decode cX3_why 12 = .ok (.invokevirtual 73, 3) := by decide +kernel
theorem dX3_why_15 : decode cX3_why 15 = .ok (.astore_n 2, 1) := by decide +kernel
theorem dX3_why_16 : decode cX3_why 16 = .ok (.aload_n 2, 1) := by decide +kernel
theorem dX3_why_17 : decode cX3_why 17 = .ok (.ifnonnull 7, 3) := by decide +kernel
theorem dX3_why_20 : decode cX3_why 20 = .ok (.iconst (-1), 1) := by decide +kernel
theorem dX3_why_21 : decode cX3_why 21 = .ok (.goto 8, 3) := by decide +kernel
theorem dX3_why_24 : decode cX3_why 24 = .ok (.aload_n 0, 1) := by decide +kernel
theorem dX3_why_25 : decode cX3_why 25 = .ok (.aload_n 2, 1) := by decide +kernel
theorem dX3_why_26 : decode cX3_why 26 = .ok (.invokevirtual 231, 3) := by decide +kernel
theorem dX3_why_29 : decode cX3_why 29 = .ok (.ireturn, 1) := by decide +kernel
theorem dX3_on_0 : decode cX3_on 0 = .ok (.aload_n 0, 1) := by decide +kernel
theorem dX3_on_1 : decode cX3_on 1 = .ok (.iload_n 1, 1) := by decide +kernel
theorem dX3_on_2 : decode cX3_on 2 = .ok (.invokevirtual 73, 3) := by decide +kernel
theorem dX3_on_5 : decode cX3_on 5 = .ok (.astore_n 2, 1) := by decide +kernel
theorem dX3_on_6 : decode cX3_on 6 = .ok (.aload_n 0, 1) := by decide +kernel
theorem dX3_on_7 : decode cX3_on 7 = .ok (.getfield 41, 3) := by decide +kernel
theorem dX3_on_10 : decode cX3_on 10 = .ok (.ifCond .eq 7, 3) := by decide +kernel
theorem dX3_on_13 : decode cX3_on 13 = .ok (.aload_n 2, 1) := by decide +kernel
theorem dX3_on_14 : decode cX3_on 14 = .ok (.ifnonnull 5, 3) := by decide +kernel
theorem dX3_on_17 : decode cX3_on 17 = .ok (.iconst (-1), 1) := by decide +kernel
theorem dX3_on_18 : decode cX3_on 18 = .ok (.ireturn, 1) := by decide +kernel
theorem dX3_on_19 : decode cX3_on 19 = .ok (.aload_n 0, 1) := by decide +kernel
theorem dX3_on_20 : decode cX3_on 20 = .ok (.aload_n 2, 1) := by decide +kernel
theorem dX3_on_21 : decode cX3_on 21 = .ok (.invokevirtual 231, 3) := by decide +kernel
theorem dX3_on_24 : decode cX3_on 24 = .ok (.tableswitch 72 3 7 #[36, 41, 47, 72, 66], 36) := by decide +kernel
theorem dX3_on_60 : decode cX3_on 60 = .ok (.aload_n 2, 1) := by decide +kernel
theorem dX3_on_61 : decode cX3_on 61 = .ok (.invokevirtual 234, 3) := by decide +kernel
theorem dX3_on_64 : decode cX3_on 64 = .ok (.ireturn, 1) := by decide +kernel
theorem dX3_on_65 : decode cX3_on 65 = .ok (.aload_n 0, 1) := by decide +kernel
theorem dX3_on_66 : decode cX3_on 66 = .ok (.aload_n 2, 1) := by decide +kernel
theorem dX3_on_67 : decode cX3_on 67 = .ok (.invokevirtual 237, 3) := by decide +kernel
theorem dX3_on_70 : decode cX3_on 70 = .ok (.ireturn, 1) := by decide +kernel
theorem dX3_on_71 : decode cX3_on 71 = .ok (.aload_n 2, 1) := by decide +kernel
theorem dX3_on_72 : decode cX3_on 72 = .ok (.getfield 228, 3) := by decide +kernel
theorem dX3_on_75 : decode cX3_on 75 = .ok (.ifnonnull 7, 3) := by decide +kernel
theorem dX3_on_78 : decode cX3_on 78 = .ok (.iconst (-1), 1) := by decide +kernel
theorem dX3_on_79 : decode cX3_on 79 = .ok (.goto 10, 3) := by decide +kernel
theorem dX3_on_82 : decode cX3_on 82 = .ok (.aload_n 2, 1) := by decide +kernel
theorem dX3_on_83 : decode cX3_on 83 = .ok (.getfield 228, 3) := by decide +kernel
theorem dX3_on_86 : decode cX3_on 86 = .ok (.getfield 98, 3) := by decide +kernel
theorem dX3_on_89 : decode cX3_on 89 = .ok (.ireturn, 1) := by decide +kernel
theorem dX3_on_90 : decode cX3_on 90 = .ok (.aload_n 0, 1) := by decide +kernel
theorem dX3_on_91 : decode cX3_on 91 = .ok (.aload_n 2, 1) := by decide +kernel
theorem dX3_on_92 : decode cX3_on 92 = .ok (.invokevirtual 240, 3) := by decide +kernel
theorem dX3_on_95 : decode cX3_on 95 = .ok (.ireturn, 1) := by decide +kernel
theorem dX3_on_96 : decode cX3_on 96 = .ok (.iconst (-1), 1) := by decide +kernel
theorem dX3_on_97 : decode cX3_on 97 = .ok (.ireturn, 1) := by decide +kernel
theorem dX3_stuck_0 : decode cX3_stuck 0 = .ok (.aload_n 0, 1) := by decide +kernel
theorem dX3_stuck_1 : decode cX3_stuck 1 = .ok (.getfield 41, 3) := by decide +kernel
theorem dX3_stuck_4 : decode cX3_stuck 4 = .ok (.ifCond .eq 10, 3) := by decide +kernel
theorem dX3_stuck_7 : decode cX3_stuck 7 = .ok (.aload_n 0, 1) := by decide +kernel
theorem dX3_stuck_8 : decode cX3_stuck 8 = .ok (.invokevirtual 243, 3) := by decide +kernel
theorem dX3_stuck_11 : decode cX3_stuck 11 = .ok (.ifCond .eq 5, 3) := by decide +kernel
theorem dX3_stuck_14 : decode cX3_stuck 14 = .ok (.iconst 0, 1) := by decide +kernel
theorem dX3_stuck_15 : decode cX3_stuck 15 = .ok (.ireturn, 1) := by decide +kernel
theorem dX3_stuck_16 : decode cX3_stuck 16 = .ok (.iconst 0, 1) := by decide +kernel
theorem dX3_stuck_17 : decode cX3_stuck 17 = .ok (.istore_n 1, 1) := by decide +kernel
theorem dX3_stuck_18 : decode cX3_stuck 18 = .ok (.iconst 0, 1) := by decide +kernel
theorem dX3_stuck_19 : decode cX3_stuck 19 = .ok (.istore_n 2, 1) := by decide +kernel
theorem dX3_stuck_20 : decode cX3_stuck 20 = .ok (.iload_n 2, 1) := by decide +kernel
theorem dX3_stuck_21 : decode cX3_stuck 21 = .ok (.bipush 8, 2) := by decide +kernel
theorem dX3_stuck_23 : decode cX3_stuck 23 = .ok (.if_icmp .ge 42, 3) := by decide +kernel
theorem dX3_stuck_26 : decode cX3_stuck 26 = .ok (.aload_n 0, 1) := by decide +kernel
theorem dX3_stuck_27 : decode cX3_stuck 27 = .ok (.iload_n 2, 1) := by decide +kernel
theorem dX3_stuck_28 : decode cX3_stuck 28 = .ok (.invokevirtual 54, 3) := by decide +kernel
theorem dX3_stuck_31 : decode cX3_stuck 31 = .ok (.astore_n 3, 1) := by decide +kernel
theorem dX3_stuck_32 : decode cX3_stuck 32 = .ok (.aload_n 3, 1) := by decide +kernel
theorem dX3_stuck_33 : decode cX3_stuck 33 = .ok (.ifnull 26, 3) := by decide +kernel
theorem dX3_stuck_36 : decode cX3_stuck 36 = .ok (.aload_n 3, 1) := by decide +kernel
theorem dX3_stuck_37 : decode cX3_stuck 37 = .ok (.invokevirtual 246, 3) := by decide +kernel
theorem dX3_stuck_40 : decode cX3_stuck 40 = .ok (.ifCond .eq 19, 3) := by decide +kernel
theorem dX3_stuck_43 : decode cX3_stuck 43 = .ok (.iconst 1, 1) := by decide +kernel
theorem dX3_stuck_44 : decode cX3_stuck 44 = .ok (.istore_n 1, 1) := by decide +kernel
theorem dX3_stuck_45 : decode cX3_stuck 45 = .ok (.aload_n 0, 1) := by decide +kernel
theorem dX3_stuck_46 : decode cX3_stuck 46 = .ok (.aload_n 3, 1) := by decide +kernel
theorem dX3_stuck_47 : decode cX3_stuck 47 = .ok (.aload_n 3, 1) := by decide +kernel
theorem dX3_stuck_48 : decode cX3_stuck 48 = .ok (.getfield 162, 3) := by decide +kernel
theorem dX3_stuck_51 : decode cX3_stuck 51 = .ok (.invokevirtual 179, 3) := by decide +kernel
theorem dX3_stuck_54 : decode cX3_stuck 54 = .ok (.ifCond .ne 5, 3) := by decide +kernel
theorem dX3_stuck_57 : decode cX3_stuck 57 = .ok (.iconst 0, 1) := by decide +kernel
theorem dX3_stuck_58 : decode cX3_stuck 58 = .ok (.ireturn, 1) := by decide +kernel
theorem dX3_stuck_59 : decode cX3_stuck 59 = .ok (.iinc 2 1, 3) := by decide +kernel
theorem dX3_stuck_62 : decode cX3_stuck 62 = .ok (.goto (-42), 3) := by decide +kernel
theorem dX3_stuck_65 : decode cX3_stuck 65 = .ok (.iload_n 1, 1) := by decide +kernel
theorem dX3_stuck_66 : decode cX3_stuck 66 = .ok (.ireturn, 1) := by decide +kernel
theorem dX3_found_0 : decode cX3_found 0 = .ok (.iload_n 1, 1) := by decide +kernel
theorem dX3_found_1 : decode cX3_found 1 = .ok (.ifCond .ne 8, 3) := by decide +kernel
theorem dX3_found_4 : decode cX3_found 4 = .ok (.aload_n 0, 1) := by decide +kernel
theorem dX3_found_5 : decode cX3_found 5 = .ok (.getfield 249, 3) := by decide +kernel
theorem dX3_found_8 : decode cX3_found 8 = .ok (.ireturn, 1) := by decide +kernel
theorem dX3_found_9 : decode cX3_found 9 = .ok (.iload_n 1, 1) := by decide +kernel
theorem dX3_found_10 : decode cX3_found 10 = .ok (.iconst 1, 1) := by decide +kernel
theorem dX3_found_11 : decode cX3_found 11 = .ok (.if_icmp .lt 18, 3) := by decide +kernel
theorem dX3_found_14 : decode cX3_found 14 = .ok (.iload_n 1, 1) := by decide +kernel
theorem dX3_found_15 : decode cX3_found 15 = .ok (.bipush 6, 2) := by decide +kernel
theorem dX3_found_17 : decode cX3_found 17 = .ok (.if_icmp .gt 12, 3) := by decide +kernel
theorem dX3_found_20 : decode cX3_found 20 = .ok (.aload_n 0, 1) := by decide +kernel
theorem dX3_found_21 : decode cX3_found 21 = .ok (.getfield 21, 3) := by decide +kernel
theorem dX3_found_24 : decode cX3_found 24 = .ok (.iload_n 1, 1) := by decide +kernel
theorem dX3_found_25 : decode cX3_found 25 = .ok (.iaload, 1) := by decide +kernel
theorem dX3_found_26 : decode cX3_found 26 = .ok (.goto 4, 3) := by decide +kernel
theorem dX3_found_29 : decode cX3_found 29 = .ok (.iconst (-1), 1) := by decide +kernel
theorem dX3_found_30 : decode cX3_found 30 = .ok (.ireturn, 1) := by decide +kernel
theorem dX3_ringAt_0 : decode cX3_ringAt 0 = .ok (.iload_n 1, 1) := by decide +kernel
theorem dX3_ringAt_1 : decode cX3_ringAt 1 = .ok (.ifCond .lt 18, 3) := by decide +kernel
theorem dX3_ringAt_4 : decode cX3_ringAt 4 = .ok (.iload_n 1, 1) := by decide +kernel
theorem dX3_ringAt_5 : decode cX3_ringAt 5 = .ok (.bipush 8, 2) := by decide +kernel
theorem dX3_ringAt_7 : decode cX3_ringAt 7 = .ok (.if_icmp .ge 12, 3) := by decide +kernel
theorem dX3_ringAt_10 : decode cX3_ringAt 10 = .ok (.aload_n 0, 1) := by decide +kernel
theorem dX3_ringAt_11 : decode cX3_ringAt 11 = .ok (.getfield 11, 3) := by decide +kernel
theorem dX3_ringAt_14 : decode cX3_ringAt 14 = .ok (.iload_n 1, 1) := by decide +kernel
theorem dX3_ringAt_15 : decode cX3_ringAt 15 = .ok (.aaload, 1) := by decide +kernel
theorem dX3_ringAt_16 : decode cX3_ringAt 16 = .ok (.goto 4, 3) := by decide +kernel
theorem dX3_ringAt_19 : decode cX3_ringAt 19 = .ok (.aconst_null, 1) := by decide +kernel
theorem dX3_ringAt_20 : decode cX3_ringAt 20 = .ok (.areturn, 1) := by decide +kernel
theorem dX3_readerAt_0 : decode cX3_readerAt 0 = .ok (.iload_n 1, 1) := by decide +kernel
theorem dX3_readerAt_1 : decode cX3_readerAt 1 = .ok (.ifCond .lt 18, 3) := by decide +kernel
theorem dX3_readerAt_4 : decode cX3_readerAt 4 = .ok (.iload_n 1, 1) := by decide +kernel
theorem dX3_readerAt_5 : decode cX3_readerAt 5 = .ok (.bipush 16, 2) := by decide +kernel
theorem dX3_readerAt_7 : decode cX3_readerAt 7 = .ok (.if_icmp .ge 12, 3) := by decide +kernel
theorem dX3_readerAt_10 : decode cX3_readerAt 10 = .ok (.aload_n 0, 1) := by decide +kernel
theorem dX3_readerAt_11 : decode cX3_readerAt 11 = .ok (.getfield 17, 3) := by decide +kernel
theorem dX3_readerAt_14 : decode cX3_readerAt 14 = .ok (.iload_n 1, 1) := by decide +kernel
theorem dX3_readerAt_15 : decode cX3_readerAt 15 = .ok (.aaload, 1) := by decide +kernel
theorem dX3_readerAt_16 : decode cX3_readerAt 16 = .ok (.goto 4, 3) := by decide +kernel
theorem dX3_readerAt_19 : decode cX3_readerAt 19 = .ok (.aconst_null, 1) := by decide +kernel
theorem dX3_readerAt_20 : decode cX3_readerAt 20 = .ok (.areturn, 1) := by decide +kernel
theorem dX3_placeOf_0 : decode cX3_placeOf 0 = .ok (.aload_n 0, 1) := by decide +kernel
theorem dX3_placeOf_1 : decode cX3_placeOf 1 = .ok (.iload_n 1, 1) := by decide +kernel
theorem dX3_placeOf_2 : decode cX3_placeOf 2 = .ok (.invokevirtual 73, 3) := by decide +kernel
theorem dX3_placeOf_5 : decode cX3_placeOf 5 = .ok (.astore_n 3, 1) := by decide +kernel
theorem dX3_placeOf_6 : decode cX3_placeOf 6 = .ok (.aload_n 3, 1) := by decide +kernel
theorem dX3_placeOf_7 : decode cX3_placeOf 7 = .ok (.ifnonnull 7, 3) := by decide +kernel
theorem dX3_placeOf_10 : decode cX3_placeOf 10 = .ok (.iconst (-1), 1) := by decide +kernel
theorem dX3_placeOf_11 : decode cX3_placeOf 11 = .ok (.goto 8, 3) := by decide +kernel
theorem dX3_placeOf_14 : decode cX3_placeOf 14 = .ok (.aload_n 3, 1) := by decide +kernel
theorem dX3_placeOf_15 : decode cX3_placeOf 15 = .ok (.iload_n 2, 1) := by decide +kernel
theorem dX3_placeOf_16 : decode cX3_placeOf 16 = .ok (.invokevirtual 80, 3) := by decide +kernel
theorem dX3_placeOf_19 : decode cX3_placeOf 19 = .ok (.ireturn, 1) := by decide +kernel
theorem dX3_finding_0 : decode cX3_finding 0 = .ok (.iload_n 1, 1) := by decide +kernel
theorem dX3_finding_1 : decode cX3_finding 1 = .ok (.iconst 1, 1) := by decide +kernel
theorem dX3_finding_2 : decode cX3_finding 2 = .ok (.if_icmp .lt 24, 3) := by decide +kernel
theorem dX3_finding_5 : decode cX3_finding 5 = .ok (.iload_n 1, 1) := by decide +kernel
theorem dX3_finding_6 : decode cX3_finding 6 = .ok (.bipush 6, 2) := by decide +kernel
theorem dX3_finding_8 : decode cX3_finding 8 = .ok (.if_icmp .gt 18, 3) := by decide +kernel
theorem dX3_finding_11 : decode cX3_finding 11 = .ok (.aload_n 0, 1) := by decide +kernel
theorem dX3_finding_12 : decode cX3_finding 12 = .ok (.getfield 21, 3) := by decide +kernel
theorem dX3_finding_15 : decode cX3_finding 15 = .ok (.iload_n 1, 1) := by decide +kernel
theorem dX3_finding_16 : decode cX3_finding 16 = .ok (.dup2, 1) := by decide +kernel
theorem dX3_finding_17 : decode cX3_finding 17 = .ok (.iaload, 1) := by decide +kernel
theorem dX3_finding_18 : decode cX3_finding 18 = .ok (.iconst 1, 1) := by decide +kernel
theorem dX3_finding_19 : decode cX3_finding 19 = .ok (.iadd, 1) := by decide +kernel
theorem dX3_finding_20 : decode cX3_finding 20 = .ok (.iastore, 1) := by decide +kernel
theorem dX3_finding_21 : decode cX3_finding 21 = .ok (.aload_n 0, 1) := by decide +kernel
theorem dX3_finding_22 : decode cX3_finding 22 = .ok (.iload_n 1, 1) := by decide +kernel
theorem dX3_finding_23 : decode cX3_finding 23 = .ok (.putfield 249, 3) := by decide +kernel
theorem dX3_finding_26 : decode cX3_finding 26 = .ok (.bipush (-12), 2) := by decide +kernel
theorem dX3_finding_28 : decode cX3_finding 28 = .ok (.ireturn, 1) := by decide +kernel
theorem dX3_otherMayBe_0 : decode cX3_otherMayBe 0 = .ok (.iload_n 1, 1) := by decide +kernel
theorem dX3_otherMayBe_1 : decode cX3_otherMayBe 1 = .ok (.iconst 5, 1) := by decide +kernel
theorem dX3_otherMayBe_2 : decode cX3_otherMayBe 2 = .ok (.if_icmp .eq 9, 3) := by decide +kernel
theorem dX3_otherMayBe_5 : decode cX3_otherMayBe 5 = .ok (.iload_n 1, 1) := by decide +kernel
theorem dX3_otherMayBe_6 : decode cX3_otherMayBe 6 = .ok (.bipush 7, 2) := by decide +kernel
theorem dX3_otherMayBe_8 : decode cX3_otherMayBe 8 = .ok (.if_icmp .ne 22, 3) := by decide +kernel
theorem dX3_otherMayBe_11 : decode cX3_otherMayBe 11 = .ok (.iload_n 3, 1) := by decide +kernel
theorem dX3_otherMayBe_12 : decode cX3_otherMayBe 12 = .ok (.iload_n 2, 1) := by decide +kernel
theorem dX3_otherMayBe_13 : decode cX3_otherMayBe 13 = .ok (.if_icmp .eq 15, 3) := by decide +kernel
theorem dX3_otherMayBe_16 : decode cX3_otherMayBe 16 = .ok (.aload_n 0, 1) := by decide +kernel
theorem dX3_otherMayBe_17 : decode cX3_otherMayBe 17 = .ok (.iload_n 3, 1) := by decide +kernel
theorem dX3_otherMayBe_18 : decode cX3_otherMayBe 18 = .ok (.invokevirtual 54, 3) := by decide +kernel
theorem dX3_otherMayBe_21 : decode cX3_otherMayBe 21 = .ok (.ifnull 7, 3) := by decide +kernel
theorem dX3_otherMayBe_24 : decode cX3_otherMayBe 24 = .ok (.iconst 1, 1) := by decide +kernel
theorem dX3_otherMayBe_25 : decode cX3_otherMayBe 25 = .ok (.goto 4, 3) := by decide +kernel
theorem dX3_otherMayBe_28 : decode cX3_otherMayBe 28 = .ok (.iconst 0, 1) := by decide +kernel
theorem dX3_otherMayBe_29 : decode cX3_otherMayBe 29 = .ok (.ireturn, 1) := by decide +kernel
theorem dX3_otherMayBe_30 : decode cX3_otherMayBe 30 = .ok (.iload_n 1, 1) := by decide +kernel
theorem dX3_otherMayBe_31 : decode cX3_otherMayBe 31 = .ok (.bipush 6, 2) := by decide +kernel
theorem dX3_otherMayBe_33 : decode cX3_otherMayBe 33 = .ok (.if_icmp .ne 11, 3) := by decide +kernel
theorem dX3_otherMayBe_36 : decode cX3_otherMayBe 36 = .ok (.aload_n 0, 1) := by decide +kernel
theorem dX3_otherMayBe_37 : decode cX3_otherMayBe 37 = .ok (.iload_n 3, 1) := by decide +kernel
theorem dX3_otherMayBe_38 : decode cX3_otherMayBe 38 = .ok (.invokevirtual 73, 3) := by decide +kernel
theorem dX3_otherMayBe_41 : decode cX3_otherMayBe 41 = .ok (.ifnull 7, 3) := by decide +kernel
theorem dX3_otherMayBe_44 : decode cX3_otherMayBe 44 = .ok (.iconst 1, 1) := by decide +kernel
theorem dX3_otherMayBe_45 : decode cX3_otherMayBe 45 = .ok (.goto 4, 3) := by decide +kernel
theorem dX3_otherMayBe_48 : decode cX3_otherMayBe 48 = .ok (.iconst 0, 1) := by decide +kernel
theorem dX3_otherMayBe_49 : decode cX3_otherMayBe 49 = .ok (.ireturn, 1) := by decide +kernel
theorem dX3_newReader_0 : decode cX3_newReader 0 = .ok (.new 15, 3) := by decide +kernel
theorem dX3_newReader_3 : decode cX3_newReader 3 = .ok (.dup, 1) := by decide +kernel
theorem dX3_newReader_4 : decode cX3_newReader 4 = .ok (.iload_n 1, 1) := by decide +kernel
theorem dX3_newReader_5 : decode cX3_newReader 5 = .ok (.aload_n 2, 1) := by decide +kernel
theorem dX3_newReader_6 : decode cX3_newReader 6 = .ok (.iload_n 1, 1) := by decide +kernel
theorem dX3_newReader_7 : decode cX3_newReader 7 = .ok (.bipush 7, 2) := by decide +kernel
theorem dX3_newReader_9 : decode cX3_newReader 9 = .ok (.if_icmp .ne 11, 3) := by decide +kernel
theorem dX3_newReader_12 : decode cX3_newReader 12 = .ok (.aload_n 0, 1) := by decide +kernel
theorem dX3_newReader_13 : decode cX3_newReader 13 = .ok (.iload_n 3, 1) := by decide +kernel
theorem dX3_newReader_14 : decode cX3_newReader 14 = .ok (.invokevirtual 54, 3) := by decide +kernel
theorem dX3_newReader_17 : decode cX3_newReader 17 = .ok (.goto 4, 3) := by decide +kernel
theorem dX3_newReader_20 : decode cX3_newReader 20 = .ok (.aconst_null, 1) := by decide +kernel
theorem dX3_newReader_21 : decode cX3_newReader 21 = .ok (.invokespecial 252, 3) := by decide +kernel
theorem dX3_newReader_24 : decode cX3_newReader 24 = .ok (.astore 4, 2) := by decide +kernel
theorem dX3_newReader_26 : decode cX3_newReader 26 = .ok (.iload_n 1, 1) := by decide +kernel
theorem dX3_newReader_27 : decode cX3_newReader 27 = .ok (.iconst 1, 1) := by decide +kernel
theorem dX3_newReader_28 : decode cX3_newReader 28 = .ok (.if_icmp .eq 17, 3) := by decide +kernel
theorem dX3_newReader_31 : decode cX3_newReader 31 = .ok (.iload_n 1, 1) := by decide +kernel
theorem dX3_newReader_32 : decode cX3_newReader 32 = .ok (.iconst 4, 1) := by decide +kernel
theorem dX3_newReader_33 : decode cX3_newReader 33 = .ok (.if_icmp .eq 12, 3) := by decide +kernel
theorem dX3_newReader_36 : decode cX3_newReader 36 = .ok (.aload 4, 2) := by decide +kernel
theorem dX3_newReader_38 : decode cX3_newReader 38 = .ok (.aload_n 2, 1) := by decide +kernel
theorem dX3_newReader_39 : decode cX3_newReader 39 = .ok (.getfield 98, 3) := by decide +kernel
theorem dX3_newReader_42 : decode cX3_newReader 42 = .ok (.invokevirtual 86, 3) := by decide +kernel
theorem dX3_newReader_45 : decode cX3_newReader 45 = .ok (.iload_n 1, 1) := by decide +kernel
theorem dX3_newReader_46 : decode cX3_newReader 46 = .ok (.iconst 5, 1) := by decide +kernel
theorem dX3_newReader_47 : decode cX3_newReader 47 = .ok (.if_icmp .ne 9, 3) := by decide +kernel
theorem dX3_newReader_50 : decode cX3_newReader 50 = .ok (.aload 4, 2) := by decide +kernel
theorem dX3_newReader_52 : decode cX3_newReader 52 = .ok (.iload_n 3, 1) := by decide +kernel
theorem dX3_newReader_53 : decode cX3_newReader 53 = .ok (.invokevirtual 86, 3) := by decide +kernel
theorem dX3_newReader_56 : decode cX3_newReader 56 = .ok (.iload_n 1, 1) := by decide +kernel
theorem dX3_newReader_57 : decode cX3_newReader 57 = .ok (.bipush 6, 2) := by decide +kernel
theorem dX3_newReader_59 : decode cX3_newReader 59 = .ok (.if_icmp .ne 9, 3) := by decide +kernel
theorem dX3_newReader_62 : decode cX3_newReader 62 = .ok (.aload 4, 2) := by decide +kernel
theorem dX3_newReader_64 : decode cX3_newReader 64 = .ok (.iload_n 3, 1) := by decide +kernel
theorem dX3_newReader_65 : decode cX3_newReader 65 = .ok (.invokevirtual 115, 3) := by decide +kernel
theorem dX3_newReader_68 : decode cX3_newReader 68 = .ok (.aload 4, 2) := by decide +kernel
theorem dX3_newReader_70 : decode cX3_newReader 70 = .ok (.areturn, 1) := by decide +kernel
theorem dX3_leadsTo_0 : decode cX3_leadsTo 0 = .ok (.aload_n 0, 1) := by decide +kernel
theorem dX3_leadsTo_1 : decode cX3_leadsTo 1 = .ok (.iconst 1, 1) := by decide +kernel
theorem dX3_leadsTo_2 : decode cX3_leadsTo 2 = .ok (.iload_n 1, 1) := by decide +kernel
theorem dX3_leadsTo_3 : decode cX3_leadsTo 3 = .ok (.ishl, 1) := by decide +kernel
theorem dX3_leadsTo_4 : decode cX3_leadsTo 4 = .ok (.invokevirtual 255, 3) := by decide +kernel
theorem dX3_leadsTo_7 : decode cX3_leadsTo 7 = .ok (.istore_n 3, 1) := by decide +kernel
theorem dX3_leadsTo_8 : decode cX3_leadsTo 8 = .ok (.iconst 0, 1) := by decide +kernel
theorem dX3_leadsTo_9 : decode cX3_leadsTo 9 = .ok (.istore 4, 2) := by decide +kernel
theorem dX3_leadsTo_11 : decode cX3_leadsTo 11 = .ok (.iload 4, 2) := by decide +kernel
theorem dX3_leadsTo_13 : decode cX3_leadsTo 13 = .ok (.bipush 16, 2) := by decide +kernel
theorem dX3_leadsTo_15 : decode cX3_leadsTo 15 = .ok (.if_icmp .ge 17, 3) := by decide +kernel
theorem dX3_leadsTo_18 : decode cX3_leadsTo 18 = .ok (.iload_n 3, 1) := by decide +kernel
theorem dX3_leadsTo_19 : decode cX3_leadsTo 19 = .ok (.aload_n 0, 1) := by decide +kernel
theorem dX3_leadsTo_20 : decode cX3_leadsTo 20 = .ok (.iload_n 3, 1) := by decide +kernel
theorem dX3_leadsTo_21 : decode cX3_leadsTo 21 = .ok (.invokevirtual 255, 3) := by decide +kernel
theorem dX3_leadsTo_24 : decode cX3_leadsTo 24 = .ok (.ior, 1) := by decide +kernel
theorem dX3_leadsTo_25 : decode cX3_leadsTo 25 = .ok (.istore_n 3, 1) := by decide +kernel
theorem dX3_leadsTo_26 : decode cX3_leadsTo 26 = .ok (.iinc 4 1, 3) := by decide +kernel
theorem dX3_leadsTo_29 : decode cX3_leadsTo 29 = .ok (.goto (-18), 3) := by decide +kernel
theorem dX3_leadsTo_32 : decode cX3_leadsTo 32 = .ok (.iload_n 3, 1) := by decide +kernel
theorem dX3_leadsTo_33 : decode cX3_leadsTo 33 = .ok (.iload_n 2, 1) := by decide +kernel
theorem dX3_leadsTo_34 : decode cX3_leadsTo 34 = .ok (.ishr, 1) := by decide +kernel
theorem dX3_leadsTo_35 : decode cX3_leadsTo 35 = .ok (.iconst 1, 1) := by decide +kernel
theorem dX3_leadsTo_36 : decode cX3_leadsTo 36 = .ok (.iand, 1) := by decide +kernel
theorem dX3_leadsTo_37 : decode cX3_leadsTo 37 = .ok (.ifCond .eq 7, 3) := by decide +kernel
theorem dX3_leadsTo_40 : decode cX3_leadsTo 40 = .ok (.iconst 1, 1) := by decide +kernel
theorem dX3_leadsTo_41 : decode cX3_leadsTo 41 = .ok (.goto 4, 3) := by decide +kernel
theorem dX3_leadsTo_44 : decode cX3_leadsTo 44 = .ok (.iconst 0, 1) := by decide +kernel
theorem dX3_leadsTo_45 : decode cX3_leadsTo 45 = .ok (.ireturn, 1) := by decide +kernel
theorem dX3_namesOfAll_0 : decode cX3_namesOfAll 0 = .ok (.iconst 0, 1) := by decide +kernel
theorem dX3_namesOfAll_1 : decode cX3_namesOfAll 1 = .ok (.istore_n 2, 1) := by decide +kernel
theorem dX3_namesOfAll_2 : decode cX3_namesOfAll 2 = .ok (.iconst 0, 1) := by decide +kernel
theorem dX3_namesOfAll_3 : decode cX3_namesOfAll 3 = .ok (.istore_n 3, 1) := by decide +kernel
theorem dX3_namesOfAll_4 : decode cX3_namesOfAll 4 = .ok (.iload_n 3, 1) := by decide +kernel
theorem dX3_namesOfAll_5 : decode cX3_namesOfAll 5 = .ok (.bipush 16, 2) := by decide +kernel
theorem dX3_namesOfAll_7 : decode cX3_namesOfAll 7 = .ok (.if_icmp .ge 37, 3) := by decide +kernel
theorem dX3_namesOfAll_10 : decode cX3_namesOfAll 10 = .ok (.aload_n 0, 1) := by decide +kernel
theorem dX3_namesOfAll_11 : decode cX3_namesOfAll 11 = .ok (.iload_n 3, 1) := by decide +kernel
theorem dX3_namesOfAll_12 : decode cX3_namesOfAll 12 = .ok (.invokevirtual 73, 3) := by decide +kernel
theorem dX3_namesOfAll_15 : decode cX3_namesOfAll 15 = .ok (.astore 4, 2) := by decide +kernel
theorem dX3_namesOfAll_17 : decode cX3_namesOfAll 17 = .ok (.aload 4, 2) := by decide +kernel
theorem dX3_namesOfAll_19 : decode cX3_namesOfAll 19 = .ok (.ifnull 19, 3) := by decide +kernel
theorem dX3_namesOfAll_22 : decode cX3_namesOfAll 22 = .ok (.iload_n 1, 1) := by decide +kernel
theorem dX3_namesOfAll_23 : decode cX3_namesOfAll 23 = .ok (.iload_n 3, 1) := by decide +kernel
theorem dX3_namesOfAll_24 : decode cX3_namesOfAll 24 = .ok (.ishr, 1) := by decide +kernel
theorem dX3_namesOfAll_25 : decode cX3_namesOfAll 25 = .ok (.iconst 1, 1) := by decide +kernel
theorem dX3_namesOfAll_26 : decode cX3_namesOfAll 26 = .ok (.iand, 1) := by decide +kernel
theorem dX3_namesOfAll_27 : decode cX3_namesOfAll 27 = .ok (.ifCond .eq 11, 3) := by decide +kernel
theorem dX3_namesOfAll_30 : decode cX3_namesOfAll 30 = .ok (.iload_n 2, 1) := by decide +kernel
theorem dX3_namesOfAll_31 : decode cX3_namesOfAll 31 = .ok (.aload 4, 2) := by decide +kernel
theorem dX3_namesOfAll_33 : decode cX3_namesOfAll 33 = .ok (.getfield 258, 3) := by decide +kernel
theorem dX3_namesOfAll_36 : decode cX3_namesOfAll 36 = .ok (.ior, 1) := by decide +kernel
theorem dX3_namesOfAll_37 : decode cX3_namesOfAll 37 = .ok (.istore_n 2, 1) := by decide +kernel
theorem dX3_namesOfAll_38 : decode cX3_namesOfAll 38 = .ok (.iinc 3 1, 3) := by decide +kernel
theorem dX3_namesOfAll_41 : decode cX3_namesOfAll 41 = .ok (.goto (-37), 3) := by decide +kernel
theorem dX3_namesOfAll_44 : decode cX3_namesOfAll 44 = .ok (.iload_n 2, 1) := by decide +kernel
theorem dX3_namesOfAll_45 : decode cX3_namesOfAll 45 = .ok (.ireturn, 1) := by decide +kernel
theorem dX3_keepCircle_0 : decode cX3_keepCircle 0 = .ok (.aload_n 0, 1) := by decide +kernel
theorem dX3_keepCircle_1 : decode cX3_keepCircle 1 = .ok (.getfield 25, 3) := by decide +kernel
theorem dX3_keepCircle_4 : decode cX3_keepCircle 4 = .ok (.iconst 0, 1) := by decide +kernel
theorem dX3_keepCircle_5 : decode cX3_keepCircle 5 = .ok (.iload_n 1, 1) := by decide +kernel
theorem dX3_keepCircle_6 : decode cX3_keepCircle 6 = .ok (.iastore, 1) := by decide +kernel
theorem dX3_keepCircle_7 : decode cX3_keepCircle 7 = .ok (.aload_n 0, 1) := by decide +kernel
theorem dX3_keepCircle_8 : decode cX3_keepCircle 8 = .ok (.getfield 25, 3) := by decide +kernel
theorem dX3_keepCircle_11 : decode cX3_keepCircle 11 = .ok (.iconst 1, 1) := by decide +kernel
theorem dX3_keepCircle_12 : decode cX3_keepCircle 12 = .ok (.iload_n 2, 1) := by decide +kernel
theorem dX3_keepCircle_13 : decode cX3_keepCircle 13 = .ok (.iastore, 1) := by decide +kernel
theorem dX3_keepCircle_14 : decode cX3_keepCircle 14 = .ok (.aload_n 0, 1) := by decide +kernel
theorem dX3_keepCircle_15 : decode cX3_keepCircle 15 = .ok (.iconst 2, 1) := by decide +kernel
theorem dX3_keepCircle_16 : decode cX3_keepCircle 16 = .ok (.putfield 118, 3) := by decide +kernel
theorem dX3_keepCircle_19 : decode cX3_keepCircle 19 = .ok (.aload_n 0, 1) := by decide +kernel
theorem dX3_keepCircle_20 : decode cX3_keepCircle 20 = .ok (.iload_n 2, 1) := by decide +kernel
theorem dX3_keepCircle_21 : decode cX3_keepCircle 21 = .ok (.iload_n 1, 1) := by decide +kernel
theorem dX3_keepCircle_22 : decode cX3_keepCircle 22 = .ok (.invokevirtual 261, 3) := by decide +kernel
theorem dX3_keepCircle_25 : decode cX3_keepCircle 25 = .ok (.istore_n 3, 1) := by decide +kernel
theorem dX3_keepCircle_26 : decode cX3_keepCircle 26 = .ok (.iconst 2, 1) := by decide +kernel
theorem dX3_keepCircle_27 : decode cX3_keepCircle 27 = .ok (.istore 4, 2) := by decide +kernel
theorem dX3_keepCircle_29 : decode cX3_keepCircle 29 = .ok (.iload 4, 2) := by decide +kernel
theorem dX3_keepCircle_31 : decode cX3_keepCircle 31 = .ok (.bipush 16, 2) := by decide +kernel
theorem dX3_keepCircle_33 : decode cX3_keepCircle 33 = .ok (.if_icmp .ge 38, 3) := by decide +kernel
theorem dX3_keepCircle_36 : decode cX3_keepCircle 36 = .ok (.iload_n 3, 1) := by decide +kernel
theorem dX3_keepCircle_37 : decode cX3_keepCircle 37 = .ok (.ifCond .lt 34, 3) := by decide +kernel
theorem dX3_keepCircle_40 : decode cX3_keepCircle 40 = .ok (.aload_n 0, 1) := by decide +kernel
theorem dX3_keepCircle_41 : decode cX3_keepCircle 41 = .ok (.getfield 25, 3) := by decide +kernel
theorem dX3_keepCircle_44 : decode cX3_keepCircle 44 = .ok (.iload 4, 2) := by decide +kernel
theorem dX3_keepCircle_46 : decode cX3_keepCircle 46 = .ok (.iload_n 3, 1) := by decide +kernel
theorem dX3_keepCircle_47 : decode cX3_keepCircle 47 = .ok (.iastore, 1) := by decide +kernel
theorem dX3_keepCircle_48 : decode cX3_keepCircle 48 = .ok (.aload_n 0, 1) := by decide +kernel
theorem dX3_keepCircle_49 : decode cX3_keepCircle 49 = .ok (.dup, 1) := by decide +kernel
theorem dX3_keepCircle_50 : decode cX3_keepCircle 50 = .ok (.getfield 118, 3) := by decide +kernel
theorem dX3_keepCircle_53 : decode cX3_keepCircle 53 = .ok (.iconst 1, 1) := by decide +kernel
theorem dX3_keepCircle_54 : decode cX3_keepCircle 54 = .ok (.iadd, 1) := by decide +kernel
theorem dX3_keepCircle_55 : decode cX3_keepCircle 55 = .ok (.putfield 118, 3) := by decide +kernel
theorem dX3_keepCircle_58 : decode cX3_keepCircle 58 = .ok (.aload_n 0, 1) := by decide +kernel
theorem dX3_keepCircle_59 : decode cX3_keepCircle 59 = .ok (.iload_n 3, 1) := by decide +kernel
theorem dX3_keepCircle_60 : decode cX3_keepCircle 60 = .ok (.iload_n 1, 1) := by decide +kernel
theorem dX3_keepCircle_61 : decode cX3_keepCircle 61 = .ok (.invokevirtual 261, 3) := by decide +kernel
theorem dX3_keepCircle_64 : decode cX3_keepCircle 64 = .ok (.istore_n 3, 1) := by decide +kernel
theorem dX3_keepCircle_65 : decode cX3_keepCircle 65 = .ok (.iinc 4 1, 3) := by decide +kernel
theorem dX3_keepCircle_68 : decode cX3_keepCircle 68 = .ok (.goto (-39), 3) := by decide +kernel
theorem dX3_keepCircle_71 : decode cX3_keepCircle 71 = .ok (.return_, 1) := by decide +kernel
theorem dX3_leastTowards_0 : decode cX3_leastTowards 0 = .ok (.aload_n 0, 1) := by decide +kernel
theorem dX3_leastTowards_1 : decode cX3_leastTowards 1 = .ok (.iconst 1, 1) := by decide +kernel
theorem dX3_leastTowards_2 : decode cX3_leastTowards 2 = .ok (.iload_n 1, 1) := by decide +kernel
theorem dX3_leastTowards_3 : decode cX3_leastTowards 3 = .ok (.ishl, 1) := by decide +kernel
theorem dX3_leastTowards_4 : decode cX3_leastTowards 4 = .ok (.invokevirtual 255, 3) := by decide +kernel
theorem dX3_leastTowards_7 : decode cX3_leastTowards 7 = .ok (.istore_n 3, 1) := by decide +kernel
theorem dX3_leastTowards_8 : decode cX3_leastTowards 8 = .ok (.iload_n 3, 1) := by decide +kernel
theorem dX3_leastTowards_9 : decode cX3_leastTowards 9 = .ok (.iload_n 2, 1) := by decide +kernel
theorem dX3_leastTowards_10 : decode cX3_leastTowards 10 = .ok (.ishr, 1) := by decide +kernel
theorem dX3_leastTowards_11 : decode cX3_leastTowards 11 = .ok (.iconst 1, 1) := by decide +kernel
theorem dX3_leastTowards_12 : decode cX3_leastTowards 12 = .ok (.iand, 1) := by decide +kernel
theorem dX3_leastTowards_13 : decode cX3_leastTowards 13 = .ok (.ifCond .eq 5, 3) := by decide +kernel
theorem dX3_leastTowards_16 : decode cX3_leastTowards 16 = .ok (.iconst (-1), 1) := by decide +kernel
theorem dX3_leastTowards_17 : decode cX3_leastTowards 17 = .ok (.ireturn, 1) := by decide +kernel
theorem dX3_leastTowards_18 : decode cX3_leastTowards 18 = .ok (.iconst 0, 1) := by decide +kernel
theorem dX3_leastTowards_19 : decode cX3_leastTowards 19 = .ok (.istore 4, 2) := by decide +kernel
theorem dX3_leastTowards_21 : decode cX3_leastTowards 21 = .ok (.iload 4, 2) := by decide +kernel
theorem dX3_leastTowards_23 : decode cX3_leastTowards 23 = .ok (.bipush 16, 2) := by decide +kernel
theorem dX3_leastTowards_25 : decode cX3_leastTowards 25 = .ok (.if_icmp .ge 31, 3) := by decide +kernel
theorem dX3_leastTowards_28 : decode cX3_leastTowards 28 = .ok (.iload_n 3, 1) := by decide +kernel
theorem dX3_leastTowards_29 : decode cX3_leastTowards 29 = .ok (.iload 4, 2) := by decide +kernel
theorem dX3_leastTowards_31 : decode cX3_leastTowards 31 = .ok (.ishr, 1) := by decide +kernel
theorem dX3_leastTowards_32 : decode cX3_leastTowards 32 = .ok (.iconst 1, 1) := by decide +kernel
theorem dX3_leastTowards_33 : decode cX3_leastTowards 33 = .ok (.iand, 1) := by decide +kernel
theorem dX3_leastTowards_34 : decode cX3_leastTowards 34 = .ok (.ifCond .eq 16, 3) := by decide +kernel
theorem dX3_leastTowards_37 : decode cX3_leastTowards 37 = .ok (.aload_n 0, 1) := by decide +kernel
theorem dX3_leastTowards_38 : decode cX3_leastTowards 38 = .ok (.iload 4, 2) := by decide +kernel
theorem dX3_leastTowards_40 : decode cX3_leastTowards 40 = .ok (.iload_n 2, 1) := by decide +kernel
theorem dX3_leastTowards_41 : decode cX3_leastTowards 41 = .ok (.invokevirtual 108, 3) := by decide +kernel
theorem dX3_leastTowards_44 : decode cX3_leastTowards 44 = .ok (.ifCond .eq 6, 3) := by decide +kernel
theorem dX3_leastTowards_47 : decode cX3_leastTowards 47 = .ok (.iload 4, 2) := by decide +kernel
theorem dX3_leastTowards_49 : decode cX3_leastTowards 49 = .ok (.ireturn, 1) := by decide +kernel
theorem dX3_leastTowards_50 : decode cX3_leastTowards 50 = .ok (.iinc 4 1, 3) := by decide +kernel
theorem dX3_leastTowards_53 : decode cX3_leastTowards 53 = .ok (.goto (-32), 3) := by decide +kernel
theorem dX3_leastTowards_56 : decode cX3_leastTowards 56 = .ok (.iconst (-1), 1) := by decide +kernel
theorem dX3_leastTowards_57 : decode cX3_leastTowards 57 = .ok (.ireturn, 1) := by decide +kernel
theorem dX3_claimSome_0 : decode cX3_claimSome 0 = .ok (.aload_n 0, 1) := by decide +kernel
theorem dX3_claimSome_1 : decode cX3_claimSome 1 = .ok (.aload_n 1, 1) := by decide +kernel
theorem dX3_claimSome_2 : decode cX3_claimSome 2 = .ok (.lload_n 2, 1) := by decide +kernel
theorem dX3_claimSome_3 : decode cX3_claimSome 3 = .ok (.iload 4, 2) := by decide +kernel
theorem dX3_claimSome_5 : decode cX3_claimSome 5 = .ok (.invokevirtual 264, 3) := by decide +kernel
theorem dX3_claimSome_8 : decode cX3_claimSome 8 = .ok (.istore 5, 2) := by decide +kernel
theorem dX3_claimSome_10 : decode cX3_claimSome 10 = .ok (.iload 5, 2) := by decide +kernel
theorem dX3_claimSome_12 : decode cX3_claimSome 12 = .ok (.ifCond .lt 7, 3) := by decide +kernel
theorem dX3_claimSome_15 : decode cX3_claimSome 15 = .ok (.aload_n 1, 1) := by decide +kernel
theorem dX3_claimSome_16 : decode cX3_claimSome 16 = .ok (.ifnonnull 12, 3) := by decide +kernel
theorem dX3_claimSome_19 : decode cX3_claimSome 19 = .ok (.aload_n 0, 1) := by decide +kernel
theorem dX3_claimSome_20 : decode cX3_claimSome 20 = .ok (.iload 5, 2) := by decide +kernel
theorem dX3_claimSome_22 : decode cX3_claimSome 22 = .ok (.putfield 125, 3) := by decide +kernel
theorem dX3_claimSome_25 : decode cX3_claimSome 25 = .ok (.iload 5, 2) := by decide +kernel
theorem dX3_claimSome_27 : decode cX3_claimSome 27 = .ok (.ireturn, 1) := by decide +kernel
theorem dX3_claimSome_28 : decode cX3_claimSome 28 = .ok (.aload_n 1, 1) := by decide +kernel
theorem dX3_claimSome_29 : decode cX3_claimSome 29 = .ok (.getfield 162, 3) := by decide +kernel
theorem dX3_claimSome_32 : decode cX3_claimSome 32 = .ok (.istore 6, 2) := by decide +kernel
theorem dX3_claimSome_34 : decode cX3_claimSome 34 = .ok (.iconst 0, 1) := by decide +kernel
theorem dX3_claimSome_35 : decode cX3_claimSome 35 = .ok (.istore 7, 2) := by decide +kernel
theorem dX3_claimSome_37 : decode cX3_claimSome 37 = .ok (.iload 7, 2) := by decide +kernel
theorem dX3_claimSome_39 : decode cX3_claimSome 39 = .ok (.iload 4, 2) := by decide +kernel
theorem dX3_claimSome_41 : decode cX3_claimSome 41 = .ok (.if_icmp .ge 22, 3) := by decide +kernel
theorem dX3_claimSome_44 : decode cX3_claimSome 44 = .ok (.iload 7, 2) := by decide +kernel
theorem dX3_claimSome_46 : decode cX3_claimSome 46 = .ok (.bipush 64, 2) := by decide +kernel
theorem dX3_claimSome_48 : decode cX3_claimSome 48 = .ok (.if_icmp .ge 15, 3) := by decide +kernel
theorem dX3_claimSome_51 : decode cX3_claimSome 51 = .ok (.aload_n 1, 1) := by decide +kernel
theorem dX3_claimSome_52 : decode cX3_claimSome 52 = .ok (.lload_n 2, 1) := by decide +kernel
theorem dX3_claimSome_53 : decode cX3_claimSome 53 = .ok (.invokevirtual 267, 3) := by decide +kernel
theorem dX3_claimSome_56 : decode cX3_claimSome 56 = .ok (.pop, 1) := by decide +kernel
theorem dX3_claimSome_57 : decode cX3_claimSome 57 = .ok (.iinc 7 1, 3) := by decide +kernel
theorem dX3_claimSome_60 : decode cX3_claimSome 60 = .ok (.goto (-23), 3) := by decide +kernel
theorem dX3_claimSome_63 : decode cX3_claimSome 63 = .ok (.iload 6, 2) := by decide +kernel
theorem dX3_claimSome_65 : decode cX3_claimSome 65 = .ok (.ireturn, 1) := by decide +kernel
theorem dX3_refusalOfClaims_0 : decode cX3_refusalOfClaims 0 = .ok (.aload_n 1, 1) := by decide +kernel
theorem dX3_refusalOfClaims_1 : decode cX3_refusalOfClaims 1 = .ok (.ifnull 18, 3) := by decide +kernel
theorem dX3_refusalOfClaims_4 : decode cX3_refusalOfClaims 4 = .ok (.iload 4, 2) := by decide +kernel
theorem dX3_refusalOfClaims_6 : decode cX3_refusalOfClaims 6 = .ok (.iconst 1, 1) := by decide +kernel
theorem dX3_refusalOfClaims_7 : decode cX3_refusalOfClaims 7 = .ok (.if_icmp .lt 12, 3) := by decide +kernel
theorem dX3_refusalOfClaims_10 : decode cX3_refusalOfClaims 10 = .ok (.iload 4, 2) := by decide +kernel
theorem dX3_refusalOfClaims_12 : decode cX3_refusalOfClaims 12 = .ok (.aload_n 1, 1) := by decide +kernel
theorem dX3_refusalOfClaims_13 : decode cX3_refusalOfClaims 13 = .ok (.getfield 169, 3) := by decide +kernel
theorem dX3_refusalOfClaims_16 : decode cX3_refusalOfClaims 16 = .ok (.if_icmp .le 5, 3) := by decide +kernel
theorem dX3_refusalOfClaims_19 : decode cX3_refusalOfClaims 19 = .ok (.iconst (-1), 1) := by decide +kernel
theorem dX3_refusalOfClaims_20 : decode cX3_refusalOfClaims 20 = .ok (.ireturn, 1) := by decide +kernel
theorem dX3_refusalOfClaims_21 : decode cX3_refusalOfClaims 21 = .ok (.aload_n 0, 1) := by decide +kernel
theorem dX3_refusalOfClaims_22 : decode cX3_refusalOfClaims 22 = .ok (.getfield 41, 3) := by decide +kernel
theorem dX3_refusalOfClaims_25 : decode cX3_refusalOfClaims 25 = .ok (.ifCond .ne 6, 3) := by decide +kernel
theorem dX3_refusalOfClaims_28 : decode cX3_refusalOfClaims 28 = .ok (.bipush (-2), 2) := by decide +kernel
theorem dX3_refusalOfClaims_30 : decode cX3_refusalOfClaims 30 = .ok (.ireturn, 1) := by decide +kernel
theorem dX3_refusalOfClaims_31 : decode cX3_refusalOfClaims 31 = .ok (.aload_n 1, 1) := by decide +kernel
theorem dX3_refusalOfClaims_32 : decode cX3_refusalOfClaims 32 = .ok (.getfield 128, 3) := by decide +kernel
theorem dX3_refusalOfClaims_35 : decode cX3_refusalOfClaims 35 = .ok (.ifCond .eq 6, 3) := by decide +kernel
theorem dX3_refusalOfClaims_38 : decode cX3_refusalOfClaims 38 = .ok (.bipush (-7), 2) := by decide +kernel
theorem dX3_refusalOfClaims_40 : decode cX3_refusalOfClaims 40 = .ok (.ireturn, 1) := by decide +kernel
theorem dX3_refusalOfClaims_41 : decode cX3_refusalOfClaims 41 = .ok (.aload_n 1, 1) := by decide +kernel
theorem dX3_refusalOfClaims_42 : decode cX3_refusalOfClaims 42 = .ok (.getfield 155, 3) := by decide +kernel
theorem dX3_refusalOfClaims_45 : decode cX3_refusalOfClaims 45 = .ok (.ifCond .eq 6, 3) := by decide +kernel
theorem dX3_refusalOfClaims_48 : decode cX3_refusalOfClaims 48 = .ok (.bipush (-8), 2) := by decide +kernel
theorem dX3_refusalOfClaims_50 : decode cX3_refusalOfClaims 50 = .ok (.ireturn, 1) := by decide +kernel
theorem dX3_refusalOfClaims_51 : decode cX3_refusalOfClaims 51 = .ok (.aload_n 1, 1) := by decide +kernel
theorem dX3_refusalOfClaims_52 : decode cX3_refusalOfClaims 52 = .ok (.getfield 162, 3) := by decide +kernel
theorem dX3_refusalOfClaims_55 : decode cX3_refusalOfClaims 55 = .ok (.ifCond .le 15, 3) := by decide +kernel
theorem dX3_refusalOfClaims_58 : decode cX3_refusalOfClaims 58 = .ok (.lload_n 2, 1) := by decide +kernel
theorem dX3_refusalOfClaims_59 : decode cX3_refusalOfClaims 59 = .ok (.aload_n 1, 1) := by decide +kernel
theorem dX3_refusalOfClaims_60 : decode cX3_refusalOfClaims 60 = .ok (.getfield 183, 3) := by decide +kernel
theorem dX3_refusalOfClaims_63 : decode cX3_refusalOfClaims 63 = .ok (.lcmp, 1) := by decide +kernel
theorem dX3_refusalOfClaims_64 : decode cX3_refusalOfClaims 64 = .ok (.ifCond .ge 6, 3) := by decide +kernel
theorem dX3_refusalOfClaims_67 : decode cX3_refusalOfClaims 67 = .ok (.bipush (-9), 2) := by decide +kernel
theorem dX3_refusalOfClaims_69 : decode cX3_refusalOfClaims 69 = .ok (.ireturn, 1) := by decide +kernel
theorem dX3_refusalOfClaims_70 : decode cX3_refusalOfClaims 70 = .ok (.iconst 0, 1) := by decide +kernel
theorem dX3_refusalOfClaims_71 : decode cX3_refusalOfClaims 71 = .ok (.istore 5, 2) := by decide +kernel
theorem dX3_refusalOfClaims_73 : decode cX3_refusalOfClaims 73 = .ok (.iload 5, 2) := by decide +kernel
theorem dX3_refusalOfClaims_75 : decode cX3_refusalOfClaims 75 = .ok (.iload 4, 2) := by decide +kernel
theorem dX3_refusalOfClaims_77 : decode cX3_refusalOfClaims 77 = .ok (.if_icmp .ge 55, 3) := by decide +kernel
theorem dX3_refusalOfClaims_80 : decode cX3_refusalOfClaims 80 = .ok (.iload 5, 2) := by decide +kernel
theorem dX3_refusalOfClaims_82 : decode cX3_refusalOfClaims 82 = .ok (.bipush 64, 2) := by decide +kernel
theorem dX3_refusalOfClaims_84 : decode cX3_refusalOfClaims 84 = .ok (.if_icmp .ge 48, 3) := by decide +kernel
theorem dX3_refusalOfClaims_87 : decode cX3_refusalOfClaims 87 = .ok (.aload_n 0, 1) := by decide +kernel
theorem dX3_refusalOfClaims_88 : decode cX3_refusalOfClaims 88 = .ok (.aload_n 1, 1) := by decide +kernel
theorem dX3_refusalOfClaims_89 : decode cX3_refusalOfClaims 89 = .ok (.aload_n 1, 1) := by decide +kernel
theorem dX3_refusalOfClaims_90 : decode cX3_refusalOfClaims 90 = .ok (.getfield 162, 3) := by decide +kernel
theorem dX3_refusalOfClaims_93 : decode cX3_refusalOfClaims 93 = .ok (.iload 5, 2) := by decide +kernel
theorem dX3_refusalOfClaims_95 : decode cX3_refusalOfClaims 95 = .ok (.iadd, 1) := by decide +kernel
theorem dX3_refusalOfClaims_96 : decode cX3_refusalOfClaims 96 = .ok (.invokevirtual 179, 3) := by decide +kernel
theorem dX3_refusalOfClaims_99 : decode cX3_refusalOfClaims 99 = .ok (.ifCond .eq 27, 3) := by decide +kernel
theorem dX3_refusalOfClaims_102 : decode cX3_refusalOfClaims 102 = .ok (.aload_n 0, 1) := by decide +kernel
theorem dX3_refusalOfClaims_103 : decode cX3_refusalOfClaims 103 = .ok (.aload_n 0, 1) := by decide +kernel
theorem dX3_refusalOfClaims_104 : decode cX3_refusalOfClaims 104 = .ok (.aload_n 1, 1) := by decide +kernel
theorem dX3_refusalOfClaims_105 : decode cX3_refusalOfClaims 105 = .ok (.aload_n 1, 1) := by decide +kernel
theorem dX3_refusalOfClaims_106 : decode cX3_refusalOfClaims 106 = .ok (.getfield 162, 3) := by decide +kernel
theorem dX3_refusalOfClaims_109 : decode cX3_refusalOfClaims 109 = .ok (.iload 5, 2) := by decide +kernel
theorem dX3_refusalOfClaims_111 : decode cX3_refusalOfClaims 111 = .ok (.iadd, 1) := by decide +kernel
theorem dX3_refusalOfClaims_112 : decode cX3_refusalOfClaims 112 = .ok (.aload_n 1, 1) := by decide +kernel
theorem dX3_refusalOfClaims_113 : decode cX3_refusalOfClaims 113 = .ok (.getfield 169, 3) := by decide +kernel
theorem dX3_refusalOfClaims_116 : decode cX3_refusalOfClaims 116 = .ok (.isub, 1) := by decide +kernel
theorem dX3_refusalOfClaims_117 : decode cX3_refusalOfClaims 117 = .ok (.invokevirtual 165, 3) := by decide +kernel
theorem dX3_refusalOfClaims_120 : decode cX3_refusalOfClaims 120 = .ok (.putfield 28, 3) := by decide +kernel
theorem dX3_refusalOfClaims_123 : decode cX3_refusalOfClaims 123 = .ok (.bipush (-10), 2) := by decide +kernel
theorem dX3_refusalOfClaims_125 : decode cX3_refusalOfClaims 125 = .ok (.ireturn, 1) := by decide +kernel
theorem dX3_refusalOfClaims_126 : decode cX3_refusalOfClaims 126 = .ok (.iinc 5 1, 3) := by decide +kernel
theorem dX3_refusalOfClaims_129 : decode cX3_refusalOfClaims 129 = .ok (.goto (-56), 3) := by decide +kernel
theorem dX3_refusalOfClaims_132 : decode cX3_refusalOfClaims 132 = .ok (.iconst 0, 1) := by decide +kernel
theorem dX3_refusalOfClaims_133 : decode cX3_refusalOfClaims 133 = .ok (.ireturn, 1) := by decide +kernel
theorem dX3_isHeldUp_0 : decode cX3_isHeldUp 0 = .ok (.iload_n 2, 1) := by decide +kernel
theorem dX3_isHeldUp_1 : decode cX3_isHeldUp 1 = .ok (.aload_n 1, 1) := by decide +kernel
theorem dX3_isHeldUp_2 : decode cX3_isHeldUp 2 = .ok (.getfield 169, 3) := by decide +kernel
theorem dX3_isHeldUp_5 : decode cX3_isHeldUp 5 = .ok (.isub, 1) := by decide +kernel
theorem dX3_isHeldUp_6 : decode cX3_isHeldUp 6 = .ok (.istore_n 3, 1) := by decide +kernel
theorem dX3_isHeldUp_7 : decode cX3_isHeldUp 7 = .ok (.iload_n 3, 1) := by decide +kernel
theorem dX3_isHeldUp_8 : decode cX3_isHeldUp 8 = .ok (.ifCond .lt 24, 3) := by decide +kernel
theorem dX3_isHeldUp_11 : decode cX3_isHeldUp 11 = .ok (.aload_n 1, 1) := by decide +kernel
theorem dX3_isHeldUp_12 : decode cX3_isHeldUp 12 = .ok (.iload_n 3, 1) := by decide +kernel
theorem dX3_isHeldUp_13 : decode cX3_isHeldUp 13 = .ok (.invokevirtual 131, 3) := by decide +kernel
theorem dX3_isHeldUp_16 : decode cX3_isHeldUp 16 = .ok (.ifnonnull 12, 3) := by decide +kernel
theorem dX3_isHeldUp_19 : decode cX3_isHeldUp 19 = .ok (.aload_n 0, 1) := by decide +kernel
theorem dX3_isHeldUp_20 : decode cX3_isHeldUp 20 = .ok (.aload_n 1, 1) := by decide +kernel
theorem dX3_isHeldUp_21 : decode cX3_isHeldUp 21 = .ok (.iload_n 3, 1) := by decide +kernel
theorem dX3_isHeldUp_22 : decode cX3_isHeldUp 22 = .ok (.invokevirtual 165, 3) := by decide +kernel
theorem dX3_isHeldUp_25 : decode cX3_isHeldUp 25 = .ok (.ifCond .lt 7, 3) := by decide +kernel
theorem dX3_isHeldUp_28 : decode cX3_isHeldUp 28 = .ok (.iconst 1, 1) := by decide +kernel
theorem dX3_isHeldUp_29 : decode cX3_isHeldUp 29 = .ok (.goto 4, 3) := by decide +kernel
theorem dX3_isHeldUp_32 : decode cX3_isHeldUp 32 = .ok (.iconst 0, 1) := by decide +kernel
theorem dX3_isHeldUp_33 : decode cX3_isHeldUp 33 = .ok (.ireturn, 1) := by decide +kernel
theorem dX3_holderUpTo_0 : decode cX3_holderUpTo 0 = .ok (.iconst 0, 1) := by decide +kernel
theorem dX3_holderUpTo_1 : decode cX3_holderUpTo 1 = .ok (.istore_n 3, 1) := by decide +kernel
theorem dX3_holderUpTo_2 : decode cX3_holderUpTo 2 = .ok (.iload_n 3, 1) := by decide +kernel
theorem dX3_holderUpTo_3 : decode cX3_holderUpTo 3 = .ok (.bipush 16, 2) := by decide +kernel
theorem dX3_holderUpTo_5 : decode cX3_holderUpTo 5 = .ok (.if_icmp .ge 49, 3) := by decide +kernel
theorem dX3_holderUpTo_8 : decode cX3_holderUpTo 8 = .ok (.aload_n 0, 1) := by decide +kernel
theorem dX3_holderUpTo_9 : decode cX3_holderUpTo 9 = .ok (.iload_n 3, 1) := by decide +kernel
theorem dX3_holderUpTo_10 : decode cX3_holderUpTo 10 = .ok (.invokevirtual 73, 3) := by decide +kernel
theorem dX3_holderUpTo_13 : decode cX3_holderUpTo 13 = .ok (.astore 4, 2) := by decide +kernel
theorem dX3_holderUpTo_15 : decode cX3_holderUpTo 15 = .ok (.aload 4, 2) := by decide +kernel
theorem dX3_holderUpTo_17 : decode cX3_holderUpTo 17 = .ok (.ifnonnull 7, 3) := by decide +kernel
theorem dX3_holderUpTo_20 : decode cX3_holderUpTo 20 = .ok (.iconst (-1), 1) := by decide +kernel
theorem dX3_holderUpTo_21 : decode cX3_holderUpTo 21 = .ok (.goto 12, 3) := by decide +kernel
theorem dX3_holderUpTo_24 : decode cX3_holderUpTo 24 = .ok (.aload 4, 2) := by decide +kernel
theorem dX3_holderUpTo_26 : decode cX3_holderUpTo 26 = .ok (.aload_n 1, 1) := by decide +kernel
theorem dX3_holderUpTo_27 : decode cX3_holderUpTo 27 = .ok (.getfield 98, 3) := by decide +kernel
theorem dX3_holderUpTo_30 : decode cX3_holderUpTo 30 = .ok (.invokevirtual 271, 3) := by decide +kernel
theorem dX3_holderUpTo_33 : decode cX3_holderUpTo 33 = .ok (.istore 5, 2) := by decide +kernel
theorem dX3_holderUpTo_35 : decode cX3_holderUpTo 35 = .ok (.iload 5, 2) := by decide +kernel
theorem dX3_holderUpTo_37 : decode cX3_holderUpTo 37 = .ok (.ifCond .lt 11, 3) := by decide +kernel
theorem dX3_holderUpTo_40 : decode cX3_holderUpTo 40 = .ok (.iload 5, 2) := by decide +kernel
theorem dX3_holderUpTo_42 : decode cX3_holderUpTo 42 = .ok (.iload_n 2, 1) := by decide +kernel
theorem dX3_holderUpTo_43 : decode cX3_holderUpTo 43 = .ok (.if_icmp .gt 5, 3) := by decide +kernel
theorem dX3_holderUpTo_46 : decode cX3_holderUpTo 46 = .ok (.iload_n 3, 1) := by decide +kernel
theorem dX3_holderUpTo_47 : decode cX3_holderUpTo 47 = .ok (.ireturn, 1) := by decide +kernel
theorem dX3_holderUpTo_48 : decode cX3_holderUpTo 48 = .ok (.iinc 3 1, 3) := by decide +kernel
theorem dX3_holderUpTo_51 : decode cX3_holderUpTo 51 = .ok (.goto (-49), 3) := by decide +kernel
theorem dX3_holderUpTo_54 : decode cX3_holderUpTo 54 = .ok (.iconst (-1), 1) := by decide +kernel
theorem dX3_holderUpTo_55 : decode cX3_holderUpTo 55 = .ok (.ireturn, 1) := by decide +kernel
theorem dX3_leastHolderPlace_0 : decode cX3_leastHolderPlace 0 = .ok (.iconst (-1), 1) := by decide +kernel
theorem dX3_leastHolderPlace_1 : decode cX3_leastHolderPlace 1 = .ok (.istore_n 2, 1) := by decide +kernel
theorem dX3_leastHolderPlace_2 : decode cX3_leastHolderPlace 2 = .ok (.iconst 0, 1) := by decide +kernel
theorem dX3_leastHolderPlace_3 : decode cX3_leastHolderPlace 3 = .ok (.istore_n 3, 1) := by decide +kernel
theorem dX3_leastHolderPlace_4 : decode cX3_leastHolderPlace 4 = .ok (.iload_n 3, 1) := by decide +kernel
theorem dX3_leastHolderPlace_5 : decode cX3_leastHolderPlace 5 = .ok (.bipush 16, 2) := by decide +kernel
theorem dX3_leastHolderPlace_7 : decode cX3_leastHolderPlace 7 = .ok (.if_icmp .ge 57, 3) := by decide +kernel
theorem dX3_leastHolderPlace_10 : decode cX3_leastHolderPlace 10 = .ok (.aload_n 0, 1) := by decide +kernel
theorem dX3_leastHolderPlace_11 : decode cX3_leastHolderPlace 11 = .ok (.iload_n 3, 1) := by decide +kernel
theorem dX3_leastHolderPlace_12 : decode cX3_leastHolderPlace 12 = .ok (.invokevirtual 73, 3) := by decide +kernel
theorem dX3_leastHolderPlace_15 : decode cX3_leastHolderPlace 15 = .ok (.astore 4, 2) := by decide +kernel
theorem dX3_leastHolderPlace_17 : decode cX3_leastHolderPlace 17 = .ok (.aload 4, 2) := by decide +kernel
theorem dX3_leastHolderPlace_19 : decode cX3_leastHolderPlace 19 = .ok (.ifnonnull 7, 3) := by decide +kernel
theorem dX3_leastHolderPlace_22 : decode cX3_leastHolderPlace 22 = .ok (.iconst (-1), 1) := by decide +kernel
theorem dX3_leastHolderPlace_23 : decode cX3_leastHolderPlace 23 = .ok (.goto 12, 3) := by decide +kernel
theorem dX3_leastHolderPlace_26 : decode cX3_leastHolderPlace 26 = .ok (.aload 4, 2) := by decide +kernel
theorem dX3_leastHolderPlace_28 : decode cX3_leastHolderPlace 28 = .ok (.aload_n 1, 1) := by decide +kernel
theorem dX3_leastHolderPlace_29 : decode cX3_leastHolderPlace 29 = .ok (.getfield 98, 3) := by decide +kernel
theorem dX3_leastHolderPlace_32 : decode cX3_leastHolderPlace 32 = .ok (.invokevirtual 271, 3) := by decide +kernel
theorem dX3_leastHolderPlace_35 : decode cX3_leastHolderPlace 35 = .ok (.istore 5, 2) := by decide +kernel
theorem dX3_leastHolderPlace_37 : decode cX3_leastHolderPlace 37 = .ok (.iload 5, 2) := by decide +kernel
theorem dX3_leastHolderPlace_39 : decode cX3_leastHolderPlace 39 = .ok (.ifCond .lt 19, 3) := by decide +kernel
theorem dX3_leastHolderPlace_42 : decode cX3_leastHolderPlace 42 = .ok (.iload_n 2, 1) := by decide +kernel
theorem dX3_leastHolderPlace_43 : decode cX3_leastHolderPlace 43 = .ok (.ifCond .ge 8, 3) := by decide +kernel
theorem dX3_leastHolderPlace_46 : decode cX3_leastHolderPlace 46 = .ok (.iload 5, 2) := by decide +kernel
theorem dX3_leastHolderPlace_48 : decode cX3_leastHolderPlace 48 = .ok (.goto 9, 3) := by decide +kernel
theorem dX3_leastHolderPlace_51 : decode cX3_leastHolderPlace 51 = .ok (.iload_n 2, 1) := by decide +kernel
theorem dX3_leastHolderPlace_52 : decode cX3_leastHolderPlace 52 = .ok (.iload 5, 2) := by decide +kernel
theorem dX3_leastHolderPlace_54 : decode cX3_leastHolderPlace 54 = .ok (.invokestatic 274, 3) := by decide +kernel
theorem dX3_leastHolderPlace_57 : decode cX3_leastHolderPlace 57 = .ok (.istore_n 2, 1) := by decide +kernel
theorem dX3_leastHolderPlace_58 : decode cX3_leastHolderPlace 58 = .ok (.iinc 3 1, 3) := by decide +kernel
theorem dX3_leastHolderPlace_61 : decode cX3_leastHolderPlace 61 = .ok (.goto (-57), 3) := by decide +kernel
theorem dX3_leastHolderPlace_64 : decode cX3_leastHolderPlace 64 = .ok (.iload_n 2, 1) := by decide +kernel
theorem dX3_leastHolderPlace_65 : decode cX3_leastHolderPlace 65 = .ok (.ireturn, 1) := by decide +kernel
theorem dX3_countHolders_0 : decode cX3_countHolders 0 = .ok (.iconst 0, 1) := by decide +kernel
theorem dX3_countHolders_1 : decode cX3_countHolders 1 = .ok (.istore_n 2, 1) := by decide +kernel
theorem dX3_countHolders_2 : decode cX3_countHolders 2 = .ok (.iconst 0, 1) := by decide +kernel
theorem dX3_countHolders_3 : decode cX3_countHolders 3 = .ok (.istore_n 3, 1) := by decide +kernel
theorem dX3_countHolders_4 : decode cX3_countHolders 4 = .ok (.iload_n 3, 1) := by decide +kernel
theorem dX3_countHolders_5 : decode cX3_countHolders 5 = .ok (.bipush 16, 2) := by decide +kernel
theorem dX3_countHolders_7 : decode cX3_countHolders 7 = .ok (.if_icmp .ge 36, 3) := by decide +kernel
theorem dX3_countHolders_10 : decode cX3_countHolders 10 = .ok (.aload_n 0, 1) := by decide +kernel
theorem dX3_countHolders_11 : decode cX3_countHolders 11 = .ok (.iload_n 3, 1) := by decide +kernel
theorem dX3_countHolders_12 : decode cX3_countHolders 12 = .ok (.invokevirtual 73, 3) := by decide +kernel
theorem dX3_countHolders_15 : decode cX3_countHolders 15 = .ok (.astore 4, 2) := by decide +kernel
theorem dX3_countHolders_17 : decode cX3_countHolders 17 = .ok (.aload 4, 2) := by decide +kernel
theorem dX3_countHolders_19 : decode cX3_countHolders 19 = .ok (.ifnull 18, 3) := by decide +kernel
theorem dX3_countHolders_22 : decode cX3_countHolders 22 = .ok (.aload 4, 2) := by decide +kernel
theorem dX3_countHolders_24 : decode cX3_countHolders 24 = .ok (.aload_n 1, 1) := by decide +kernel
theorem dX3_countHolders_25 : decode cX3_countHolders 25 = .ok (.getfield 98, 3) := by decide +kernel
theorem dX3_countHolders_28 : decode cX3_countHolders 28 = .ok (.invokevirtual 271, 3) := by decide +kernel
theorem dX3_countHolders_31 : decode cX3_countHolders 31 = .ok (.ifCond .lt 6, 3) := by decide +kernel
theorem dX3_countHolders_34 : decode cX3_countHolders 34 = .ok (.iinc 2 1, 3) := by decide +kernel
theorem dX3_countHolders_37 : decode cX3_countHolders 37 = .ok (.iinc 3 1, 3) := by decide +kernel
theorem dX3_countHolders_40 : decode cX3_countHolders 40 = .ok (.goto (-36), 3) := by decide +kernel
theorem dX3_countHolders_43 : decode cX3_countHolders 43 = .ok (.iload_n 2, 1) := by decide +kernel
theorem dX3_countHolders_44 : decode cX3_countHolders 44 = .ok (.ireturn, 1) := by decide +kernel
theorem dX3_publishSlot_0 : decode cX3_publishSlot 0 = .ok (.aload_n 1, 1) := by decide +kernel
theorem dX3_publishSlot_1 : decode cX3_publishSlot 1 = .ok (.iload_n 2, 1) := by decide +kernel
theorem dX3_publishSlot_2 : decode cX3_publishSlot 2 = .ok (.putfield 200, 3) := by decide +kernel
theorem dX3_publishSlot_5 : decode cX3_publishSlot 5 = .ok (.aload_n 1, 1) := by decide +kernel
theorem dX3_publishSlot_6 : decode cX3_publishSlot 6 = .ok (.iload_n 3, 1) := by decide +kernel
theorem dX3_publishSlot_7 : decode cX3_publishSlot 7 = .ok (.putfield 203, 3) := by decide +kernel
theorem dX3_publishSlot_10 : decode cX3_publishSlot 10 = .ok (.aload_n 1, 1) := by decide +kernel
theorem dX3_publishSlot_11 : decode cX3_publishSlot 11 = .ok (.iconst 0, 1) := by decide +kernel
theorem dX3_publishSlot_12 : decode cX3_publishSlot 12 = .ok (.putfield 279, 3) := by decide +kernel
theorem dX3_publishSlot_15 : decode cX3_publishSlot 15 = .ok (.iconst 0, 1) := by decide +kernel
theorem dX3_publishSlot_16 : decode cX3_publishSlot 16 = .ok (.istore 4, 2) := by decide +kernel
theorem dX3_publishSlot_18 : decode cX3_publishSlot 18 = .ok (.iload 4, 2) := by decide +kernel
theorem dX3_publishSlot_20 : decode cX3_publishSlot 20 = .ok (.bipush 16, 2) := by decide +kernel
theorem dX3_publishSlot_22 : decode cX3_publishSlot 22 = .ok (.if_icmp .ge 52, 3) := by decide +kernel
theorem dX3_publishSlot_25 : decode cX3_publishSlot 25 = .ok (.aload_n 0, 1) := by decide +kernel
theorem dX3_publishSlot_26 : decode cX3_publishSlot 26 = .ok (.iload 4, 2) := by decide +kernel
theorem dX3_publishSlot_28 : decode cX3_publishSlot 28 = .ok (.invokevirtual 73, 3) := by decide +kernel
theorem dX3_publishSlot_31 : decode cX3_publishSlot 31 = .ok (.astore 5, 2) := by decide +kernel
theorem dX3_publishSlot_33 : decode cX3_publishSlot 33 = .ok (.aload 5, 2) := by decide +kernel
theorem dX3_publishSlot_35 : decode cX3_publishSlot 35 = .ok (.ifnull 33, 3) := by decide +kernel
theorem dX3_publishSlot_38 : decode cX3_publishSlot 38 = .ok (.aload 5, 2) := by decide +kernel
theorem dX3_publishSlot_40 : decode cX3_publishSlot 40 = .ok (.getfield 77, 3) := by decide +kernel
theorem dX3_publishSlot_43 : decode cX3_publishSlot 43 = .ok (.iconst 4, 1) := by decide +kernel
theorem dX3_publishSlot_44 : decode cX3_publishSlot 44 = .ok (.if_icmp .ne 24, 3) := by decide +kernel
theorem dX3_publishSlot_47 : decode cX3_publishSlot 47 = .ok (.aload 5, 2) := by decide +kernel
theorem dX3_publishSlot_49 : decode cX3_publishSlot 49 = .ok (.getfield 94, 3) := by decide +kernel
theorem dX3_publishSlot_52 : decode cX3_publishSlot 52 = .ok (.getfield 98, 3) := by decide +kernel
theorem dX3_publishSlot_55 : decode cX3_publishSlot 55 = .ok (.aload_n 1, 1) := by decide +kernel
theorem dX3_publishSlot_56 : decode cX3_publishSlot 56 = .ok (.getfield 194, 3) := by decide +kernel
theorem dX3_publishSlot_59 : decode cX3_publishSlot 59 = .ok (.if_icmp .ne 9, 3) := by decide +kernel
theorem dX3_publishSlot_62 : decode cX3_publishSlot 62 = .ok (.aload 5, 2) := by decide +kernel
theorem dX3_publishSlot_64 : decode cX3_publishSlot 64 = .ok (.aload_n 1, 1) := by decide +kernel
theorem dX3_publishSlot_65 : decode cX3_publishSlot 65 = .ok (.invokevirtual 282, 3) := by decide +kernel
theorem dX3_publishSlot_68 : decode cX3_publishSlot 68 = .ok (.iinc 4 1, 3) := by decide +kernel
theorem dX3_publishSlot_71 : decode cX3_publishSlot 71 = .ok (.goto (-53), 3) := by decide +kernel
theorem dX3_publishSlot_74 : decode cX3_publishSlot 74 = .ok (.return_, 1) := by decide +kernel
theorem dX3_readOnce_0 : decode cX3_readOnce 0 = .ok (.aload_n 1, 1) := by decide +kernel
theorem dX3_readOnce_1 : decode cX3_readOnce 1 = .ok (.getfield 77, 3) := by decide +kernel
theorem dX3_readOnce_4 : decode cX3_readOnce 4 = .ok (.iconst 3, 1) := by decide +kernel
theorem dX3_readOnce_5 : decode cX3_readOnce 5 = .ok (.if_icmp .ne 7, 3) := by decide +kernel
theorem dX3_readOnce_8 : decode cX3_readOnce 8 = .ok (.aload_n 1, 1) := by decide +kernel
theorem dX3_readOnce_9 : decode cX3_readOnce 9 = .ok (.invokevirtual 286, 3) := by decide +kernel
theorem dX3_readOnce_12 : decode cX3_readOnce 12 = .ok (.aload_n 0, 1) := by decide +kernel
theorem dX3_readOnce_13 : decode cX3_readOnce 13 = .ok (.aload_n 1, 1) := by decide +kernel
theorem dX3_readOnce_14 : decode cX3_readOnce 14 = .ok (.invokevirtual 231, 3) := by decide +kernel
theorem dX3_readOnce_17 : decode cX3_readOnce 17 = .ok (.istore_n 2, 1) := by decide +kernel
theorem dX3_readOnce_18 : decode cX3_readOnce 18 = .ok (.iload_n 2, 1) := by decide +kernel
theorem dX3_readOnce_19 : decode cX3_readOnce 19 = .ok (.iconst 1, 1) := by decide +kernel
theorem dX3_readOnce_20 : decode cX3_readOnce 20 = .ok (.if_icmp .ne 9, 3) := by decide +kernel
theorem dX3_readOnce_23 : decode cX3_readOnce 23 = .ok (.aload_n 0, 1) := by decide +kernel
theorem dX3_readOnce_24 : decode cX3_readOnce 24 = .ok (.iconst 1, 1) := by decide +kernel
theorem dX3_readOnce_25 : decode cX3_readOnce 25 = .ok (.invokevirtual 32, 3) := by decide +kernel
theorem dX3_readOnce_28 : decode cX3_readOnce 28 = .ok (.ireturn, 1) := by decide +kernel
theorem dX3_readOnce_29 : decode cX3_readOnce 29 = .ok (.iload_n 2, 1) := by decide +kernel
theorem dX3_readOnce_30 : decode cX3_readOnce 30 = .ok (.ifCond .eq 5, 3) := by decide +kernel
theorem dX3_readOnce_33 : decode cX3_readOnce 33 = .ok (.iconst 0, 1) := by decide +kernel
theorem dX3_readOnce_34 : decode cX3_readOnce 34 = .ok (.ireturn, 1) := by decide +kernel
theorem dX3_readOnce_35 : decode cX3_readOnce 35 = .ok (.aload_n 0, 1) := by decide +kernel
theorem dX3_readOnce_36 : decode cX3_readOnce 36 = .ok (.aload_n 1, 1) := by decide +kernel
theorem dX3_readOnce_37 : decode cX3_readOnce 37 = .ok (.invokevirtual 289, 3) := by decide +kernel
theorem dX3_readOnce_40 : decode cX3_readOnce 40 = .ok (.ifCond .eq 7, 3) := by decide +kernel
theorem dX3_readOnce_43 : decode cX3_readOnce 43 = .ok (.iconst 1, 1) := by decide +kernel
theorem dX3_readOnce_44 : decode cX3_readOnce 44 = .ok (.goto 4, 3) := by decide +kernel
theorem dX3_readOnce_47 : decode cX3_readOnce 47 = .ok (.iconst 0, 1) := by decide +kernel
theorem dX3_readOnce_48 : decode cX3_readOnce 48 = .ok (.ireturn, 1) := by decide +kernel
theorem dX3_takeNext_0 : decode cX3_takeNext 0 = .ok (.aload_n 1, 1) := by decide +kernel
theorem dX3_takeNext_1 : decode cX3_takeNext 1 = .ok (.getfield 77, 3) := by decide +kernel
theorem dX3_takeNext_4 : decode cX3_takeNext 4 = .ok (.iconst 4, 1) := by decide +kernel
theorem dX3_takeNext_5 : decode cX3_takeNext 5 = .ok (.if_icmp .ne 8, 3) := by decide +kernel
theorem dX3_takeNext_8 : decode cX3_takeNext 8 = .ok (.aload_n 1, 1) := by decide +kernel
theorem dX3_takeNext_9 : decode cX3_takeNext 9 = .ok (.invokevirtual 293, 3) := by decide +kernel
theorem dX3_takeNext_12 : decode cX3_takeNext 12 = .ok (.ireturn, 1) := by decide +kernel
theorem dX3_takeNext_13 : decode cX3_takeNext 13 = .ok (.aload_n 1, 1) := by decide +kernel
theorem dX3_takeNext_14 : decode cX3_takeNext 14 = .ok (.getfield 77, 3) := by decide +kernel
theorem dX3_takeNext_17 : decode cX3_takeNext 17 = .ok (.iconst 1, 1) := by decide +kernel
theorem dX3_takeNext_18 : decode cX3_takeNext 18 = .ok (.if_icmp .ne 22, 3) := by decide +kernel
theorem dX3_takeNext_21 : decode cX3_takeNext 21 = .ok (.aload_n 1, 1) := by decide +kernel
theorem dX3_takeNext_22 : decode cX3_takeNext 22 = .ok (.aload_n 1, 1) := by decide +kernel
theorem dX3_takeNext_23 : decode cX3_takeNext 23 = .ok (.getfield 94, 3) := by decide +kernel
theorem dX3_takeNext_26 : decode cX3_takeNext 26 = .ok (.aload_n 1, 1) := by decide +kernel
theorem dX3_takeNext_27 : decode cX3_takeNext 27 = .ok (.getfield 94, 3) := by decide +kernel
theorem dX3_takeNext_30 : decode cX3_takeNext 30 = .ok (.invokevirtual 296, 3) := by decide +kernel
theorem dX3_takeNext_33 : decode cX3_takeNext 33 = .ok (.invokevirtual 299, 3) := by decide +kernel
theorem dX3_takeNext_36 : decode cX3_takeNext 36 = .ok (.invokevirtual 302, 3) := by decide +kernel
theorem dX3_takeNext_39 : decode cX3_takeNext 39 = .ok (.ireturn, 1) := by decide +kernel
theorem dX3_takeNext_40 : decode cX3_takeNext 40 = .ok (.aload_n 1, 1) := by decide +kernel
theorem dX3_takeNext_41 : decode cX3_takeNext 41 = .ok (.getfield 77, 3) := by decide +kernel
theorem dX3_takeNext_44 : decode cX3_takeNext 44 = .ok (.iconst 5, 1) := by decide +kernel
theorem dX3_takeNext_45 : decode cX3_takeNext 45 = .ok (.if_icmp .ne 14, 3) := by decide +kernel
theorem dX3_takeNext_48 : decode cX3_takeNext 48 = .ok (.aload_n 0, 1) := by decide +kernel
theorem dX3_takeNext_49 : decode cX3_takeNext 49 = .ok (.aload_n 1, 1) := by decide +kernel
theorem dX3_takeNext_50 : decode cX3_takeNext 50 = .ok (.aload_n 0, 1) := by decide +kernel
theorem dX3_takeNext_51 : decode cX3_takeNext 51 = .ok (.aload_n 1, 1) := by decide +kernel
theorem dX3_takeNext_52 : decode cX3_takeNext 52 = .ok (.invokevirtual 306, 3) := by decide +kernel
theorem dX3_takeNext_55 : decode cX3_takeNext 55 = .ok (.invokevirtual 310, 3) := by decide +kernel
theorem dX3_takeNext_58 : decode cX3_takeNext 58 = .ok (.ireturn, 1) := by decide +kernel
theorem dX3_takeNext_59 : decode cX3_takeNext 59 = .ok (.aload_n 0, 1) := by decide +kernel
theorem dX3_takeNext_60 : decode cX3_takeNext 60 = .ok (.aload_n 1, 1) := by decide +kernel
theorem dX3_takeNext_61 : decode cX3_takeNext 61 = .ok (.aload_n 1, 1) := by decide +kernel
theorem dX3_takeNext_62 : decode cX3_takeNext 62 = .ok (.getfield 94, 3) := by decide +kernel
theorem dX3_takeNext_65 : decode cX3_takeNext 65 = .ok (.invokevirtual 310, 3) := by decide +kernel
theorem dX3_takeNext_68 : decode cX3_takeNext 68 = .ok (.istore_n 2, 1) := by decide +kernel
theorem dX3_takeNext_69 : decode cX3_takeNext 69 = .ok (.iload_n 2, 1) := by decide +kernel
theorem dX3_takeNext_70 : decode cX3_takeNext 70 = .ok (.ifCond .eq 22, 3) := by decide +kernel
theorem dX3_takeNext_73 : decode cX3_takeNext 73 = .ok (.aload_n 1, 1) := by decide +kernel
theorem dX3_takeNext_74 : decode cX3_takeNext 74 = .ok (.getfield 228, 3) := by decide +kernel
theorem dX3_takeNext_77 : decode cX3_takeNext 77 = .ok (.ifnull 15, 3) := by decide +kernel
theorem dX3_takeNext_80 : decode cX3_takeNext 80 = .ok (.aload_n 0, 1) := by decide +kernel
theorem dX3_takeNext_81 : decode cX3_takeNext 81 = .ok (.aload_n 1, 1) := by decide +kernel
theorem dX3_takeNext_82 : decode cX3_takeNext 82 = .ok (.getfield 141, 3) := by decide +kernel
theorem dX3_takeNext_85 : decode cX3_takeNext 85 = .ok (.aload_n 1, 1) := by decide +kernel
theorem dX3_takeNext_86 : decode cX3_takeNext 86 = .ok (.getfield 228, 3) := by decide +kernel
theorem dX3_takeNext_89 : decode cX3_takeNext 89 = .ok (.invokevirtual 314, 3) := by decide +kernel
theorem dX3_takeNext_92 : decode cX3_takeNext 92 = .ok (.iload_n 2, 1) := by decide +kernel
theorem dX3_takeNext_93 : decode cX3_takeNext 93 = .ok (.ireturn, 1) := by decide +kernel
theorem dX3_takeAtPlace_0 : decode cX3_takeAtPlace 0 = .ok (.aload_n 2, 1) := by decide +kernel
theorem dX3_takeAtPlace_1 : decode cX3_takeAtPlace 1 = .ok (.ifnull 22, 3) := by decide +kernel
theorem dX3_takeAtPlace_4 : decode cX3_takeAtPlace 4 = .ok (.aload_n 1, 1) := by decide +kernel
theorem dX3_takeAtPlace_5 : decode cX3_takeAtPlace 5 = .ok (.aload_n 2, 1) := by decide +kernel
theorem dX3_takeAtPlace_6 : decode cX3_takeAtPlace 6 = .ok (.aload_n 1, 1) := by decide +kernel
theorem dX3_takeAtPlace_7 : decode cX3_takeAtPlace 7 = .ok (.aload_n 2, 1) := by decide +kernel
theorem dX3_takeAtPlace_8 : decode cX3_takeAtPlace 8 = .ok (.getfield 98, 3) := by decide +kernel
theorem dX3_takeAtPlace_11 : decode cX3_takeAtPlace 11 = .ok (.invokevirtual 80, 3) := by decide +kernel
theorem dX3_takeAtPlace_14 : decode cX3_takeAtPlace 14 = .ok (.invokevirtual 299, 3) := by decide +kernel
theorem dX3_takeAtPlace_17 : decode cX3_takeAtPlace 17 = .ok (.invokevirtual 302, 3) := by decide +kernel
theorem dX3_takeAtPlace_20 : decode cX3_takeAtPlace 20 = .ok (.ifCond .ne 5, 3) := by decide +kernel
theorem dX3_takeAtPlace_23 : decode cX3_takeAtPlace 23 = .ok (.iconst 0, 1) := by decide +kernel
theorem dX3_takeAtPlace_24 : decode cX3_takeAtPlace 24 = .ok (.ireturn, 1) := by decide +kernel
theorem dX3_takeAtPlace_25 : decode cX3_takeAtPlace 25 = .ok (.aload_n 1, 1) := by decide +kernel
theorem dX3_takeAtPlace_26 : decode cX3_takeAtPlace 26 = .ok (.aload_n 2, 1) := by decide +kernel
theorem dX3_takeAtPlace_27 : decode cX3_takeAtPlace 27 = .ok (.getfield 98, 3) := by decide +kernel
theorem dX3_takeAtPlace_30 : decode cX3_takeAtPlace 30 = .ok (.invokevirtual 318, 3) := by decide +kernel
theorem dX3_takeAtPlace_33 : decode cX3_takeAtPlace 33 = .ok (.iconst 1, 1) := by decide +kernel
theorem dX3_takeAtPlace_34 : decode cX3_takeAtPlace 34 = .ok (.ireturn, 1) := by decide +kernel
theorem dX3_writeOn_0 : decode cX3_writeOn 0 = .ok (.aload_n 2, 1) := by decide +kernel
theorem dX3_writeOn_1 : decode cX3_writeOn 1 = .ok (.getfield 162, 3) := by decide +kernel
theorem dX3_writeOn_4 : decode cX3_writeOn 4 = .ok (.ifCond .le 19, 3) := by decide +kernel
theorem dX3_writeOn_7 : decode cX3_writeOn 7 = .ok (.aload_n 1, 1) := by decide +kernel
theorem dX3_writeOn_8 : decode cX3_writeOn 8 = .ok (.getfield 197, 3) := by decide +kernel
theorem dX3_writeOn_11 : decode cX3_writeOn 11 = .ok (.aload_n 2, 1) := by decide +kernel
theorem dX3_writeOn_12 : decode cX3_writeOn 12 = .ok (.getfield 183, 3) := by decide +kernel
theorem dX3_writeOn_15 : decode cX3_writeOn 15 = .ok (.lcmp, 1) := by decide +kernel
theorem dX3_writeOn_16 : decode cX3_writeOn 16 = .ok (.ifCond .ge 7, 3) := by decide +kernel
theorem dX3_writeOn_19 : decode cX3_writeOn 19 = .ok (.iconst 1, 1) := by decide +kernel
theorem dX3_writeOn_20 : decode cX3_writeOn 20 = .ok (.goto 4, 3) := by decide +kernel
theorem dX3_writeOn_23 : decode cX3_writeOn 23 = .ok (.iconst 0, 1) := by decide +kernel
theorem dX3_writeOn_24 : decode cX3_writeOn 24 = .ok (.istore_n 3, 1) := by decide +kernel
theorem dX3_writeOn_25 : decode cX3_writeOn 25 = .ok (.aload_n 2, 1) := by decide +kernel
theorem dX3_writeOn_26 : decode cX3_writeOn 26 = .ok (.iload_n 3, 1) := by decide +kernel
theorem dX3_writeOn_27 : decode cX3_writeOn 27 = .ok (.ifCond .eq 10, 3) := by decide +kernel
theorem dX3_writeOn_30 : decode cX3_writeOn 30 = .ok (.aload_n 2, 1) := by decide +kernel
theorem dX3_writeOn_31 : decode cX3_writeOn 31 = .ok (.getfield 183, 3) := by decide +kernel
theorem dX3_writeOn_34 : decode cX3_writeOn 34 = .ok (.goto 7, 3) := by decide +kernel
theorem dX3_writeOn_37 : decode cX3_writeOn 37 = .ok (.aload_n 1, 1) := by decide +kernel
theorem dX3_writeOn_38 : decode cX3_writeOn 38 = .ok (.getfield 197, 3) := by decide +kernel
theorem dX3_writeOn_41 : decode cX3_writeOn 41 = .ok (.invokevirtual 267, 3) := by decide +kernel
theorem dX3_writeOn_44 : decode cX3_writeOn 44 = .ok (.astore 4, 2) := by decide +kernel
theorem dX3_writeOn_46 : decode cX3_writeOn 46 = .ok (.aload_n 1, 1) := by decide +kernel
theorem dX3_writeOn_47 : decode cX3_writeOn 47 = .ok (.getfield 135, 3) := by decide +kernel
theorem dX3_writeOn_50 : decode cX3_writeOn 50 = .ok (.iconst 0, 1) := by decide +kernel
theorem dX3_writeOn_51 : decode cX3_writeOn 51 = .ok (.aload 4, 2) := by decide +kernel
theorem dX3_writeOn_53 : decode cX3_writeOn 53 = .ok (.getfield 135, 3) := by decide +kernel
theorem dX3_writeOn_56 : decode cX3_writeOn 56 = .ok (.iconst 0, 1) := by decide +kernel
theorem dX3_writeOn_57 : decode cX3_writeOn 57 = .ok (.bipush 8, 2) := by decide +kernel
theorem dX3_writeOn_59 : decode cX3_writeOn 59 = .ok (.invokestatic 145, 3) := by decide +kernel
theorem dX3_writeOn_62 : decode cX3_writeOn 62 = .ok (.aload_n 0, 1) := by decide +kernel
theorem dX3_writeOn_63 : decode cX3_writeOn 63 = .ok (.aload 4, 2) := by decide +kernel
theorem dX3_writeOn_65 : decode cX3_writeOn 65 = .ok (.aload_n 1, 1) := by decide +kernel
theorem dX3_writeOn_66 : decode cX3_writeOn 66 = .ok (.getfield 200, 3) := by decide +kernel
theorem dX3_writeOn_69 : decode cX3_writeOn 69 = .ok (.aload_n 1, 1) := by decide +kernel
theorem dX3_writeOn_70 : decode cX3_writeOn 70 = .ok (.getfield 203, 3) := by decide +kernel
theorem dX3_writeOn_73 : decode cX3_writeOn 73 = .ok (.invokevirtual 151, 3) := by decide +kernel
theorem dX3_writeOn_76 : decode cX3_writeOn 76 = .ok (.return_, 1) := by decide +kernel
theorem dX3_isAnyReady_0 : decode cX3_isAnyReady 0 = .ok (.iconst 0, 1) := by decide +kernel
theorem dX3_isAnyReady_1 : decode cX3_isAnyReady 1 = .ok (.istore_n 1, 1) := by decide +kernel
theorem dX3_isAnyReady_2 : decode cX3_isAnyReady 2 = .ok (.iload_n 1, 1) := by decide +kernel
theorem dX3_isAnyReady_3 : decode cX3_isAnyReady 3 = .ok (.bipush 16, 2) := by decide +kernel
theorem dX3_isAnyReady_5 : decode cX3_isAnyReady 5 = .ok (.if_icmp .ge 29, 3) := by decide +kernel
theorem dX3_isAnyReady_8 : decode cX3_isAnyReady 8 = .ok (.aload_n 0, 1) := by decide +kernel
theorem dX3_isAnyReady_9 : decode cX3_isAnyReady 9 = .ok (.iload_n 1, 1) := by decide +kernel
theorem dX3_isAnyReady_10 : decode cX3_isAnyReady 10 = .ok (.invokevirtual 73, 3) := by decide +kernel
theorem dX3_isAnyReady_13 : decode cX3_isAnyReady 13 = .ok (.astore_n 2, 1) := by decide +kernel
theorem dX3_isAnyReady_14 : decode cX3_isAnyReady 14 = .ok (.aload_n 2, 1) := by decide +kernel
theorem dX3_isAnyReady_15 : decode cX3_isAnyReady 15 = .ok (.ifnull 13, 3) := by decide +kernel
theorem dX3_isAnyReady_18 : decode cX3_isAnyReady 18 = .ok (.aload_n 0, 1) := by decide +kernel
theorem dX3_isAnyReady_19 : decode cX3_isAnyReady 19 = .ok (.aload_n 2, 1) := by decide +kernel
theorem dX3_isAnyReady_20 : decode cX3_isAnyReady 20 = .ok (.invokevirtual 231, 3) := by decide +kernel
theorem dX3_isAnyReady_23 : decode cX3_isAnyReady 23 = .ok (.ifCond .ne 5, 3) := by decide +kernel
theorem dX3_isAnyReady_26 : decode cX3_isAnyReady 26 = .ok (.iconst 1, 1) := by decide +kernel
theorem dX3_isAnyReady_27 : decode cX3_isAnyReady 27 = .ok (.ireturn, 1) := by decide +kernel
theorem dX3_isAnyReady_28 : decode cX3_isAnyReady 28 = .ok (.iinc 1 1, 3) := by decide +kernel
theorem dX3_isAnyReady_31 : decode cX3_isAnyReady 31 = .ok (.goto (-29), 3) := by decide +kernel
theorem dX3_isAnyReady_34 : decode cX3_isAnyReady 34 = .ok (.iconst 0, 1) := by decide +kernel
theorem dX3_isAnyReady_35 : decode cX3_isAnyReady 35 = .ok (.ireturn, 1) := by decide +kernel
theorem dX3_reasonOf_0 : decode cX3_reasonOf 0 = .ok (.aload_n 1, 1) := by decide +kernel
theorem dX3_reasonOf_1 : decode cX3_reasonOf 1 = .ok (.getfield 77, 3) := by decide +kernel
theorem dX3_reasonOf_4 : decode cX3_reasonOf 4 = .ok (.iconst 5, 1) := by decide +kernel
theorem dX3_reasonOf_5 : decode cX3_reasonOf 5 = .ok (.if_icmp .ne 9, 3) := by decide +kernel
theorem dX3_reasonOf_8 : decode cX3_reasonOf 8 = .ok (.aload_n 0, 1) := by decide +kernel
theorem dX3_reasonOf_9 : decode cX3_reasonOf 9 = .ok (.aload_n 1, 1) := by decide +kernel
theorem dX3_reasonOf_10 : decode cX3_reasonOf 10 = .ok (.invokevirtual 321, 3) := by decide +kernel
theorem dX3_reasonOf_13 : decode cX3_reasonOf 13 = .ok (.ireturn, 1) := by decide +kernel
theorem dX3_reasonOf_14 : decode cX3_reasonOf 14 = .ok (.aload_n 1, 1) := by decide +kernel
theorem dX3_reasonOf_15 : decode cX3_reasonOf 15 = .ok (.getfield 77, 3) := by decide +kernel
theorem dX3_reasonOf_18 : decode cX3_reasonOf 18 = .ok (.iconst 4, 1) := by decide +kernel
theorem dX3_reasonOf_19 : decode cX3_reasonOf 19 = .ok (.if_icmp .ne 16, 3) := by decide +kernel
theorem dX3_reasonOf_22 : decode cX3_reasonOf 22 = .ok (.aload_n 1, 1) := by decide +kernel
theorem dX3_reasonOf_23 : decode cX3_reasonOf 23 = .ok (.getfield 215, 3) := by decide +kernel
theorem dX3_reasonOf_26 : decode cX3_reasonOf 26 = .ok (.ifCond .le 7, 3) := by decide +kernel
theorem dX3_reasonOf_29 : decode cX3_reasonOf 29 = .ok (.iconst 0, 1) := by decide +kernel
theorem dX3_reasonOf_30 : decode cX3_reasonOf 30 = .ok (.goto 4, 3) := by decide +kernel
theorem dX3_reasonOf_33 : decode cX3_reasonOf 33 = .ok (.iconst 2, 1) := by decide +kernel
theorem dX3_reasonOf_34 : decode cX3_reasonOf 34 = .ok (.ireturn, 1) := by decide +kernel
theorem dX3_reasonOf_35 : decode cX3_reasonOf 35 = .ok (.aload_n 1, 1) := by decide +kernel
theorem dX3_reasonOf_36 : decode cX3_reasonOf 36 = .ok (.getfield 94, 3) := by decide +kernel
theorem dX3_reasonOf_39 : decode cX3_reasonOf 39 = .ok (.getfield 128, 3) := by decide +kernel
theorem dX3_reasonOf_42 : decode cX3_reasonOf 42 = .ok (.ifCond .eq 5, 3) := by decide +kernel
theorem dX3_reasonOf_45 : decode cX3_reasonOf 45 = .ok (.iconst 1, 1) := by decide +kernel
theorem dX3_reasonOf_46 : decode cX3_reasonOf 46 = .ok (.ireturn, 1) := by decide +kernel
theorem dX3_reasonOf_47 : decode cX3_reasonOf 47 = .ok (.aload_n 1, 1) := by decide +kernel
theorem dX3_reasonOf_48 : decode cX3_reasonOf 48 = .ok (.getfield 77, 3) := by decide +kernel
theorem dX3_reasonOf_51 : decode cX3_reasonOf 51 = .ok (.iconst 1, 1) := by decide +kernel
theorem dX3_reasonOf_52 : decode cX3_reasonOf 52 = .ok (.if_icmp .ne 26, 3) := by decide +kernel
theorem dX3_reasonOf_55 : decode cX3_reasonOf 55 = .ok (.aload_n 1, 1) := by decide +kernel
theorem dX3_reasonOf_56 : decode cX3_reasonOf 56 = .ok (.getfield 94, 3) := by decide +kernel
theorem dX3_reasonOf_59 : decode cX3_reasonOf 59 = .ok (.invokevirtual 296, 3) := by decide +kernel
theorem dX3_reasonOf_62 : decode cX3_reasonOf 62 = .ok (.aload_n 1, 1) := by decide +kernel
theorem dX3_reasonOf_63 : decode cX3_reasonOf 63 = .ok (.getfield 141, 3) := by decide +kernel
theorem dX3_reasonOf_66 : decode cX3_reasonOf 66 = .ok (.getfield 191, 3) := by decide +kernel
theorem dX3_reasonOf_69 : decode cX3_reasonOf 69 = .ok (.if_icmp .le 7, 3) := by decide +kernel
theorem dX3_reasonOf_72 : decode cX3_reasonOf 72 = .ok (.iconst 0, 1) := by decide +kernel
theorem dX3_reasonOf_73 : decode cX3_reasonOf 73 = .ok (.goto 4, 3) := by decide +kernel
theorem dX3_reasonOf_76 : decode cX3_reasonOf 76 = .ok (.iconst 2, 1) := by decide +kernel
theorem dX3_reasonOf_77 : decode cX3_reasonOf 77 = .ok (.ireturn, 1) := by decide +kernel
theorem dX3_reasonOf_78 : decode cX3_reasonOf 78 = .ok (.aload_n 0, 1) := by decide +kernel
theorem dX3_reasonOf_79 : decode cX3_reasonOf 79 = .ok (.aload_n 1, 1) := by decide +kernel
theorem dX3_reasonOf_80 : decode cX3_reasonOf 80 = .ok (.invokevirtual 324, 3) := by decide +kernel
theorem dX3_reasonOf_83 : decode cX3_reasonOf 83 = .ok (.ireturn, 1) := by decide +kernel
theorem dX3_reasonAtPlace_0 : decode cX3_reasonAtPlace 0 = .ok (.aload_n 1, 1) := by decide +kernel
theorem dX3_reasonAtPlace_1 : decode cX3_reasonAtPlace 1 = .ok (.invokevirtual 234, 3) := by decide +kernel
theorem dX3_reasonAtPlace_4 : decode cX3_reasonAtPlace 4 = .ok (.istore_n 2, 1) := by decide +kernel
theorem dX3_reasonAtPlace_5 : decode cX3_reasonAtPlace 5 = .ok (.iload_n 2, 1) := by decide +kernel
theorem dX3_reasonAtPlace_6 : decode cX3_reasonAtPlace 6 = .ok (.aload_n 1, 1) := by decide +kernel
theorem dX3_reasonAtPlace_7 : decode cX3_reasonAtPlace 7 = .ok (.getfield 94, 3) := by decide +kernel
theorem dX3_reasonAtPlace_10 : decode cX3_reasonAtPlace 10 = .ok (.getfield 162, 3) := by decide +kernel
theorem dX3_reasonAtPlace_13 : decode cX3_reasonAtPlace 13 = .ok (.if_icmp .lt 5, 3) := by decide +kernel
theorem dX3_reasonAtPlace_16 : decode cX3_reasonAtPlace 16 = .ok (.iconst 2, 1) := by decide +kernel
theorem dX3_reasonAtPlace_17 : decode cX3_reasonAtPlace 17 = .ok (.ireturn, 1) := by decide +kernel
theorem dX3_reasonAtPlace_18 : decode cX3_reasonAtPlace 18 = .ok (.aload_n 1, 1) := by decide +kernel
theorem dX3_reasonAtPlace_19 : decode cX3_reasonAtPlace 19 = .ok (.getfield 94, 3) := by decide +kernel
theorem dX3_reasonAtPlace_22 : decode cX3_reasonAtPlace 22 = .ok (.iload_n 2, 1) := by decide +kernel
theorem dX3_reasonAtPlace_23 : decode cX3_reasonAtPlace 23 = .ok (.invokevirtual 327, 3) := by decide +kernel
theorem dX3_reasonAtPlace_26 : decode cX3_reasonAtPlace 26 = .ok (.ifCond .ne 5, 3) := by decide +kernel
theorem dX3_reasonAtPlace_29 : decode cX3_reasonAtPlace 29 = .ok (.iconst 3, 1) := by decide +kernel
theorem dX3_reasonAtPlace_30 : decode cX3_reasonAtPlace 30 = .ok (.ireturn, 1) := by decide +kernel
theorem dX3_reasonAtPlace_31 : decode cX3_reasonAtPlace 31 = .ok (.aload_n 0, 1) := by decide +kernel
theorem dX3_reasonAtPlace_32 : decode cX3_reasonAtPlace 32 = .ok (.aload_n 1, 1) := by decide +kernel
theorem dX3_reasonAtPlace_33 : decode cX3_reasonAtPlace 33 = .ok (.invokevirtual 237, 3) := by decide +kernel
theorem dX3_reasonAtPlace_36 : decode cX3_reasonAtPlace 36 = .ok (.ifCond .lt 5, 3) := by decide +kernel
theorem dX3_reasonAtPlace_39 : decode cX3_reasonAtPlace 39 = .ok (.iconst 4, 1) := by decide +kernel
theorem dX3_reasonAtPlace_40 : decode cX3_reasonAtPlace 40 = .ok (.ireturn, 1) := by decide +kernel
theorem dX3_reasonAtPlace_41 : decode cX3_reasonAtPlace 41 = .ok (.aload_n 1, 1) := by decide +kernel
theorem dX3_reasonAtPlace_42 : decode cX3_reasonAtPlace 42 = .ok (.getfield 228, 3) := by decide +kernel
theorem dX3_reasonAtPlace_45 : decode cX3_reasonAtPlace 45 = .ok (.ifnull 33, 3) := by decide +kernel
theorem dX3_reasonAtPlace_48 : decode cX3_reasonAtPlace 48 = .ok (.aload_n 1, 1) := by decide +kernel
theorem dX3_reasonAtPlace_49 : decode cX3_reasonAtPlace 49 = .ok (.getfield 228, 3) := by decide +kernel
theorem dX3_reasonAtPlace_52 : decode cX3_reasonAtPlace 52 = .ok (.invokevirtual 246, 3) := by decide +kernel
theorem dX3_reasonAtPlace_55 : decode cX3_reasonAtPlace 55 = .ok (.ifCond .eq 21, 3) := by decide +kernel
theorem dX3_reasonAtPlace_58 : decode cX3_reasonAtPlace 58 = .ok (.aload_n 0, 1) := by decide +kernel
theorem dX3_reasonAtPlace_59 : decode cX3_reasonAtPlace 59 = .ok (.aload_n 1, 1) := by decide +kernel
theorem dX3_reasonAtPlace_60 : decode cX3_reasonAtPlace 60 = .ok (.getfield 228, 3) := by decide +kernel
theorem dX3_reasonAtPlace_63 : decode cX3_reasonAtPlace 63 = .ok (.aload_n 1, 1) := by decide +kernel
theorem dX3_reasonAtPlace_64 : decode cX3_reasonAtPlace 64 = .ok (.getfield 228, 3) := by decide +kernel
theorem dX3_reasonAtPlace_67 : decode cX3_reasonAtPlace 67 = .ok (.getfield 162, 3) := by decide +kernel
theorem dX3_reasonAtPlace_70 : decode cX3_reasonAtPlace 70 = .ok (.invokevirtual 179, 3) := by decide +kernel
theorem dX3_reasonAtPlace_73 : decode cX3_reasonAtPlace 73 = .ok (.ifCond .eq 5, 3) := by decide +kernel
theorem dX3_reasonAtPlace_76 : decode cX3_reasonAtPlace 76 = .ok (.iconst 5, 1) := by decide +kernel
theorem dX3_reasonAtPlace_77 : decode cX3_reasonAtPlace 77 = .ok (.ireturn, 1) := by decide +kernel
theorem dX3_reasonAtPlace_78 : decode cX3_reasonAtPlace 78 = .ok (.iconst 0, 1) := by decide +kernel
theorem dX3_reasonAtPlace_79 : decode cX3_reasonAtPlace 79 = .ok (.ireturn, 1) := by decide +kernel
theorem dX3_leastNamedBehind_0 : decode cX3_leastNamedBehind 0 = .ok (.aload_n 1, 1) := by decide +kernel
theorem dX3_leastNamedBehind_1 : decode cX3_leastNamedBehind 1 = .ok (.getfield 94, 3) := by decide +kernel
theorem dX3_leastNamedBehind_4 : decode cX3_leastNamedBehind 4 = .ok (.getfield 98, 3) := by decide +kernel
theorem dX3_leastNamedBehind_7 : decode cX3_leastNamedBehind 7 = .ok (.istore_n 2, 1) := by decide +kernel
theorem dX3_leastNamedBehind_8 : decode cX3_leastNamedBehind 8 = .ok (.iconst 0, 1) := by decide +kernel
theorem dX3_leastNamedBehind_9 : decode cX3_leastNamedBehind 9 = .ok (.istore_n 3, 1) := by decide +kernel
theorem dX3_leastNamedBehind_10 : decode cX3_leastNamedBehind 10 = .ok (.iload_n 3, 1) := by decide +kernel
theorem dX3_leastNamedBehind_11 : decode cX3_leastNamedBehind 11 = .ok (.bipush 16, 2) := by decide +kernel
theorem dX3_leastNamedBehind_13 : decode cX3_leastNamedBehind 13 = .ok (.if_icmp .ge 33, 3) := by decide +kernel
theorem dX3_leastNamedBehind_16 : decode cX3_leastNamedBehind 16 = .ok (.aload_n 1, 1) := by decide +kernel
theorem dX3_leastNamedBehind_17 : decode cX3_leastNamedBehind 17 = .ok (.iload_n 3, 1) := by decide +kernel
theorem dX3_leastNamedBehind_18 : decode cX3_leastNamedBehind 18 = .ok (.invokevirtual 101, 3) := by decide +kernel
theorem dX3_leastNamedBehind_21 : decode cX3_leastNamedBehind 21 = .ok (.ifCond .eq 19, 3) := by decide +kernel
theorem dX3_leastNamedBehind_24 : decode cX3_leastNamedBehind 24 = .ok (.aload_n 0, 1) := by decide +kernel
theorem dX3_leastNamedBehind_25 : decode cX3_leastNamedBehind 25 = .ok (.iload_n 3, 1) := by decide +kernel
theorem dX3_leastNamedBehind_26 : decode cX3_leastNamedBehind 26 = .ok (.iload_n 2, 1) := by decide +kernel
theorem dX3_leastNamedBehind_27 : decode cX3_leastNamedBehind 27 = .ok (.invokevirtual 62, 3) := by decide +kernel
theorem dX3_leastNamedBehind_30 : decode cX3_leastNamedBehind 30 = .ok (.aload_n 1, 1) := by decide +kernel
theorem dX3_leastNamedBehind_31 : decode cX3_leastNamedBehind 31 = .ok (.iload_n 2, 1) := by decide +kernel
theorem dX3_leastNamedBehind_32 : decode cX3_leastNamedBehind 32 = .ok (.invokevirtual 80, 3) := by decide +kernel
theorem dX3_leastNamedBehind_35 : decode cX3_leastNamedBehind 35 = .ok (.if_icmp .gt 5, 3) := by decide +kernel
theorem dX3_leastNamedBehind_38 : decode cX3_leastNamedBehind 38 = .ok (.iload_n 3, 1) := by decide +kernel
theorem dX3_leastNamedBehind_39 : decode cX3_leastNamedBehind 39 = .ok (.ireturn, 1) := by decide +kernel
theorem dX3_leastNamedBehind_40 : decode cX3_leastNamedBehind 40 = .ok (.iinc 3 1, 3) := by decide +kernel
theorem dX3_leastNamedBehind_43 : decode cX3_leastNamedBehind 43 = .ok (.goto (-33), 3) := by decide +kernel
theorem dX3_leastNamedBehind_46 : decode cX3_leastNamedBehind 46 = .ok (.iconst (-1), 1) := by decide +kernel
theorem dX3_leastNamedBehind_47 : decode cX3_leastNamedBehind 47 = .ok (.ireturn, 1) := by decide +kernel
theorem dX3_reasonOfMerge_0 : decode cX3_reasonOfMerge 0 = .ok (.aload_n 0, 1) := by decide +kernel
theorem dX3_reasonOfMerge_1 : decode cX3_reasonOfMerge 1 = .ok (.aload_n 1, 1) := by decide +kernel
theorem dX3_reasonOfMerge_2 : decode cX3_reasonOfMerge 2 = .ok (.invokevirtual 240, 3) := by decide +kernel
theorem dX3_reasonOfMerge_5 : decode cX3_reasonOfMerge 5 = .ok (.ifCond .lt 6, 3) := by decide +kernel
theorem dX3_reasonOfMerge_8 : decode cX3_reasonOfMerge 8 = .ok (.bipush 7, 2) := by decide +kernel
theorem dX3_reasonOfMerge_10 : decode cX3_reasonOfMerge 10 = .ok (.ireturn, 1) := by decide +kernel
theorem dX3_reasonOfMerge_11 : decode cX3_reasonOfMerge 11 = .ok (.aload_n 0, 1) := by decide +kernel
theorem dX3_reasonOfMerge_12 : decode cX3_reasonOfMerge 12 = .ok (.aload_n 1, 1) := by decide +kernel
theorem dX3_reasonOfMerge_13 : decode cX3_reasonOfMerge 13 = .ok (.invokevirtual 306, 3) := by decide +kernel
theorem dX3_reasonOfMerge_16 : decode cX3_reasonOfMerge 16 = .ok (.ifnonnull 8, 3) := by decide +kernel
theorem dX3_reasonOfMerge_19 : decode cX3_reasonOfMerge 19 = .ok (.bipush 6, 2) := by decide +kernel
theorem dX3_reasonOfMerge_21 : decode cX3_reasonOfMerge 21 = .ok (.goto 4, 3) := by decide +kernel
theorem dX3_reasonOfMerge_24 : decode cX3_reasonOfMerge 24 = .ok (.iconst 0, 1) := by decide +kernel
theorem dX3_reasonOfMerge_25 : decode cX3_reasonOfMerge 25 = .ok (.ireturn, 1) := by decide +kernel
theorem dX3_isAwaited_0 : decode cX3_isAwaited 0 = .ok (.aload_n 1, 1) := by decide +kernel
theorem dX3_isAwaited_1 : decode cX3_isAwaited 1 = .ok (.aload_n 2, 1) := by decide +kernel
theorem dX3_isAwaited_2 : decode cX3_isAwaited 2 = .ok (.getfield 98, 3) := by decide +kernel
theorem dX3_isAwaited_5 : decode cX3_isAwaited 5 = .ok (.invokevirtual 80, 3) := by decide +kernel
theorem dX3_isAwaited_8 : decode cX3_isAwaited 8 = .ok (.istore_n 3, 1) := by decide +kernel
theorem dX3_isAwaited_9 : decode cX3_isAwaited 9 = .ok (.iload_n 3, 1) := by decide +kernel
theorem dX3_isAwaited_10 : decode cX3_isAwaited 10 = .ok (.ifCond .lt 29, 3) := by decide +kernel
theorem dX3_isAwaited_13 : decode cX3_isAwaited 13 = .ok (.aload_n 2, 1) := by decide +kernel
theorem dX3_isAwaited_14 : decode cX3_isAwaited 14 = .ok (.getfield 128, 3) := by decide +kernel
theorem dX3_isAwaited_17 : decode cX3_isAwaited 17 = .ok (.ifCond .ne 22, 3) := by decide +kernel
theorem dX3_isAwaited_20 : decode cX3_isAwaited 20 = .ok (.aload_n 2, 1) := by decide +kernel
theorem dX3_isAwaited_21 : decode cX3_isAwaited 21 = .ok (.getfield 155, 3) := by decide +kernel
theorem dX3_isAwaited_24 : decode cX3_isAwaited 24 = .ok (.ifCond .eq 11, 3) := by decide +kernel
theorem dX3_isAwaited_27 : decode cX3_isAwaited 27 = .ok (.iload_n 3, 1) := by decide +kernel
theorem dX3_isAwaited_28 : decode cX3_isAwaited 28 = .ok (.aload_n 2, 1) := by decide +kernel
theorem dX3_isAwaited_29 : decode cX3_isAwaited 29 = .ok (.getfield 162, 3) := by decide +kernel
theorem dX3_isAwaited_32 : decode cX3_isAwaited 32 = .ok (.if_icmp .ge 7, 3) := by decide +kernel
theorem dX3_isAwaited_35 : decode cX3_isAwaited 35 = .ok (.iconst 1, 1) := by decide +kernel
theorem dX3_isAwaited_36 : decode cX3_isAwaited 36 = .ok (.goto 4, 3) := by decide +kernel
theorem dX3_isAwaited_39 : decode cX3_isAwaited 39 = .ok (.iconst 0, 1) := by decide +kernel
theorem dX3_isAwaited_40 : decode cX3_isAwaited 40 = .ok (.ireturn, 1) := by decide +kernel
theorem dX3_leastLackingRing_0 : decode cX3_leastLackingRing 0 = .ok (.iconst 0, 1) := by decide +kernel
theorem dX3_leastLackingRing_1 : decode cX3_leastLackingRing 1 = .ok (.istore_n 2, 1) := by decide +kernel
theorem dX3_leastLackingRing_2 : decode cX3_leastLackingRing 2 = .ok (.iload_n 2, 1) := by decide +kernel
theorem dX3_leastLackingRing_3 : decode cX3_leastLackingRing 3 = .ok (.bipush 8, 2) := by decide +kernel
theorem dX3_leastLackingRing_5 : decode cX3_leastLackingRing 5 = .ok (.if_icmp .ge 42, 3) := by decide +kernel
theorem dX3_leastLackingRing_8 : decode cX3_leastLackingRing 8 = .ok (.aload_n 0, 1) := by decide +kernel
theorem dX3_leastLackingRing_9 : decode cX3_leastLackingRing 9 = .ok (.iload_n 2, 1) := by decide +kernel
theorem dX3_leastLackingRing_10 : decode cX3_leastLackingRing 10 = .ok (.invokevirtual 54, 3) := by decide +kernel
theorem dX3_leastLackingRing_13 : decode cX3_leastLackingRing 13 = .ok (.astore_n 3, 1) := by decide +kernel
theorem dX3_leastLackingRing_14 : decode cX3_leastLackingRing 14 = .ok (.aload_n 3, 1) := by decide +kernel
theorem dX3_leastLackingRing_15 : decode cX3_leastLackingRing 15 = .ok (.ifnull 26, 3) := by decide +kernel
theorem dX3_leastLackingRing_18 : decode cX3_leastLackingRing 18 = .ok (.aload_n 0, 1) := by decide +kernel
theorem dX3_leastLackingRing_19 : decode cX3_leastLackingRing 19 = .ok (.aload_n 1, 1) := by decide +kernel
theorem dX3_leastLackingRing_20 : decode cX3_leastLackingRing 20 = .ok (.aload_n 3, 1) := by decide +kernel
theorem dX3_leastLackingRing_21 : decode cX3_leastLackingRing 21 = .ok (.invokevirtual 330, 3) := by decide +kernel
theorem dX3_leastLackingRing_24 : decode cX3_leastLackingRing 24 = .ok (.ifCond .eq 17, 3) := by decide +kernel
theorem dX3_leastLackingRing_27 : decode cX3_leastLackingRing 27 = .ok (.aload_n 3, 1) := by decide +kernel
theorem dX3_leastLackingRing_28 : decode cX3_leastLackingRing 28 = .ok (.aload_n 1, 1) := by decide +kernel
theorem dX3_leastLackingRing_29 : decode cX3_leastLackingRing 29 = .ok (.iload_n 2, 1) := by decide +kernel
theorem dX3_leastLackingRing_30 : decode cX3_leastLackingRing 30 = .ok (.invokevirtual 80, 3) := by decide +kernel
theorem dX3_leastLackingRing_33 : decode cX3_leastLackingRing 33 = .ok (.invokevirtual 327, 3) := by decide +kernel
theorem dX3_leastLackingRing_36 : decode cX3_leastLackingRing 36 = .ok (.ifCond .ne 5, 3) := by decide +kernel
theorem dX3_leastLackingRing_39 : decode cX3_leastLackingRing 39 = .ok (.iload_n 2, 1) := by decide +kernel
theorem dX3_leastLackingRing_40 : decode cX3_leastLackingRing 40 = .ok (.ireturn, 1) := by decide +kernel
theorem dX3_leastLackingRing_41 : decode cX3_leastLackingRing 41 = .ok (.iinc 2 1, 3) := by decide +kernel
theorem dX3_leastLackingRing_44 : decode cX3_leastLackingRing 44 = .ok (.goto (-42), 3) := by decide +kernel
theorem dX3_leastLackingRing_47 : decode cX3_leastLackingRing 47 = .ok (.iconst (-1), 1) := by decide +kernel
theorem dX3_leastLackingRing_48 : decode cX3_leastLackingRing 48 = .ok (.ireturn, 1) := by decide +kernel
theorem dX3_ringOfLeastStamp_0 : decode cX3_ringOfLeastStamp 0 = .ok (.aconst_null, 1) := by decide +kernel
theorem dX3_ringOfLeastStamp_1 : decode cX3_ringOfLeastStamp 1 = .ok (.astore_n 2, 1) := by decide +kernel
theorem dX3_ringOfLeastStamp_2 : decode cX3_ringOfLeastStamp 2 = .ok (.lconst 0, 1) := by decide +kernel
theorem dX3_ringOfLeastStamp_3 : decode cX3_ringOfLeastStamp 3 = .ok (.lstore_n 3, 1) := by decide +kernel
theorem dX3_ringOfLeastStamp_4 : decode cX3_ringOfLeastStamp 4 = .ok (.iconst 0, 1) := by decide +kernel
theorem dX3_ringOfLeastStamp_5 : decode cX3_ringOfLeastStamp 5 = .ok (.istore 5, 2) := by decide +kernel
theorem dX3_ringOfLeastStamp_7 : decode cX3_ringOfLeastStamp 7 = .ok (.iload 5, 2) := by decide +kernel
theorem dX3_ringOfLeastStamp_9 : decode cX3_ringOfLeastStamp 9 = .ok (.bipush 8, 2) := by decide +kernel
theorem dX3_ringOfLeastStamp_11 : decode cX3_ringOfLeastStamp 11 = .ok (.if_icmp .ge 73, 3) := by decide +kernel
theorem dX3_ringOfLeastStamp_14 : decode cX3_ringOfLeastStamp 14 = .ok (.aload_n 0, 1) := by decide +kernel
theorem dX3_ringOfLeastStamp_15 : decode cX3_ringOfLeastStamp 15 = .ok (.iload 5, 2) := by decide +kernel
theorem dX3_ringOfLeastStamp_17 : decode cX3_ringOfLeastStamp 17 = .ok (.invokevirtual 54, 3) := by decide +kernel
theorem dX3_ringOfLeastStamp_20 : decode cX3_ringOfLeastStamp 20 = .ok (.astore 6, 2) := by decide +kernel
theorem dX3_ringOfLeastStamp_22 : decode cX3_ringOfLeastStamp 22 = .ok (.aload 6, 2) := by decide +kernel
theorem dX3_ringOfLeastStamp_24 : decode cX3_ringOfLeastStamp 24 = .ok (.ifnull 54, 3) := by decide +kernel
theorem dX3_ringOfLeastStamp_27 : decode cX3_ringOfLeastStamp 27 = .ok (.aload_n 0, 1) := by decide +kernel
theorem dX3_ringOfLeastStamp_28 : decode cX3_ringOfLeastStamp 28 = .ok (.aload_n 1, 1) := by decide +kernel
theorem dX3_ringOfLeastStamp_29 : decode cX3_ringOfLeastStamp 29 = .ok (.aload 6, 2) := by decide +kernel
theorem dX3_ringOfLeastStamp_31 : decode cX3_ringOfLeastStamp 31 = .ok (.invokevirtual 330, 3) := by decide +kernel
theorem dX3_ringOfLeastStamp_34 : decode cX3_ringOfLeastStamp 34 = .ok (.ifCond .eq 44, 3) := by decide +kernel
theorem dX3_ringOfLeastStamp_37 : decode cX3_ringOfLeastStamp 37 = .ok (.aload 6, 2) := by decide +kernel
theorem dX3_ringOfLeastStamp_39 : decode cX3_ringOfLeastStamp 39 = .ok (.aload_n 1, 1) := by decide +kernel
theorem dX3_ringOfLeastStamp_40 : decode cX3_ringOfLeastStamp 40 = .ok (.iload 5, 2) := by decide +kernel
theorem dX3_ringOfLeastStamp_42 : decode cX3_ringOfLeastStamp 42 = .ok (.invokevirtual 80, 3) := by decide +kernel
theorem dX3_ringOfLeastStamp_45 : decode cX3_ringOfLeastStamp 45 = .ok (.invokevirtual 299, 3) := by decide +kernel
theorem dX3_ringOfLeastStamp_48 : decode cX3_ringOfLeastStamp 48 = .ok (.astore 7, 2) := by decide +kernel
theorem dX3_ringOfLeastStamp_50 : decode cX3_ringOfLeastStamp 50 = .ok (.aload 7, 2) := by decide +kernel
theorem dX3_ringOfLeastStamp_52 : decode cX3_ringOfLeastStamp 52 = .ok (.ifnull 26, 3) := by decide +kernel
theorem dX3_ringOfLeastStamp_55 : decode cX3_ringOfLeastStamp 55 = .ok (.aload_n 2, 1) := by decide +kernel
theorem dX3_ringOfLeastStamp_56 : decode cX3_ringOfLeastStamp 56 = .ok (.ifnull 13, 3) := by decide +kernel
theorem dX3_ringOfLeastStamp_59 : decode cX3_ringOfLeastStamp 59 = .ok (.aload 7, 2) := by decide +kernel
theorem dX3_ringOfLeastStamp_61 : decode cX3_ringOfLeastStamp 61 = .ok (.getfield 197, 3) := by decide +kernel
theorem dX3_ringOfLeastStamp_64 : decode cX3_ringOfLeastStamp 64 = .ok (.lload_n 3, 1) := by decide +kernel
theorem dX3_ringOfLeastStamp_65 : decode cX3_ringOfLeastStamp 65 = .ok (.lcmp, 1) := by decide +kernel
theorem dX3_ringOfLeastStamp_66 : decode cX3_ringOfLeastStamp 66 = .ok (.ifCond .ge 12, 3) := by decide +kernel
theorem dX3_ringOfLeastStamp_69 : decode cX3_ringOfLeastStamp 69 = .ok (.aload 6, 2) := by decide +kernel
theorem dX3_ringOfLeastStamp_71 : decode cX3_ringOfLeastStamp 71 = .ok (.astore_n 2, 1) := by decide +kernel
theorem dX3_ringOfLeastStamp_72 : decode cX3_ringOfLeastStamp 72 = .ok (.aload 7, 2) := by decide +kernel
theorem dX3_ringOfLeastStamp_74 : decode cX3_ringOfLeastStamp 74 = .ok (.getfield 197, 3) := by decide +kernel
theorem dX3_ringOfLeastStamp_77 : decode cX3_ringOfLeastStamp 77 = .ok (.lstore_n 3, 1) := by decide +kernel
theorem dX3_ringOfLeastStamp_78 : decode cX3_ringOfLeastStamp 78 = .ok (.iinc 5 1, 3) := by decide +kernel
theorem dX3_ringOfLeastStamp_81 : decode cX3_ringOfLeastStamp 81 = .ok (.goto (-74), 3) := by decide +kernel
theorem dX3_ringOfLeastStamp_84 : decode cX3_ringOfLeastStamp 84 = .ok (.aload_n 2, 1) := by decide +kernel
theorem dX3_ringOfLeastStamp_85 : decode cX3_ringOfLeastStamp 85 = .ok (.areturn, 1) := by decide +kernel
theorem dJ6_bitCount_0f7a4_0 : decode cJ6_bitCount_0f7a4 0 = .ok (.iload_n 0, 1) := by decide +kernel
theorem dJ6_bitCount_0f7a4_1 : decode cJ6_bitCount_0f7a4 1 = .ok (.iload_n 0, 1) := by decide +kernel
theorem dJ6_bitCount_0f7a4_2 : decode cJ6_bitCount_0f7a4 2 = .ok (.iconst 1, 1) := by decide +kernel
theorem dJ6_bitCount_0f7a4_3 : decode cJ6_bitCount_0f7a4 3 = .ok (.iushr, 1) := by decide +kernel
theorem dJ6_bitCount_0f7a4_4 : decode cJ6_bitCount_0f7a4 4 = .ok (.ldc_w 265, 3) := by decide +kernel
theorem dJ6_bitCount_0f7a4_7 : decode cJ6_bitCount_0f7a4 7 = .ok (.iand, 1) := by decide +kernel
theorem dJ6_bitCount_0f7a4_8 : decode cJ6_bitCount_0f7a4 8 = .ok (.isub, 1) := by decide +kernel
theorem dJ6_bitCount_0f7a4_9 : decode cJ6_bitCount_0f7a4 9 = .ok (.istore_n 0, 1) := by decide +kernel
theorem dJ6_bitCount_0f7a4_10 : decode cJ6_bitCount_0f7a4 10 = .ok (.iload_n 0, 1) := by decide +kernel
theorem dJ6_bitCount_0f7a4_11 : decode cJ6_bitCount_0f7a4 11 = .ok (.ldc_w 266, 3) := by decide +kernel
theorem dJ6_bitCount_0f7a4_14 : decode cJ6_bitCount_0f7a4 14 = .ok (.iand, 1) := by decide +kernel
theorem dJ6_bitCount_0f7a4_15 : decode cJ6_bitCount_0f7a4 15 = .ok (.iload_n 0, 1) := by decide +kernel
theorem dJ6_bitCount_0f7a4_16 : decode cJ6_bitCount_0f7a4 16 = .ok (.iconst 2, 1) := by decide +kernel
theorem dJ6_bitCount_0f7a4_17 : decode cJ6_bitCount_0f7a4 17 = .ok (.iushr, 1) := by decide +kernel
theorem dJ6_bitCount_0f7a4_18 : decode cJ6_bitCount_0f7a4 18 = .ok (.ldc_w 266, 3) := by decide +kernel
theorem dJ6_bitCount_0f7a4_21 : decode cJ6_bitCount_0f7a4 21 = .ok (.iand, 1) := by decide +kernel
theorem dJ6_bitCount_0f7a4_22 : decode cJ6_bitCount_0f7a4 22 = .ok (.iadd, 1) := by decide +kernel
theorem dJ6_bitCount_0f7a4_23 : decode cJ6_bitCount_0f7a4 23 = .ok (.istore_n 0, 1) := by decide +kernel
theorem dJ6_bitCount_0f7a4_24 : decode cJ6_bitCount_0f7a4 24 = .ok (.iload_n 0, 1) := by decide +kernel
theorem dJ6_bitCount_0f7a4_25 : decode cJ6_bitCount_0f7a4 25 = .ok (.iload_n 0, 1) := by decide +kernel
theorem dJ6_bitCount_0f7a4_26 : decode cJ6_bitCount_0f7a4 26 = .ok (.iconst 4, 1) := by decide +kernel
theorem dJ6_bitCount_0f7a4_27 : decode cJ6_bitCount_0f7a4 27 = .ok (.iushr, 1) := by decide +kernel
theorem dJ6_bitCount_0f7a4_28 : decode cJ6_bitCount_0f7a4 28 = .ok (.iadd, 1) := by decide +kernel
theorem dJ6_bitCount_0f7a4_29 : decode cJ6_bitCount_0f7a4 29 = .ok (.ldc_w 267, 3) := by decide +kernel
theorem dJ6_bitCount_0f7a4_32 : decode cJ6_bitCount_0f7a4 32 = .ok (.iand, 1) := by decide +kernel
theorem dJ6_bitCount_0f7a4_33 : decode cJ6_bitCount_0f7a4 33 = .ok (.istore_n 0, 1) := by decide +kernel
theorem dJ6_bitCount_0f7a4_34 : decode cJ6_bitCount_0f7a4 34 = .ok (.iload_n 0, 1) := by decide +kernel
theorem dJ6_bitCount_0f7a4_35 : decode cJ6_bitCount_0f7a4 35 = .ok (.iload_n 0, 1) := by decide +kernel
theorem dJ6_bitCount_0f7a4_36 : decode cJ6_bitCount_0f7a4 36 = .ok (.bipush 8, 2) := by decide +kernel
theorem dJ6_bitCount_0f7a4_38 : decode cJ6_bitCount_0f7a4 38 = .ok (.iushr, 1) := by decide +kernel
theorem dJ6_bitCount_0f7a4_39 : decode cJ6_bitCount_0f7a4 39 = .ok (.iadd, 1) := by decide +kernel
theorem dJ6_bitCount_0f7a4_40 : decode cJ6_bitCount_0f7a4 40 = .ok (.istore_n 0, 1) := by decide +kernel
theorem dJ6_bitCount_0f7a4_41 : decode cJ6_bitCount_0f7a4 41 = .ok (.iload_n 0, 1) := by decide +kernel
theorem dJ6_bitCount_0f7a4_42 : decode cJ6_bitCount_0f7a4 42 = .ok (.iload_n 0, 1) := by decide +kernel
theorem dJ6_bitCount_0f7a4_43 : decode cJ6_bitCount_0f7a4 43 = .ok (.bipush 16, 2) := by decide +kernel
theorem dJ6_bitCount_0f7a4_45 : decode cJ6_bitCount_0f7a4 45 = .ok (.iushr, 1) := by decide +kernel
theorem dJ6_bitCount_0f7a4_46 : decode cJ6_bitCount_0f7a4 46 = .ok (.iadd, 1) := by decide +kernel
theorem dJ6_bitCount_0f7a4_47 : decode cJ6_bitCount_0f7a4 47 = .ok (.istore_n 0, 1) := by decide +kernel
theorem dJ6_bitCount_0f7a4_48 : decode cJ6_bitCount_0f7a4 48 = .ok (.iload_n 0, 1) := by decide +kernel
theorem dJ6_bitCount_0f7a4_49 : decode cJ6_bitCount_0f7a4 49 = .ok (.bipush 63, 2) := by decide +kernel
theorem dJ6_bitCount_0f7a4_51 : decode cJ6_bitCount_0f7a4 51 = .ok (.iand, 1) := by decide +kernel
theorem dJ6_bitCount_0f7a4_52 : decode cJ6_bitCount_0f7a4 52 = .ok (.ireturn, 1) := by decide +kernel
theorem dJ9_max_7cf53_0 : decode cJ9_max_7cf53 0 = .ok (.iload_n 0, 1) := by decide +kernel
theorem dJ9_max_7cf53_1 : decode cJ9_max_7cf53 1 = .ok (.iload_n 1, 1) := by decide +kernel
theorem dJ9_max_7cf53_2 : decode cJ9_max_7cf53 2 = .ok (.if_icmp .lt 7, 3) := by decide +kernel
theorem dJ9_max_7cf53_5 : decode cJ9_max_7cf53 5 = .ok (.iload_n 0, 1) := by decide +kernel
theorem dJ9_max_7cf53_6 : decode cJ9_max_7cf53 6 = .ok (.goto 4, 3) := by decide +kernel
theorem dJ9_max_7cf53_9 : decode cJ9_max_7cf53 9 = .ok (.iload_n 1, 1) := by decide +kernel
theorem dJ9_max_7cf53_10 : decode cJ9_max_7cf53 10 = .ok (.ireturn, 1) := by decide +kernel
theorem dJ9_min_7cf53_0 : decode cJ9_min_7cf53 0 = .ok (.iload_n 0, 1) := by decide +kernel
theorem dJ9_min_7cf53_1 : decode cJ9_min_7cf53 1 = .ok (.iload_n 1, 1) := by decide +kernel
theorem dJ9_min_7cf53_2 : decode cJ9_min_7cf53 2 = .ok (.if_icmp .gt 7, 3) := by decide +kernel
theorem dJ9_min_7cf53_5 : decode cJ9_min_7cf53 5 = .ok (.iload_n 0, 1) := by decide +kernel
theorem dJ9_min_7cf53_6 : decode cJ9_min_7cf53 6 = .ok (.goto 4, 3) := by decide +kernel
theorem dJ9_min_7cf53_9 : decode cJ9_min_7cf53 9 = .ok (.iload_n 1, 1) := by decide +kernel
theorem dJ9_min_7cf53_10 : decode cJ9_min_7cf53 10 = .ok (.ireturn, 1) := by decide +kernel
theorem dJ7_fill_d0a16_0 : decode cJ7_fill_d0a16 0 = .ok (.iconst 0, 1) := by decide +kernel
theorem dJ7_fill_d0a16_1 : decode cJ7_fill_d0a16 1 = .ok (.istore_n 3, 1) := by decide +kernel
theorem dJ7_fill_d0a16_2 : decode cJ7_fill_d0a16 2 = .ok (.aload_n 0, 1) := by decide +kernel
theorem dJ7_fill_d0a16_3 : decode cJ7_fill_d0a16 3 = .ok (.arraylength, 1) := by decide +kernel
theorem dJ7_fill_d0a16_4 : decode cJ7_fill_d0a16 4 = .ok (.istore 4, 2) := by decide +kernel
theorem dJ7_fill_d0a16_6 : decode cJ7_fill_d0a16 6 = .ok (.iload_n 3, 1) := by decide +kernel
theorem dJ7_fill_d0a16_7 : decode cJ7_fill_d0a16 7 = .ok (.iload 4, 2) := by decide +kernel
theorem dJ7_fill_d0a16_9 : decode cJ7_fill_d0a16 9 = .ok (.if_icmp .ge 13, 3) := by decide +kernel
theorem dJ7_fill_d0a16_12 : decode cJ7_fill_d0a16 12 = .ok (.aload_n 0, 1) := by decide +kernel
theorem dJ7_fill_d0a16_13 : decode cJ7_fill_d0a16 13 = .ok (.iload_n 3, 1) := by decide +kernel
theorem dJ7_fill_d0a16_14 : decode cJ7_fill_d0a16 14 = .ok (.lload_n 1, 1) := by decide +kernel
theorem dJ7_fill_d0a16_15 : decode cJ7_fill_d0a16 15 = .ok (.lastore, 1) := by decide +kernel
theorem dJ7_fill_d0a16_16 : decode cJ7_fill_d0a16 16 = .ok (.iinc 3 1, 3) := by decide +kernel
theorem dJ7_fill_d0a16_19 : decode cJ7_fill_d0a16 19 = .ok (.goto (-13), 3) := by decide +kernel
theorem dJ7_fill_d0a16_22 : decode cJ7_fill_d0a16 22 = .ok (.return_, 1) := by decide +kernel
theorem dJ7_fill_53178_0 : decode cJ7_fill_53178 0 = .ok (.iconst 0, 1) := by decide +kernel
theorem dJ7_fill_53178_1 : decode cJ7_fill_53178 1 = .ok (.istore_n 2, 1) := by decide +kernel
theorem dJ7_fill_53178_2 : decode cJ7_fill_53178 2 = .ok (.aload_n 0, 1) := by decide +kernel
theorem dJ7_fill_53178_3 : decode cJ7_fill_53178 3 = .ok (.arraylength, 1) := by decide +kernel
theorem dJ7_fill_53178_4 : decode cJ7_fill_53178 4 = .ok (.istore_n 3, 1) := by decide +kernel
theorem dJ7_fill_53178_5 : decode cJ7_fill_53178 5 = .ok (.iload_n 2, 1) := by decide +kernel
theorem dJ7_fill_53178_6 : decode cJ7_fill_53178 6 = .ok (.iload_n 3, 1) := by decide +kernel
theorem dJ7_fill_53178_7 : decode cJ7_fill_53178 7 = .ok (.if_icmp .ge 13, 3) := by decide +kernel
theorem dJ7_fill_53178_10 : decode cJ7_fill_53178 10 = .ok (.aload_n 0, 1) := by decide +kernel
theorem dJ7_fill_53178_11 : decode cJ7_fill_53178 11 = .ok (.iload_n 2, 1) := by decide +kernel
theorem dJ7_fill_53178_12 : decode cJ7_fill_53178 12 = .ok (.iload_n 1, 1) := by decide +kernel
theorem dJ7_fill_53178_13 : decode cJ7_fill_53178 13 = .ok (.iastore, 1) := by decide +kernel
theorem dJ7_fill_53178_14 : decode cJ7_fill_53178 14 = .ok (.iinc 2 1, 3) := by decide +kernel
theorem dJ7_fill_53178_17 : decode cJ7_fill_53178 17 = .ok (.goto (-12), 3) := by decide +kernel
theorem dJ7_fill_53178_20 : decode cJ7_fill_53178 20 = .ok (.return_, 1) := by decide +kernel
end
section
theorem dX4_init_0 : decode cX4_init 0 = .ok (.aload_n 0, 1) := by decide +kernel
theorem dX4_init_1 : decode cX4_init 1 = .ok (.invokespecial 1, 3) := by decide +kernel
theorem dX4_init_4 : decode cX4_init 4 = .ok (.aload_n 0, 1) := by decide +kernel
theorem dX4_init_5 : decode cX4_init 5 = .ok (.bipush 8, 2) := by decide +kernel
theorem dX4_init_7 : decode cX4_init 7 = .ok (.newarray .int, 2) := by decide +kernel
theorem dX4_init_9 : decode cX4_init 9 = .ok (.putfield 7, 3) := by decide +kernel
theorem dX4_init_12 : decode cX4_init 12 = .ok (.aload_n 0, 1) := by decide +kernel
theorem dX4_init_13 : decode cX4_init 13 = .ok (.bipush 8, 2) := by decide +kernel
theorem dX4_init_15 : decode cX4_init 15 = .ok (.newarray .int, 2) := by decide +kernel
theorem dX4_init_17 : decode cX4_init 17 = .ok (.putfield 13, 3) := by decide +kernel
theorem dX4_init_20 : decode cX4_init 20 = .ok (.aload_n 0, 1) := by decide +kernel
theorem dX4_init_21 : decode cX4_init 21 = .ok (.bipush 8, 2) := by decide +kernel
theorem dX4_init_23 : decode cX4_init 23 = .ok (.newarray .int, 2) := by decide +kernel
theorem dX4_init_25 : decode cX4_init 25 = .ok (.putfield 16, 3) := by decide +kernel
theorem dX4_init_28 : decode cX4_init 28 = .ok (.aload_n 0, 1) := by decide +kernel
theorem dX4_init_29 : decode cX4_init 29 = .ok (.bipush 8, 2) := by decide +kernel
theorem dX4_init_31 : decode cX4_init 31 = .ok (.newarray .long, 2) := by decide +kernel
theorem dX4_init_33 : decode cX4_init 33 = .ok (.putfield 19, 3) := by decide +kernel
theorem dX4_init_36 : decode cX4_init 36 = .ok (.aload_n 0, 1) := by decide +kernel
theorem dX4_init_37 : decode cX4_init 37 = .ok (.sipush 512, 3) := by decide +kernel
theorem dX4_init_40 : decode cX4_init 40 = .ok (.newarray .boolean, 2) := by decide +kernel
theorem dX4_init_42 : decode cX4_init 42 = .ok (.putfield 23, 3) := by decide +kernel
theorem dX4_init_45 : decode cX4_init 45 = .ok (.aload_n 0, 1) := by decide +kernel
theorem dX4_init_46 : decode cX4_init 46 = .ok (.sipush 512, 3) := by decide +kernel
theorem dX4_init_49 : decode cX4_init 49 = .ok (.newarray .long, 2) := by decide +kernel
theorem dX4_init_51 : decode cX4_init 51 = .ok (.putfield 27, 3) := by decide +kernel
theorem dX4_init_54 : decode cX4_init 54 = .ok (.aload_n 0, 1) := by decide +kernel
theorem dX4_init_55 : decode cX4_init 55 = .ok (.sipush 512, 3) := by decide +kernel
theorem dX4_init_58 : decode cX4_init 58 = .ok (.newarray .int, 2) := by decide +kernel
theorem dX4_init_60 : decode cX4_init 60 = .ok (.putfield 30, 3) := by decide +kernel
theorem dX4_init_63 : decode cX4_init 63 = .ok (.aload_n 0, 1) := by decide +kernel
theorem dX4_init_64 : decode cX4_init 64 = .ok (.sipush 512, 3) := by decide +kernel
theorem dX4_init_67 : decode cX4_init 67 = .ok (.newarray .int, 2) := by decide +kernel
theorem dX4_init_69 : decode cX4_init 69 = .ok (.putfield 33, 3) := by decide +kernel
theorem dX4_init_72 : decode cX4_init 72 = .ok (.aload_n 0, 1) := by decide +kernel
theorem dX4_init_73 : decode cX4_init 73 = .ok (.sipush 4096, 3) := by decide +kernel
theorem dX4_init_76 : decode cX4_init 76 = .ok (.newarray .long, 2) := by decide +kernel
theorem dX4_init_78 : decode cX4_init 78 = .ok (.putfield 36, 3) := by decide +kernel
theorem dX4_init_81 : decode cX4_init 81 = .ok (.aload_n 0, 1) := by decide +kernel
theorem dX4_init_82 : decode cX4_init 82 = .ok (.bipush 16, 2) := by decide +kernel
theorem dX4_init_84 : decode cX4_init 84 = .ok (.newarray .int, 2) := by decide +kernel
theorem dX4_init_86 : decode cX4_init 86 = .ok (.putfield 39, 3) := by decide +kernel
theorem dX4_init_89 : decode cX4_init 89 = .ok (.aload_n 0, 1) := by decide +kernel
theorem dX4_init_90 : decode cX4_init 90 = .ok (.bipush 64, 2) := by decide +kernel
theorem dX4_init_92 : decode cX4_init 92 = .ok (.newarray .int, 2) := by decide +kernel
theorem dX4_init_94 : decode cX4_init 94 = .ok (.putfield 42, 3) := by decide +kernel
theorem dX4_init_97 : decode cX4_init 97 = .ok (.aload_n 0, 1) := by decide +kernel
theorem dX4_init_98 : decode cX4_init 98 = .ok (.bipush 64, 2) := by decide +kernel
theorem dX4_init_100 : decode cX4_init 100 = .ok (.newarray .int, 2) := by decide +kernel
theorem dX4_init_102 : decode cX4_init 102 = .ok (.putfield 45, 3) := by decide +kernel
theorem dX4_init_105 : decode cX4_init 105 = .ok (.aload_n 0, 1) := by decide +kernel
theorem dX4_init_106 : decode cX4_init 106 = .ok (.bipush 16, 2) := by decide +kernel
theorem dX4_init_108 : decode cX4_init 108 = .ok (.newarray .int, 2) := by decide +kernel
theorem dX4_init_110 : decode cX4_init 110 = .ok (.putfield 48, 3) := by decide +kernel
theorem dX4_init_113 : decode cX4_init 113 = .ok (.aload_n 0, 1) := by decide +kernel
theorem dX4_init_114 : decode cX4_init 114 = .ok (.bipush 64, 2) := by decide +kernel
theorem dX4_init_116 : decode cX4_init 116 = .ok (.newarray .int, 2) := by decide +kernel
theorem dX4_init_118 : decode cX4_init 118 = .ok (.putfield 51, 3) := by decide +kernel
theorem dX4_init_121 : decode cX4_init 121 = .ok (.aload_n 0, 1) := by decide +kernel
theorem dX4_init_122 : decode cX4_init 122 = .ok (.bipush 16, 2) := by decide +kernel
theorem dX4_init_124 : decode cX4_init 124 = .ok (.newarray .int, 2) := by decide +kernel
theorem dX4_init_126 : decode cX4_init 126 = .ok (.putfield 54, 3) := by decide +kernel
theorem dX4_init_129 : decode cX4_init 129 = .ok (.aload_n 0, 1) := by decide +kernel
theorem dX4_init_130 : decode cX4_init 130 = .ok (.bipush 16, 2) := by decide +kernel
theorem dX4_init_132 : decode cX4_init 132 = .ok (.newarray .int, 2) := by decide +kernel
theorem dX4_init_134 : decode cX4_init 134 = .ok (.putfield 57, 3) := by decide +kernel
theorem dX4_init_137 : decode cX4_init 137 = .ok (.aload_n 0, 1) := by decide +kernel
theorem dX4_init_138 : decode cX4_init 138 = .ok (.bipush 16, 2) := by decide +kernel
theorem dX4_init_140 : decode cX4_init 140 = .ok (.newarray .int, 2) := by decide +kernel
theorem dX4_init_142 : decode cX4_init 142 = .ok (.putfield 60, 3) := by decide +kernel
theorem dX4_init_145 : decode cX4_init 145 = .ok (.aload_n 0, 1) := by decide +kernel
theorem dX4_init_146 : decode cX4_init 146 = .ok (.bipush 16, 2) := by decide +kernel
theorem dX4_init_148 : decode cX4_init 148 = .ok (.newarray .int, 2) := by decide +kernel
theorem dX4_init_150 : decode cX4_init 150 = .ok (.putfield 63, 3) := by decide +kernel
theorem dX4_init_153 : decode cX4_init 153 = .ok (.aload_n 0, 1) := by decide +kernel
theorem dX4_init_154 : decode cX4_init 154 = .ok (.bipush 16, 2) := by decide +kernel
theorem dX4_init_156 : decode cX4_init 156 = .ok (.newarray .int, 2) := by decide +kernel
theorem dX4_init_158 : decode cX4_init 158 = .ok (.putfield 66, 3) := by decide +kernel
theorem dX4_init_161 : decode cX4_init 161 = .ok (.aload_n 0, 1) := by decide +kernel
theorem dX4_init_162 : decode cX4_init 162 = .ok (.bipush 16, 2) := by decide +kernel
theorem dX4_init_164 : decode cX4_init 164 = .ok (.newarray .int, 2) := by decide +kernel
theorem dX4_init_166 : decode cX4_init 166 = .ok (.putfield 69, 3) := by decide +kernel
theorem dX4_init_169 : decode cX4_init 169 = .ok (.aload_n 0, 1) := by decide +kernel
theorem dX4_init_170 : decode cX4_init 170 = .ok (.bipush 16, 2) := by decide +kernel
theorem dX4_init_172 : decode cX4_init 172 = .ok (.newarray .int, 2) := by decide +kernel
theorem dX4_init_174 : decode cX4_init 174 = .ok (.putfield 72, 3) := by decide +kernel
theorem dX4_init_177 : decode cX4_init 177 = .ok (.aload_n 0, 1) := by decide +kernel
theorem dX4_init_178 : decode cX4_init 178 = .ok (.bipush 16, 2) := by decide +kernel
theorem dX4_init_180 : decode cX4_init 180 = .ok (.newarray .int, 2) := by decide +kernel
theorem dX4_init_182 : decode cX4_init 182 = .ok (.putfield 75, 3) := by decide +kernel
theorem dX4_init_185 : decode cX4_init 185 = .ok (.aload_n 0, 1) := by decide +kernel
theorem dX4_init_186 : decode cX4_init 186 = .ok (.bipush 16, 2) := by decide +kernel
theorem dX4_init_188 : decode cX4_init 188 = .ok (.newarray .long, 2) := by decide +kernel
theorem dX4_init_190 : decode cX4_init 190 = .ok (.putfield 78, 3) := by decide +kernel
theorem dX4_init_193 : decode cX4_init 193 = .ok (.aload_n 0, 1) := by decide +kernel
theorem dX4_init_194 : decode cX4_init 194 = .ok (.bipush 16, 2) := by decide +kernel
theorem dX4_init_196 : decode cX4_init 196 = .ok (.newarray .int, 2) := by decide +kernel
theorem dX4_init_198 : decode cX4_init 198 = .ok (.putfield 81, 3) := by decide +kernel
theorem dX4_init_201 : decode cX4_init 201 = .ok (.aload_n 0, 1) := by decide +kernel
theorem dX4_init_202 : decode cX4_init 202 = .ok (.bipush 16, 2) := by decide +kernel
theorem dX4_init_204 : decode cX4_init 204 = .ok (.newarray .int, 2) := by decide +kernel
theorem dX4_init_206 : decode cX4_init 206 = .ok (.putfield 84, 3) := by decide +kernel
theorem dX4_init_209 : decode cX4_init 209 = .ok (.aload_n 0, 1) := by decide +kernel
theorem dX4_init_210 : decode cX4_init 210 = .ok (.sipush 128, 3) := by decide +kernel
theorem dX4_init_213 : decode cX4_init 213 = .ok (.newarray .long, 2) := by decide +kernel
theorem dX4_init_215 : decode cX4_init 215 = .ok (.putfield 87, 3) := by decide +kernel
theorem dX4_init_218 : decode cX4_init 218 = .ok (.aload_n 0, 1) := by decide +kernel
theorem dX4_init_219 : decode cX4_init 219 = .ok (.bipush 16, 2) := by decide +kernel
theorem dX4_init_221 : decode cX4_init 221 = .ok (.newarray .int, 2) := by decide +kernel
theorem dX4_init_223 : decode cX4_init 223 = .ok (.putfield 90, 3) := by decide +kernel
theorem dX4_init_226 : decode cX4_init 226 = .ok (.aload_n 0, 1) := by decide +kernel
theorem dX4_init_227 : decode cX4_init 227 = .ok (.sipush 512, 3) := by decide +kernel
theorem dX4_init_230 : decode cX4_init 230 = .ok (.newarray .int, 2) := by decide +kernel
theorem dX4_init_232 : decode cX4_init 232 = .ok (.putfield 93, 3) := by decide +kernel
theorem dX4_init_235 : decode cX4_init 235 = .ok (.aload_n 0, 1) := by decide +kernel
theorem dX4_init_236 : decode cX4_init 236 = .ok (.sipush 512, 3) := by decide +kernel
theorem dX4_init_239 : decode cX4_init 239 = .ok (.newarray .long, 2) := by decide +kernel
theorem dX4_init_241 : decode cX4_init 241 = .ok (.putfield 96, 3) := by decide +kernel
theorem dX4_init_244 : decode cX4_init 244 = .ok (.aload_n 0, 1) := by decide +kernel
theorem dX4_init_245 : decode cX4_init 245 = .ok (.sipush 512, 3) := by decide +kernel
theorem dX4_init_248 : decode cX4_init 248 = .ok (.newarray .int, 2) := by decide +kernel
theorem dX4_init_250 : decode cX4_init 250 = .ok (.putfield 99, 3) := by decide +kernel
theorem dX4_init_253 : decode cX4_init 253 = .ok (.aload_n 0, 1) := by decide +kernel
theorem dX4_init_254 : decode cX4_init 254 = .ok (.sipush 512, 3) := by decide +kernel
theorem dX4_init_257 : decode cX4_init 257 = .ok (.newarray .int, 2) := by decide +kernel
theorem dX4_init_259 : decode cX4_init 259 = .ok (.putfield 102, 3) := by decide +kernel
theorem dX4_init_262 : decode cX4_init 262 = .ok (.aload_n 0, 1) := by decide +kernel
theorem dX4_init_263 : decode cX4_init 263 = .ok (.sipush 4096, 3) := by decide +kernel
theorem dX4_init_266 : decode cX4_init 266 = .ok (.newarray .long, 2) := by decide +kernel
theorem dX4_init_268 : decode cX4_init 268 = .ok (.putfield 105, 3) := by decide +kernel
theorem dX4_init_271 : decode cX4_init 271 = .ok (.aload_n 0, 1) := by decide +kernel
theorem dX4_init_272 : decode cX4_init 272 = .ok (.iconst (-1), 1) := by decide +kernel
theorem dX4_init_273 : decode cX4_init 273 = .ok (.putfield 108, 3) := by decide +kernel
theorem dX4_init_276 : decode cX4_init 276 = .ok (.aload_n 0, 1) := by decide +kernel
theorem dX4_init_277 : decode cX4_init 277 = .ok (.bipush 7, 2) := by decide +kernel
theorem dX4_init_279 : decode cX4_init 279 = .ok (.newarray .int, 2) := by decide +kernel
theorem dX4_init_281 : decode cX4_init 281 = .ok (.putfield 112, 3) := by decide +kernel
theorem dX4_init_284 : decode cX4_init 284 = .ok (.aload_n 0, 1) := by decide +kernel
theorem dX4_init_285 : decode cX4_init 285 = .ok (.bipush 20, 2) := by decide +kernel
theorem dX4_init_287 : decode cX4_init 287 = .ok (.newarray .int, 2) := by decide +kernel
theorem dX4_init_289 : decode cX4_init 289 = .ok (.putfield 115, 3) := by decide +kernel
theorem dX4_init_292 : decode cX4_init 292 = .ok (.aload_n 0, 1) := by decide +kernel
theorem dX4_init_293 : decode cX4_init 293 = .ok (.bipush 16, 2) := by decide +kernel
theorem dX4_init_295 : decode cX4_init 295 = .ok (.newarray .boolean, 2) := by decide +kernel
theorem dX4_init_297 : decode cX4_init 297 = .ok (.putfield 118, 3) := by decide +kernel
theorem dX4_init_300 : decode cX4_init 300 = .ok (.return_, 1) := by decide +kernel
theorem dX4_find_0 : decode cX4_find 0 = .ok (.aload_n 0, 1) := by decide +kernel
theorem dX4_find_1 : decode cX4_find 1 = .ok (.getfield 112, 3) := by decide +kernel
theorem dX4_find_4 : decode cX4_find 4 = .ok (.iconst 0, 1) := by decide +kernel
theorem dX4_find_5 : decode cX4_find 5 = .ok (.iload_n 1, 1) := by decide +kernel
theorem dX4_find_6 : decode cX4_find 6 = .ok (.iastore, 1) := by decide +kernel
theorem dX4_find_7 : decode cX4_find 7 = .ok (.aload_n 0, 1) := by decide +kernel
theorem dX4_find_8 : decode cX4_find 8 = .ok (.getfield 112, 3) := by decide +kernel
theorem dX4_find_11 : decode cX4_find 11 = .ok (.iload_n 1, 1) := by decide +kernel
theorem dX4_find_12 : decode cX4_find 12 = .ok (.dup2, 1) := by decide +kernel
theorem dX4_find_13 : decode cX4_find 13 = .ok (.iaload, 1) := by decide +kernel
theorem dX4_find_14 : decode cX4_find 14 = .ok (.iconst 1, 1) := by decide +kernel
theorem dX4_find_15 : decode cX4_find 15 = .ok (.iadd, 1) := by decide +kernel
theorem dX4_find_16 : decode cX4_find 16 = .ok (.iastore, 1) := by decide +kernel
theorem dX4_find_17 : decode cX4_find 17 = .ok (.bipush (-12), 2) := by decide +kernel
theorem dX4_find_19 : decode cX4_find 19 = .ok (.ireturn, 1) := by decide +kernel
theorem dX4_isRing_0 : decode cX4_isRing 0 = .ok (.iload_n 1, 1) := by decide +kernel
theorem dX4_isRing_1 : decode cX4_isRing 1 = .ok (.ifCond .lt 15, 3) := by decide +kernel
theorem dX4_isRing_4 : decode cX4_isRing 4 = .ok (.iload_n 1, 1) := by decide +kernel
theorem dX4_isRing_5 : decode cX4_isRing 5 = .ok (.aload_n 0, 1) := by decide +kernel
theorem dX4_isRing_6 : decode cX4_isRing 6 = .ok (.getfield 121, 3) := by decide +kernel
theorem dX4_isRing_9 : decode cX4_isRing 9 = .ok (.if_icmp .ge 7, 3) := by decide +kernel
theorem dX4_isRing_12 : decode cX4_isRing 12 = .ok (.iconst 1, 1) := by decide +kernel
theorem dX4_isRing_13 : decode cX4_isRing 13 = .ok (.goto 4, 3) := by decide +kernel
theorem dX4_isRing_16 : decode cX4_isRing 16 = .ok (.iconst 0, 1) := by decide +kernel
theorem dX4_isRing_17 : decode cX4_isRing 17 = .ok (.ireturn, 1) := by decide +kernel
theorem dX4_isReader_0 : decode cX4_isReader 0 = .ok (.iload_n 1, 1) := by decide +kernel
theorem dX4_isReader_1 : decode cX4_isReader 1 = .ok (.ifCond .lt 15, 3) := by decide +kernel
theorem dX4_isReader_4 : decode cX4_isReader 4 = .ok (.iload_n 1, 1) := by decide +kernel
theorem dX4_isReader_5 : decode cX4_isReader 5 = .ok (.aload_n 0, 1) := by decide +kernel
theorem dX4_isReader_6 : decode cX4_isReader 6 = .ok (.getfield 124, 3) := by decide +kernel
theorem dX4_isReader_9 : decode cX4_isReader 9 = .ok (.if_icmp .ge 7, 3) := by decide +kernel
theorem dX4_isReader_12 : decode cX4_isReader 12 = .ok (.iconst 1, 1) := by decide +kernel
theorem dX4_isReader_13 : decode cX4_isReader 13 = .ok (.goto 4, 3) := by decide +kernel
theorem dX4_isReader_16 : decode cX4_isReader 16 = .ok (.iconst 0, 1) := by decide +kernel
theorem dX4_isReader_17 : decode cX4_isReader 17 = .ok (.ireturn, 1) := by decide +kernel
theorem dX4_index_0 : decode cX4_index 0 = .ok (.iconst (-1), 1) := by decide +kernel
theorem dX4_index_1 : decode cX4_index 1 = .ok (.istore_n 3, 1) := by decide +kernel
theorem dX4_index_2 : decode cX4_index 2 = .ok (.aload_n 0, 1) := by decide +kernel
theorem dX4_index_3 : decode cX4_index 3 = .ok (.getfield 39, 3) := by decide +kernel
theorem dX4_index_6 : decode cX4_index 6 = .ok (.iload_n 1, 1) := by decide +kernel
theorem dX4_index_7 : decode cX4_index 7 = .ok (.iaload, 1) := by decide +kernel
theorem dX4_index_8 : decode cX4_index 8 = .ok (.iconst 1, 1) := by decide +kernel
theorem dX4_index_9 : decode cX4_index 9 = .ok (.if_icmp .eq 55, 3) := by decide +kernel
theorem dX4_index_12 : decode cX4_index 12 = .ok (.aload_n 0, 1) := by decide +kernel
theorem dX4_index_13 : decode cX4_index 13 = .ok (.getfield 39, 3) := by decide +kernel
theorem dX4_index_16 : decode cX4_index 16 = .ok (.iload_n 1, 1) := by decide +kernel
theorem dX4_index_17 : decode cX4_index 17 = .ok (.iaload, 1) := by decide +kernel
theorem dX4_index_18 : decode cX4_index 18 = .ok (.iconst 4, 1) := by decide +kernel
theorem dX4_index_19 : decode cX4_index 19 = .ok (.if_icmp .eq 45, 3) := by decide +kernel
theorem dX4_index_22 : decode cX4_index 22 = .ok (.iconst 0, 1) := by decide +kernel
theorem dX4_index_23 : decode cX4_index 23 = .ok (.istore 4, 2) := by decide +kernel
theorem dX4_index_25 : decode cX4_index 25 = .ok (.iload 4, 2) := by decide +kernel
theorem dX4_index_27 : decode cX4_index 27 = .ok (.aload_n 0, 1) := by decide +kernel
theorem dX4_index_28 : decode cX4_index 28 = .ok (.getfield 48, 3) := by decide +kernel
theorem dX4_index_31 : decode cX4_index 31 = .ok (.iload_n 1, 1) := by decide +kernel
theorem dX4_index_32 : decode cX4_index 32 = .ok (.iaload, 1) := by decide +kernel
theorem dX4_index_33 : decode cX4_index 33 = .ok (.if_icmp .ge 31, 3) := by decide +kernel
theorem dX4_index_36 : decode cX4_index 36 = .ok (.aload_n 0, 1) := by decide +kernel
theorem dX4_index_37 : decode cX4_index 37 = .ok (.getfield 42, 3) := by decide +kernel
theorem dX4_index_40 : decode cX4_index 40 = .ok (.iconst 4, 1) := by decide +kernel
theorem dX4_index_41 : decode cX4_index 41 = .ok (.iload_n 1, 1) := by decide +kernel
theorem dX4_index_42 : decode cX4_index 42 = .ok (.imul, 1) := by decide +kernel
theorem dX4_index_43 : decode cX4_index 43 = .ok (.iload 4, 2) := by decide +kernel
theorem dX4_index_45 : decode cX4_index 45 = .ok (.iadd, 1) := by decide +kernel
theorem dX4_index_46 : decode cX4_index 46 = .ok (.iaload, 1) := by decide +kernel
theorem dX4_index_47 : decode cX4_index 47 = .ok (.iload_n 2, 1) := by decide +kernel
theorem dX4_index_48 : decode cX4_index 48 = .ok (.if_icmp .ne 8, 3) := by decide +kernel
theorem dX4_index_51 : decode cX4_index 51 = .ok (.iload 4, 2) := by decide +kernel
theorem dX4_index_53 : decode cX4_index 53 = .ok (.goto 4, 3) := by decide +kernel
theorem dX4_index_56 : decode cX4_index 56 = .ok (.iload_n 3, 1) := by decide +kernel
theorem dX4_index_57 : decode cX4_index 57 = .ok (.istore_n 3, 1) := by decide +kernel
theorem dX4_index_58 : decode cX4_index 58 = .ok (.iinc 4 1, 3) := by decide +kernel
theorem dX4_index_61 : decode cX4_index 61 = .ok (.goto (-36), 3) := by decide +kernel
theorem dX4_index_64 : decode cX4_index 64 = .ok (.iload_n 3, 1) := by decide +kernel
theorem dX4_index_65 : decode cX4_index 65 = .ok (.ireturn, 1) := by decide +kernel
theorem dX4_placeIn_0 : decode cX4_placeIn 0 = .ok (.aload_n 0, 1) := by decide +kernel
theorem dX4_placeIn_1 : decode cX4_placeIn 1 = .ok (.iload_n 1, 1) := by decide +kernel
theorem dX4_placeIn_2 : decode cX4_placeIn 2 = .ok (.iload_n 2, 1) := by decide +kernel
theorem dX4_placeIn_3 : decode cX4_placeIn 3 = .ok (.invokevirtual 127, 3) := by decide +kernel
theorem dX4_placeIn_6 : decode cX4_placeIn 6 = .ok (.istore_n 3, 1) := by decide +kernel
theorem dX4_placeIn_7 : decode cX4_placeIn 7 = .ok (.iload_n 3, 1) := by decide +kernel
theorem dX4_placeIn_8 : decode cX4_placeIn 8 = .ok (.ifCond .ge 7, 3) := by decide +kernel
theorem dX4_placeIn_11 : decode cX4_placeIn 11 = .ok (.iconst (-1), 1) := by decide +kernel
theorem dX4_placeIn_12 : decode cX4_placeIn 12 = .ok (.goto 13, 3) := by decide +kernel
theorem dX4_placeIn_15 : decode cX4_placeIn 15 = .ok (.aload_n 0, 1) := by decide +kernel
theorem dX4_placeIn_16 : decode cX4_placeIn 16 = .ok (.getfield 45, 3) := by decide +kernel
theorem dX4_placeIn_19 : decode cX4_placeIn 19 = .ok (.iconst 4, 1) := by decide +kernel
theorem dX4_placeIn_20 : decode cX4_placeIn 20 = .ok (.iload_n 1, 1) := by decide +kernel
theorem dX4_placeIn_21 : decode cX4_placeIn 21 = .ok (.imul, 1) := by decide +kernel
theorem dX4_placeIn_22 : decode cX4_placeIn 22 = .ok (.iload_n 3, 1) := by decide +kernel
theorem dX4_placeIn_23 : decode cX4_placeIn 23 = .ok (.iadd, 1) := by decide +kernel
theorem dX4_placeIn_24 : decode cX4_placeIn 24 = .ok (.iaload, 1) := by decide +kernel
theorem dX4_placeIn_25 : decode cX4_placeIn 25 = .ok (.ireturn, 1) := by decide +kernel
theorem dX4_ring_0 : decode cX4_ring 0 = .ok (.iload_n 1, 1) := by decide +kernel
theorem dX4_ring_1 : decode cX4_ring 1 = .ok (.ifCond .ge 9, 3) := by decide +kernel
theorem dX4_ring_4 : decode cX4_ring 4 = .ok (.aload_n 0, 1) := by decide +kernel
theorem dX4_ring_5 : decode cX4_ring 5 = .ok (.iconst 3, 1) := by decide +kernel
theorem dX4_ring_6 : decode cX4_ring 6 = .ok (.invokevirtual 131, 3) := by decide +kernel
theorem dX4_ring_9 : decode cX4_ring 9 = .ok (.ireturn, 1) := by decide +kernel
theorem dX4_ring_10 : decode cX4_ring 10 = .ok (.iload_n 1, 1) := by decide +kernel
theorem dX4_ring_11 : decode cX4_ring 11 = .ok (.iconst 1, 1) := by decide +kernel
theorem dX4_ring_12 : decode cX4_ring 12 = .ok (.if_icmp .eq 39, 3) := by decide +kernel
theorem dX4_ring_15 : decode cX4_ring 15 = .ok (.iload_n 1, 1) := by decide +kernel
theorem dX4_ring_16 : decode cX4_ring 16 = .ok (.iconst 2, 1) := by decide +kernel
theorem dX4_ring_17 : decode cX4_ring 17 = .ok (.if_icmp .eq 34, 3) := by decide +kernel
theorem dX4_ring_20 : decode cX4_ring 20 = .ok (.iload_n 1, 1) := by decide +kernel
theorem dX4_ring_21 : decode cX4_ring 21 = .ok (.iconst 4, 1) := by decide +kernel
theorem dX4_ring_22 : decode cX4_ring 22 = .ok (.if_icmp .eq 29, 3) := by decide +kernel
theorem dX4_ring_25 : decode cX4_ring 25 = .ok (.iload_n 1, 1) := by decide +kernel
theorem dX4_ring_26 : decode cX4_ring 26 = .ok (.bipush 8, 2) := by decide +kernel
theorem dX4_ring_28 : decode cX4_ring 28 = .ok (.if_icmp .eq 23, 3) := by decide +kernel
theorem dX4_ring_31 : decode cX4_ring 31 = .ok (.iload_n 1, 1) := by decide +kernel
theorem dX4_ring_32 : decode cX4_ring 32 = .ok (.bipush 16, 2) := by decide +kernel
theorem dX4_ring_34 : decode cX4_ring 34 = .ok (.if_icmp .eq 17, 3) := by decide +kernel
theorem dX4_ring_37 : decode cX4_ring 37 = .ok (.iload_n 1, 1) := by decide +kernel
theorem dX4_ring_38 : decode cX4_ring 38 = .ok (.bipush 32, 2) := by decide +kernel
theorem dX4_ring_40 : decode cX4_ring 40 = .ok (.if_icmp .eq 11, 3) := by decide +kernel
theorem dX4_ring_43 : decode cX4_ring 43 = .ok (.iload_n 1, 1) := by decide +kernel
theorem dX4_ring_44 : decode cX4_ring 44 = .ok (.bipush 64, 2) := by decide +kernel
theorem dX4_ring_46 : decode cX4_ring 46 = .ok (.if_icmp .eq 5, 3) := by decide +kernel
theorem dX4_ring_49 : decode cX4_ring 49 = .ok (.iconst (-1), 1) := by decide +kernel
theorem dX4_ring_50 : decode cX4_ring 50 = .ok (.ireturn, 1) := by decide +kernel
theorem dX4_ring_51 : decode cX4_ring 51 = .ok (.aload_n 0, 1) := by decide +kernel
theorem dX4_ring_52 : decode cX4_ring 52 = .ok (.getfield 135, 3) := by decide +kernel
theorem dX4_ring_55 : decode cX4_ring 55 = .ok (.ifCond .eq 6, 3) := by decide +kernel
theorem dX4_ring_58 : decode cX4_ring 58 = .ok (.bipush (-2), 2) := by decide +kernel
theorem dX4_ring_60 : decode cX4_ring 60 = .ok (.ireturn, 1) := by decide +kernel
theorem dX4_ring_61 : decode cX4_ring 61 = .ok (.aload_n 0, 1) := by decide +kernel
theorem dX4_ring_62 : decode cX4_ring 62 = .ok (.getfield 121, 3) := by decide +kernel
theorem dX4_ring_65 : decode cX4_ring 65 = .ok (.bipush 8, 2) := by decide +kernel
theorem dX4_ring_67 : decode cX4_ring 67 = .ok (.if_icmp .ne 6, 3) := by decide +kernel
theorem dX4_ring_70 : decode cX4_ring 70 = .ok (.bipush (-4), 2) := by decide +kernel
theorem dX4_ring_72 : decode cX4_ring 72 = .ok (.ireturn, 1) := by decide +kernel
theorem dX4_ring_73 : decode cX4_ring 73 = .ok (.aload_n 0, 1) := by decide +kernel
theorem dX4_ring_74 : decode cX4_ring 74 = .ok (.getfield 7, 3) := by decide +kernel
theorem dX4_ring_77 : decode cX4_ring 77 = .ok (.aload_n 0, 1) := by decide +kernel
theorem dX4_ring_78 : decode cX4_ring 78 = .ok (.getfield 121, 3) := by decide +kernel
theorem dX4_ring_81 : decode cX4_ring 81 = .ok (.iload_n 1, 1) := by decide +kernel
theorem dX4_ring_82 : decode cX4_ring 82 = .ok (.iastore, 1) := by decide +kernel
theorem dX4_ring_83 : decode cX4_ring 83 = .ok (.aload_n 0, 1) := by decide +kernel
theorem dX4_ring_84 : decode cX4_ring 84 = .ok (.dup, 1) := by decide +kernel
theorem dX4_ring_85 : decode cX4_ring 85 = .ok (.getfield 139, 3) := by decide +kernel
theorem dX4_ring_88 : decode cX4_ring 88 = .ok (.iconst 1, 1) := by decide +kernel
theorem dX4_ring_89 : decode cX4_ring 89 = .ok (.iload_n 1, 1) := by decide +kernel
theorem dX4_ring_90 : decode cX4_ring 90 = .ok (.iadd, 1) := by decide +kernel
theorem dX4_ring_91 : decode cX4_ring 91 = .ok (.iadd, 1) := by decide +kernel
theorem dX4_ring_92 : decode cX4_ring 92 = .ok (.putfield 139, 3) := by decide +kernel
theorem dX4_ring_95 : decode cX4_ring 95 = .ok (.aload_n 0, 1) := by decide +kernel
theorem dX4_ring_96 : decode cX4_ring 96 = .ok (.dup, 1) := by decide +kernel
theorem dX4_ring_97 : decode cX4_ring 97 = .ok (.getfield 121, 3) := by decide +kernel
theorem dX4_ring_100 : decode cX4_ring 100 = .ok (.iconst 1, 1) := by decide +kernel
theorem dX4_ring_101 : decode cX4_ring 101 = .ok (.iadd, 1) := by decide +kernel
theorem dX4_ring_102 : decode cX4_ring 102 = .ok (.putfield 121, 3) := by decide +kernel
theorem dX4_ring_105 : decode cX4_ring 105 = .ok (.aload_n 0, 1) := by decide +kernel
theorem dX4_ring_106 : decode cX4_ring 106 = .ok (.getfield 121, 3) := by decide +kernel
theorem dX4_ring_109 : decode cX4_ring 109 = .ok (.iconst 1, 1) := by decide +kernel
theorem dX4_ring_110 : decode cX4_ring 110 = .ok (.isub, 1) := by decide +kernel
theorem dX4_ring_111 : decode cX4_ring 111 = .ok (.ireturn, 1) := by decide +kernel
theorem dX4_isNumbered_0 : decode cX4_isNumbered 0 = .ok (.iload_n 1, 1) := by decide +kernel
theorem dX4_isNumbered_1 : decode cX4_isNumbered 1 = .ok (.iconst 1, 1) := by decide +kernel
theorem dX4_isNumbered_2 : decode cX4_isNumbered 2 = .ok (.if_icmp .lt 17, 3) := by decide +kernel
theorem dX4_isNumbered_5 : decode cX4_isNumbered 5 = .ok (.iload_n 1, 1) := by decide +kernel
theorem dX4_isNumbered_6 : decode cX4_isNumbered 6 = .ok (.bipush 7, 2) := by decide +kernel
theorem dX4_isNumbered_8 : decode cX4_isNumbered 8 = .ok (.if_icmp .gt 11, 3) := by decide +kernel
theorem dX4_isNumbered_11 : decode cX4_isNumbered 11 = .ok (.aload_n 0, 1) := by decide +kernel
theorem dX4_isNumbered_12 : decode cX4_isNumbered 12 = .ok (.iload_n 2, 1) := by decide +kernel
theorem dX4_isNumbered_13 : decode cX4_isNumbered 13 = .ok (.invokevirtual 142, 3) := by decide +kernel
theorem dX4_isNumbered_16 : decode cX4_isNumbered 16 = .ok (.ifCond .ne 5, 3) := by decide +kernel
theorem dX4_isNumbered_19 : decode cX4_isNumbered 19 = .ok (.iconst 0, 1) := by decide +kernel
theorem dX4_isNumbered_20 : decode cX4_isNumbered 20 = .ok (.ireturn, 1) := by decide +kernel
theorem dX4_isNumbered_21 : decode cX4_isNumbered 21 = .ok (.iload_n 1, 1) := by decide +kernel
theorem dX4_isNumbered_22 : decode cX4_isNumbered 22 = .ok (.iconst 5, 1) := by decide +kernel
theorem dX4_isNumbered_23 : decode cX4_isNumbered 23 = .ok (.if_icmp .eq 9, 3) := by decide +kernel
theorem dX4_isNumbered_26 : decode cX4_isNumbered 26 = .ok (.iload_n 1, 1) := by decide +kernel
theorem dX4_isNumbered_27 : decode cX4_isNumbered 27 = .ok (.bipush 7, 2) := by decide +kernel
theorem dX4_isNumbered_29 : decode cX4_isNumbered 29 = .ok (.if_icmp .ne 22, 3) := by decide +kernel
theorem dX4_isNumbered_32 : decode cX4_isNumbered 32 = .ok (.aload_n 0, 1) := by decide +kernel
theorem dX4_isNumbered_33 : decode cX4_isNumbered 33 = .ok (.iload_n 3, 1) := by decide +kernel
theorem dX4_isNumbered_34 : decode cX4_isNumbered 34 = .ok (.invokevirtual 142, 3) := by decide +kernel
theorem dX4_isNumbered_37 : decode cX4_isNumbered 37 = .ok (.ifCond .eq 12, 3) := by decide +kernel
theorem dX4_isNumbered_40 : decode cX4_isNumbered 40 = .ok (.iload_n 3, 1) := by decide +kernel
theorem dX4_isNumbered_41 : decode cX4_isNumbered 41 = .ok (.iload_n 2, 1) := by decide +kernel
theorem dX4_isNumbered_42 : decode cX4_isNumbered 42 = .ok (.if_icmp .eq 7, 3) := by decide +kernel
theorem dX4_isNumbered_45 : decode cX4_isNumbered 45 = .ok (.iconst 1, 1) := by decide +kernel
theorem dX4_isNumbered_46 : decode cX4_isNumbered 46 = .ok (.goto 4, 3) := by decide +kernel
theorem dX4_isNumbered_49 : decode cX4_isNumbered 49 = .ok (.iconst 0, 1) := by decide +kernel
theorem dX4_isNumbered_50 : decode cX4_isNumbered 50 = .ok (.ireturn, 1) := by decide +kernel
theorem dX4_isNumbered_51 : decode cX4_isNumbered 51 = .ok (.iload_n 1, 1) := by decide +kernel
theorem dX4_isNumbered_52 : decode cX4_isNumbered 52 = .ok (.bipush 6, 2) := by decide +kernel
theorem dX4_isNumbered_54 : decode cX4_isNumbered 54 = .ok (.if_icmp .ne 11, 3) := by decide +kernel
theorem dX4_isNumbered_57 : decode cX4_isNumbered 57 = .ok (.aload_n 0, 1) := by decide +kernel
theorem dX4_isNumbered_58 : decode cX4_isNumbered 58 = .ok (.iload_n 3, 1) := by decide +kernel
theorem dX4_isNumbered_59 : decode cX4_isNumbered 59 = .ok (.invokevirtual 146, 3) := by decide +kernel
theorem dX4_isNumbered_62 : decode cX4_isNumbered 62 = .ok (.ifCond .eq 7, 3) := by decide +kernel
theorem dX4_isNumbered_65 : decode cX4_isNumbered 65 = .ok (.iconst 1, 1) := by decide +kernel
theorem dX4_isNumbered_66 : decode cX4_isNumbered 66 = .ok (.goto 4, 3) := by decide +kernel
theorem dX4_isNumbered_69 : decode cX4_isNumbered 69 = .ok (.iconst 0, 1) := by decide +kernel
theorem dX4_isNumbered_70 : decode cX4_isNumbered 70 = .ok (.ireturn, 1) := by decide +kernel
theorem dX4_reader_0 : decode cX4_reader 0 = .ok (.aload_n 0, 1) := by decide +kernel
theorem dX4_reader_1 : decode cX4_reader 1 = .ok (.iload_n 1, 1) := by decide +kernel
theorem dX4_reader_2 : decode cX4_reader 2 = .ok (.iload_n 2, 1) := by decide +kernel
theorem dX4_reader_3 : decode cX4_reader 3 = .ok (.iload_n 3, 1) := by decide +kernel
theorem dX4_reader_4 : decode cX4_reader 4 = .ok (.invokevirtual 149, 3) := by decide +kernel
theorem dX4_reader_7 : decode cX4_reader 7 = .ok (.ifCond .ne 5, 3) := by decide +kernel
theorem dX4_reader_10 : decode cX4_reader 10 = .ok (.iconst (-1), 1) := by decide +kernel
theorem dX4_reader_11 : decode cX4_reader 11 = .ok (.ireturn, 1) := by decide +kernel
theorem dX4_reader_12 : decode cX4_reader 12 = .ok (.aload_n 0, 1) := by decide +kernel
theorem dX4_reader_13 : decode cX4_reader 13 = .ok (.getfield 135, 3) := by decide +kernel
theorem dX4_reader_16 : decode cX4_reader 16 = .ok (.ifCond .eq 6, 3) := by decide +kernel
theorem dX4_reader_19 : decode cX4_reader 19 = .ok (.bipush (-2), 2) := by decide +kernel
theorem dX4_reader_21 : decode cX4_reader 21 = .ok (.ireturn, 1) := by decide +kernel
theorem dX4_reader_22 : decode cX4_reader 22 = .ok (.iload_n 1, 1) := by decide +kernel
theorem dX4_reader_23 : decode cX4_reader 23 = .ok (.bipush 6, 2) := by decide +kernel
theorem dX4_reader_25 : decode cX4_reader 25 = .ok (.if_icmp .ne 15, 3) := by decide +kernel
theorem dX4_reader_28 : decode cX4_reader 28 = .ok (.aload_n 0, 1) := by decide +kernel
theorem dX4_reader_29 : decode cX4_reader 29 = .ok (.iload_n 3, 1) := by decide +kernel
theorem dX4_reader_30 : decode cX4_reader 30 = .ok (.iload_n 2, 1) := by decide +kernel
theorem dX4_reader_31 : decode cX4_reader 31 = .ok (.invokevirtual 127, 3) := by decide +kernel
theorem dX4_reader_34 : decode cX4_reader 34 = .ok (.ifCond .ge 6, 3) := by decide +kernel
theorem dX4_reader_37 : decode cX4_reader 37 = .ok (.bipush (-3), 2) := by decide +kernel
theorem dX4_reader_39 : decode cX4_reader 39 = .ok (.ireturn, 1) := by decide +kernel
theorem dX4_reader_40 : decode cX4_reader 40 = .ok (.aload_n 0, 1) := by decide +kernel
theorem dX4_reader_41 : decode cX4_reader 41 = .ok (.getfield 124, 3) := by decide +kernel
theorem dX4_reader_44 : decode cX4_reader 44 = .ok (.bipush 16, 2) := by decide +kernel
theorem dX4_reader_46 : decode cX4_reader 46 = .ok (.if_icmp .ne 6, 3) := by decide +kernel
theorem dX4_reader_49 : decode cX4_reader 49 = .ok (.bipush (-4), 2) := by decide +kernel
theorem dX4_reader_51 : decode cX4_reader 51 = .ok (.ireturn, 1) := by decide +kernel
theorem dX4_reader_52 : decode cX4_reader 52 = .ok (.aload_n 0, 1) := by decide +kernel
theorem dX4_reader_53 : decode cX4_reader 53 = .ok (.getfield 124, 3) := by decide +kernel
theorem dX4_reader_56 : decode cX4_reader 56 = .ok (.istore 4, 2) := by decide +kernel
theorem dX4_reader_58 : decode cX4_reader 58 = .ok (.aload_n 0, 1) := by decide +kernel
theorem dX4_reader_59 : decode cX4_reader 59 = .ok (.dup, 1) := by decide +kernel
theorem dX4_reader_60 : decode cX4_reader 60 = .ok (.getfield 124, 3) := by decide +kernel
theorem dX4_reader_63 : decode cX4_reader 63 = .ok (.iconst 1, 1) := by decide +kernel
theorem dX4_reader_64 : decode cX4_reader 64 = .ok (.iadd, 1) := by decide +kernel
theorem dX4_reader_65 : decode cX4_reader 65 = .ok (.putfield 124, 3) := by decide +kernel
theorem dX4_reader_68 : decode cX4_reader 68 = .ok (.aload_n 0, 1) := by decide +kernel
theorem dX4_reader_69 : decode cX4_reader 69 = .ok (.getfield 39, 3) := by decide +kernel
theorem dX4_reader_72 : decode cX4_reader 72 = .ok (.iload 4, 2) := by decide +kernel
theorem dX4_reader_74 : decode cX4_reader 74 = .ok (.iload_n 1, 1) := by decide +kernel
theorem dX4_reader_75 : decode cX4_reader 75 = .ok (.iastore, 1) := by decide +kernel
theorem dX4_reader_76 : decode cX4_reader 76 = .ok (.aload_n 0, 1) := by decide +kernel
theorem dX4_reader_77 : decode cX4_reader 77 = .ok (.getfield 42, 3) := by decide +kernel
theorem dX4_reader_80 : decode cX4_reader 80 = .ok (.iconst 4, 1) := by decide +kernel
theorem dX4_reader_81 : decode cX4_reader 81 = .ok (.iload 4, 2) := by decide +kernel
theorem dX4_reader_83 : decode cX4_reader 83 = .ok (.imul, 1) := by decide +kernel
theorem dX4_reader_84 : decode cX4_reader 84 = .ok (.iload_n 2, 1) := by decide +kernel
theorem dX4_reader_85 : decode cX4_reader 85 = .ok (.iastore, 1) := by decide +kernel
theorem dX4_reader_86 : decode cX4_reader 86 = .ok (.aload_n 0, 1) := by decide +kernel
theorem dX4_reader_87 : decode cX4_reader 87 = .ok (.getfield 48, 3) := by decide +kernel
theorem dX4_reader_90 : decode cX4_reader 90 = .ok (.iload 4, 2) := by decide +kernel
theorem dX4_reader_92 : decode cX4_reader 92 = .ok (.iconst 1, 1) := by decide +kernel
theorem dX4_reader_93 : decode cX4_reader 93 = .ok (.iastore, 1) := by decide +kernel
theorem dX4_reader_94 : decode cX4_reader 94 = .ok (.iload_n 1, 1) := by decide +kernel
theorem dX4_reader_95 : decode cX4_reader 95 = .ok (.iconst 5, 1) := by decide +kernel
theorem dX4_reader_96 : decode cX4_reader 96 = .ok (.if_icmp .ne 23, 3) := by decide +kernel
theorem dX4_reader_99 : decode cX4_reader 99 = .ok (.aload_n 0, 1) := by decide +kernel
theorem dX4_reader_100 : decode cX4_reader 100 = .ok (.getfield 42, 3) := by decide +kernel
theorem dX4_reader_103 : decode cX4_reader 103 = .ok (.iconst 4, 1) := by decide +kernel
theorem dX4_reader_104 : decode cX4_reader 104 = .ok (.iload 4, 2) := by decide +kernel
theorem dX4_reader_106 : decode cX4_reader 106 = .ok (.imul, 1) := by decide +kernel
theorem dX4_reader_107 : decode cX4_reader 107 = .ok (.iconst 1, 1) := by decide +kernel
theorem dX4_reader_108 : decode cX4_reader 108 = .ok (.iadd, 1) := by decide +kernel
theorem dX4_reader_109 : decode cX4_reader 109 = .ok (.iload_n 3, 1) := by decide +kernel
theorem dX4_reader_110 : decode cX4_reader 110 = .ok (.iastore, 1) := by decide +kernel
theorem dX4_reader_111 : decode cX4_reader 111 = .ok (.aload_n 0, 1) := by decide +kernel
theorem dX4_reader_112 : decode cX4_reader 112 = .ok (.getfield 48, 3) := by decide +kernel
theorem dX4_reader_115 : decode cX4_reader 115 = .ok (.iload 4, 2) := by decide +kernel
theorem dX4_reader_117 : decode cX4_reader 117 = .ok (.iconst 2, 1) := by decide +kernel
theorem dX4_reader_118 : decode cX4_reader 118 = .ok (.iastore, 1) := by decide +kernel
theorem dX4_reader_119 : decode cX4_reader 119 = .ok (.iload_n 1, 1) := by decide +kernel
theorem dX4_reader_120 : decode cX4_reader 120 = .ok (.bipush 6, 2) := by decide +kernel
theorem dX4_reader_122 : decode cX4_reader 122 = .ok (.if_icmp .ne 21, 3) := by decide +kernel
theorem dX4_reader_125 : decode cX4_reader 125 = .ok (.aload_n 0, 1) := by decide +kernel
theorem dX4_reader_126 : decode cX4_reader 126 = .ok (.getfield 51, 3) := by decide +kernel
theorem dX4_reader_129 : decode cX4_reader 129 = .ok (.iconst 4, 1) := by decide +kernel
theorem dX4_reader_130 : decode cX4_reader 130 = .ok (.iload 4, 2) := by decide +kernel
theorem dX4_reader_132 : decode cX4_reader 132 = .ok (.imul, 1) := by decide +kernel
theorem dX4_reader_133 : decode cX4_reader 133 = .ok (.iload_n 3, 1) := by decide +kernel
theorem dX4_reader_134 : decode cX4_reader 134 = .ok (.iastore, 1) := by decide +kernel
theorem dX4_reader_135 : decode cX4_reader 135 = .ok (.aload_n 0, 1) := by decide +kernel
theorem dX4_reader_136 : decode cX4_reader 136 = .ok (.getfield 54, 3) := by decide +kernel
theorem dX4_reader_139 : decode cX4_reader 139 = .ok (.iload 4, 2) := by decide +kernel
theorem dX4_reader_141 : decode cX4_reader 141 = .ok (.iconst 1, 1) := by decide +kernel
theorem dX4_reader_142 : decode cX4_reader 142 = .ok (.iastore, 1) := by decide +kernel
theorem dX4_reader_143 : decode cX4_reader 143 = .ok (.aload_n 0, 1) := by decide +kernel
theorem dX4_reader_144 : decode cX4_reader 144 = .ok (.getfield 57, 3) := by decide +kernel
theorem dX4_reader_147 : decode cX4_reader 147 = .ok (.iload 4, 2) := by decide +kernel
theorem dX4_reader_149 : decode cX4_reader 149 = .ok (.iload_n 3, 1) := by decide +kernel
theorem dX4_reader_150 : decode cX4_reader 150 = .ok (.iastore, 1) := by decide +kernel
theorem dX4_reader_151 : decode cX4_reader 151 = .ok (.aload_n 0, 1) := by decide +kernel
theorem dX4_reader_152 : decode cX4_reader 152 = .ok (.getfield 63, 3) := by decide +kernel
theorem dX4_reader_155 : decode cX4_reader 155 = .ok (.iload 4, 2) := by decide +kernel
theorem dX4_reader_157 : decode cX4_reader 157 = .ok (.iconst (-1), 1) := by decide +kernel
theorem dX4_reader_158 : decode cX4_reader 158 = .ok (.iastore, 1) := by decide +kernel
theorem dX4_reader_159 : decode cX4_reader 159 = .ok (.aload_n 0, 1) := by decide +kernel
theorem dX4_reader_160 : decode cX4_reader 160 = .ok (.getfield 66, 3) := by decide +kernel
theorem dX4_reader_163 : decode cX4_reader 163 = .ok (.iload 4, 2) := by decide +kernel
theorem dX4_reader_165 : decode cX4_reader 165 = .ok (.iconst (-1), 1) := by decide +kernel
theorem dX4_reader_166 : decode cX4_reader 166 = .ok (.iastore, 1) := by decide +kernel
theorem dX4_reader_167 : decode cX4_reader 167 = .ok (.aload_n 0, 1) := by decide +kernel
theorem dX4_reader_168 : decode cX4_reader 168 = .ok (.dup, 1) := by decide +kernel
theorem dX4_reader_169 : decode cX4_reader 169 = .ok (.getfield 139, 3) := by decide +kernel
theorem dX4_reader_172 : decode cX4_reader 172 = .ok (.iload_n 1, 1) := by decide +kernel
theorem dX4_reader_173 : decode cX4_reader 173 = .ok (.iconst 4, 1) := by decide +kernel
theorem dX4_reader_174 : decode cX4_reader 174 = .ok (.if_icmp .ne 8, 3) := by decide +kernel
theorem dX4_reader_177 : decode cX4_reader 177 = .ok (.bipush 33, 2) := by decide +kernel
theorem dX4_reader_179 : decode cX4_reader 179 = .ok (.goto 4, 3) := by decide +kernel
theorem dX4_reader_182 : decode cX4_reader 182 = .ok (.iconst 1, 1) := by decide +kernel
theorem dX4_reader_183 : decode cX4_reader 183 = .ok (.iadd, 1) := by decide +kernel
theorem dX4_reader_184 : decode cX4_reader 184 = .ok (.putfield 139, 3) := by decide +kernel
theorem dX4_reader_187 : decode cX4_reader 187 = .ok (.iload 4, 2) := by decide +kernel
theorem dX4_reader_189 : decode cX4_reader 189 = .ok (.ireturn, 1) := by decide +kernel
theorem dX4_join_0 : decode cX4_join 0 = .ok (.aload_n 0, 1) := by decide +kernel
theorem dX4_join_1 : decode cX4_join 1 = .ok (.iload_n 1, 1) := by decide +kernel
theorem dX4_join_2 : decode cX4_join 2 = .ok (.invokevirtual 146, 3) := by decide +kernel
theorem dX4_join_5 : decode cX4_join 5 = .ok (.ifCond .eq 11, 3) := by decide +kernel
theorem dX4_join_8 : decode cX4_join 8 = .ok (.aload_n 0, 1) := by decide +kernel
theorem dX4_join_9 : decode cX4_join 9 = .ok (.iload_n 2, 1) := by decide +kernel
theorem dX4_join_10 : decode cX4_join 10 = .ok (.invokevirtual 142, 3) := by decide +kernel
theorem dX4_join_13 : decode cX4_join 13 = .ok (.ifCond .ne 5, 3) := by decide +kernel
theorem dX4_join_16 : decode cX4_join 16 = .ok (.iconst (-1), 1) := by decide +kernel
theorem dX4_join_17 : decode cX4_join 17 = .ok (.ireturn, 1) := by decide +kernel
theorem dX4_join_18 : decode cX4_join 18 = .ok (.aload_n 0, 1) := by decide +kernel
theorem dX4_join_19 : decode cX4_join 19 = .ok (.getfield 135, 3) := by decide +kernel
theorem dX4_join_22 : decode cX4_join 22 = .ok (.ifCond .eq 6, 3) := by decide +kernel
theorem dX4_join_25 : decode cX4_join 25 = .ok (.bipush (-2), 2) := by decide +kernel
theorem dX4_join_27 : decode cX4_join 27 = .ok (.ireturn, 1) := by decide +kernel
theorem dX4_join_28 : decode cX4_join 28 = .ok (.aload_n 0, 1) := by decide +kernel
theorem dX4_join_29 : decode cX4_join 29 = .ok (.getfield 39, 3) := by decide +kernel
theorem dX4_join_32 : decode cX4_join 32 = .ok (.iload_n 1, 1) := by decide +kernel
theorem dX4_join_33 : decode cX4_join 33 = .ok (.iaload, 1) := by decide +kernel
theorem dX4_join_34 : decode cX4_join 34 = .ok (.iconst 5, 1) := by decide +kernel
theorem dX4_join_35 : decode cX4_join 35 = .ok (.if_icmp .eq 6, 3) := by decide +kernel
theorem dX4_join_38 : decode cX4_join 38 = .ok (.bipush (-3), 2) := by decide +kernel
theorem dX4_join_40 : decode cX4_join 40 = .ok (.ireturn, 1) := by decide +kernel
theorem dX4_join_41 : decode cX4_join 41 = .ok (.aload_n 0, 1) := by decide +kernel
theorem dX4_join_42 : decode cX4_join 42 = .ok (.iload_n 1, 1) := by decide +kernel
theorem dX4_join_43 : decode cX4_join 43 = .ok (.iload_n 2, 1) := by decide +kernel
theorem dX4_join_44 : decode cX4_join 44 = .ok (.invokevirtual 127, 3) := by decide +kernel
theorem dX4_join_47 : decode cX4_join 47 = .ok (.ifCond .lt 6, 3) := by decide +kernel
theorem dX4_join_50 : decode cX4_join 50 = .ok (.bipush (-5), 2) := by decide +kernel
theorem dX4_join_52 : decode cX4_join 52 = .ok (.ireturn, 1) := by decide +kernel
theorem dX4_join_53 : decode cX4_join 53 = .ok (.aload_n 0, 1) := by decide +kernel
theorem dX4_join_54 : decode cX4_join 54 = .ok (.getfield 48, 3) := by decide +kernel
theorem dX4_join_57 : decode cX4_join 57 = .ok (.iload_n 1, 1) := by decide +kernel
theorem dX4_join_58 : decode cX4_join 58 = .ok (.iaload, 1) := by decide +kernel
theorem dX4_join_59 : decode cX4_join 59 = .ok (.iconst 4, 1) := by decide +kernel
theorem dX4_join_60 : decode cX4_join 60 = .ok (.if_icmp .ne 6, 3) := by decide +kernel
theorem dX4_join_63 : decode cX4_join 63 = .ok (.bipush (-4), 2) := by decide +kernel
theorem dX4_join_65 : decode cX4_join 65 = .ok (.ireturn, 1) := by decide +kernel
theorem dX4_join_66 : decode cX4_join 66 = .ok (.aload_n 0, 1) := by decide +kernel
theorem dX4_join_67 : decode cX4_join 67 = .ok (.getfield 42, 3) := by decide +kernel
theorem dX4_join_70 : decode cX4_join 70 = .ok (.iconst 4, 1) := by decide +kernel
theorem dX4_join_71 : decode cX4_join 71 = .ok (.iload_n 1, 1) := by decide +kernel
theorem dX4_join_72 : decode cX4_join 72 = .ok (.imul, 1) := by decide +kernel
theorem dX4_join_73 : decode cX4_join 73 = .ok (.aload_n 0, 1) := by decide +kernel
theorem dX4_join_74 : decode cX4_join 74 = .ok (.getfield 48, 3) := by decide +kernel
theorem dX4_join_77 : decode cX4_join 77 = .ok (.iload_n 1, 1) := by decide +kernel
theorem dX4_join_78 : decode cX4_join 78 = .ok (.iaload, 1) := by decide +kernel
theorem dX4_join_79 : decode cX4_join 79 = .ok (.iadd, 1) := by decide +kernel
theorem dX4_join_80 : decode cX4_join 80 = .ok (.iload_n 2, 1) := by decide +kernel
theorem dX4_join_81 : decode cX4_join 81 = .ok (.iastore, 1) := by decide +kernel
theorem dX4_join_82 : decode cX4_join 82 = .ok (.aload_n 0, 1) := by decide +kernel
theorem dX4_join_83 : decode cX4_join 83 = .ok (.getfield 48, 3) := by decide +kernel
theorem dX4_join_86 : decode cX4_join 86 = .ok (.iload_n 1, 1) := by decide +kernel
theorem dX4_join_87 : decode cX4_join 87 = .ok (.dup2, 1) := by decide +kernel
theorem dX4_join_88 : decode cX4_join 88 = .ok (.iaload, 1) := by decide +kernel
theorem dX4_join_89 : decode cX4_join 89 = .ok (.iconst 1, 1) := by decide +kernel
theorem dX4_join_90 : decode cX4_join 90 = .ok (.iadd, 1) := by decide +kernel
theorem dX4_join_91 : decode cX4_join 91 = .ok (.iastore, 1) := by decide +kernel
theorem dX4_join_92 : decode cX4_join 92 = .ok (.iconst 1, 1) := by decide +kernel
theorem dX4_join_93 : decode cX4_join 93 = .ok (.ireturn, 1) := by decide +kernel
theorem dX4_doesName_0 : decode cX4_doesName 0 = .ok (.iconst 0, 1) := by decide +kernel
theorem dX4_doesName_1 : decode cX4_doesName 1 = .ok (.istore_n 3, 1) := by decide +kernel
theorem dX4_doesName_2 : decode cX4_doesName 2 = .ok (.iconst 0, 1) := by decide +kernel
theorem dX4_doesName_3 : decode cX4_doesName 3 = .ok (.istore 4, 2) := by decide +kernel
theorem dX4_doesName_5 : decode cX4_doesName 5 = .ok (.iload 4, 2) := by decide +kernel
theorem dX4_doesName_7 : decode cX4_doesName 7 = .ok (.aload_n 0, 1) := by decide +kernel
theorem dX4_doesName_8 : decode cX4_doesName 8 = .ok (.getfield 54, 3) := by decide +kernel
theorem dX4_doesName_11 : decode cX4_doesName 11 = .ok (.iload_n 1, 1) := by decide +kernel
theorem dX4_doesName_12 : decode cX4_doesName 12 = .ok (.iaload, 1) := by decide +kernel
theorem dX4_doesName_13 : decode cX4_doesName 13 = .ok (.if_icmp .ge 34, 3) := by decide +kernel
theorem dX4_doesName_16 : decode cX4_doesName 16 = .ok (.iload_n 3, 1) := by decide +kernel
theorem dX4_doesName_17 : decode cX4_doesName 17 = .ok (.ifCond .ne 18, 3) := by decide +kernel
theorem dX4_doesName_20 : decode cX4_doesName 20 = .ok (.aload_n 0, 1) := by decide +kernel
theorem dX4_doesName_21 : decode cX4_doesName 21 = .ok (.getfield 51, 3) := by decide +kernel
theorem dX4_doesName_24 : decode cX4_doesName 24 = .ok (.iconst 4, 1) := by decide +kernel
theorem dX4_doesName_25 : decode cX4_doesName 25 = .ok (.iload_n 1, 1) := by decide +kernel
theorem dX4_doesName_26 : decode cX4_doesName 26 = .ok (.imul, 1) := by decide +kernel
theorem dX4_doesName_27 : decode cX4_doesName 27 = .ok (.iload 4, 2) := by decide +kernel
theorem dX4_doesName_29 : decode cX4_doesName 29 = .ok (.iadd, 1) := by decide +kernel
theorem dX4_doesName_30 : decode cX4_doesName 30 = .ok (.iaload, 1) := by decide +kernel
theorem dX4_doesName_31 : decode cX4_doesName 31 = .ok (.iload_n 2, 1) := by decide +kernel
theorem dX4_doesName_32 : decode cX4_doesName 32 = .ok (.if_icmp .ne 7, 3) := by decide +kernel
theorem dX4_doesName_35 : decode cX4_doesName 35 = .ok (.iconst 1, 1) := by decide +kernel
theorem dX4_doesName_36 : decode cX4_doesName 36 = .ok (.goto 4, 3) := by decide +kernel
theorem dX4_doesName_39 : decode cX4_doesName 39 = .ok (.iconst 0, 1) := by decide +kernel
theorem dX4_doesName_40 : decode cX4_doesName 40 = .ok (.istore_n 3, 1) := by decide +kernel
theorem dX4_doesName_41 : decode cX4_doesName 41 = .ok (.iinc 4 1, 3) := by decide +kernel
theorem dX4_doesName_44 : decode cX4_doesName 44 = .ok (.goto (-39), 3) := by decide +kernel
theorem dX4_doesName_47 : decode cX4_doesName 47 = .ok (.iload_n 3, 1) := by decide +kernel
theorem dX4_doesName_48 : decode cX4_doesName 48 = .ok (.ireturn, 1) := by decide +kernel
theorem dX4_reach_0 : decode cX4_reach 0 = .ok (.iconst 0, 1) := by decide +kernel
theorem dX4_reach_1 : decode cX4_reach 1 = .ok (.istore_n 2, 1) := by decide +kernel
theorem dX4_reach_2 : decode cX4_reach 2 = .ok (.iload_n 2, 1) := by decide +kernel
theorem dX4_reach_3 : decode cX4_reach 3 = .ok (.bipush 16, 2) := by decide +kernel
theorem dX4_reach_5 : decode cX4_reach 5 = .ok (.if_icmp .ge 16, 3) := by decide +kernel
theorem dX4_reach_8 : decode cX4_reach 8 = .ok (.aload_n 0, 1) := by decide +kernel
theorem dX4_reach_9 : decode cX4_reach 9 = .ok (.getfield 118, 3) := by decide +kernel
theorem dX4_reach_12 : decode cX4_reach 12 = .ok (.iload_n 2, 1) := by decide +kernel
theorem dX4_reach_13 : decode cX4_reach 13 = .ok (.iconst 0, 1) := by decide +kernel
theorem dX4_reach_14 : decode cX4_reach 14 = .ok (.bastore, 1) := by decide +kernel
theorem dX4_reach_15 : decode cX4_reach 15 = .ok (.iinc 2 1, 3) := by decide +kernel
theorem dX4_reach_18 : decode cX4_reach 18 = .ok (.goto (-16), 3) := by decide +kernel
theorem dX4_reach_21 : decode cX4_reach 21 = .ok (.iconst 0, 1) := by decide +kernel
theorem dX4_reach_22 : decode cX4_reach 22 = .ok (.istore_n 2, 1) := by decide +kernel
theorem dX4_reach_23 : decode cX4_reach 23 = .ok (.iload_n 2, 1) := by decide +kernel
theorem dX4_reach_24 : decode cX4_reach 24 = .ok (.bipush 16, 2) := by decide +kernel
theorem dX4_reach_26 : decode cX4_reach 26 = .ok (.if_icmp .ge 94, 3) := by decide +kernel
theorem dX4_reach_29 : decode cX4_reach 29 = .ok (.iconst 0, 1) := by decide +kernel
theorem dX4_reach_30 : decode cX4_reach 30 = .ok (.istore_n 3, 1) := by decide +kernel
theorem dX4_reach_31 : decode cX4_reach 31 = .ok (.iload_n 3, 1) := by decide +kernel
theorem dX4_reach_32 : decode cX4_reach 32 = .ok (.aload_n 0, 1) := by decide +kernel
theorem dX4_reach_33 : decode cX4_reach 33 = .ok (.getfield 124, 3) := by decide +kernel
theorem dX4_reach_36 : decode cX4_reach 36 = .ok (.if_icmp .ge 78, 3) := by decide +kernel
theorem dX4_reach_39 : decode cX4_reach 39 = .ok (.iconst 0, 1) := by decide +kernel
theorem dX4_reach_40 : decode cX4_reach 40 = .ok (.istore 4, 2) := by decide +kernel
theorem dX4_reach_42 : decode cX4_reach 42 = .ok (.iload 4, 2) := by decide +kernel
theorem dX4_reach_44 : decode cX4_reach 44 = .ok (.aload_n 0, 1) := by decide +kernel
theorem dX4_reach_45 : decode cX4_reach 45 = .ok (.getfield 54, 3) := by decide +kernel
theorem dX4_reach_48 : decode cX4_reach 48 = .ok (.iload_n 3, 1) := by decide +kernel
theorem dX4_reach_49 : decode cX4_reach 49 = .ok (.iaload, 1) := by decide +kernel
theorem dX4_reach_50 : decode cX4_reach 50 = .ok (.if_icmp .ge 58, 3) := by decide +kernel
theorem dX4_reach_53 : decode cX4_reach 53 = .ok (.aload_n 0, 1) := by decide +kernel
theorem dX4_reach_54 : decode cX4_reach 54 = .ok (.getfield 51, 3) := by decide +kernel
theorem dX4_reach_57 : decode cX4_reach 57 = .ok (.iconst 4, 1) := by decide +kernel
theorem dX4_reach_58 : decode cX4_reach 58 = .ok (.iload_n 3, 1) := by decide +kernel
theorem dX4_reach_59 : decode cX4_reach 59 = .ok (.imul, 1) := by decide +kernel
theorem dX4_reach_60 : decode cX4_reach 60 = .ok (.iload 4, 2) := by decide +kernel
theorem dX4_reach_62 : decode cX4_reach 62 = .ok (.iadd, 1) := by decide +kernel
theorem dX4_reach_63 : decode cX4_reach 63 = .ok (.iaload, 1) := by decide +kernel
theorem dX4_reach_64 : decode cX4_reach 64 = .ok (.istore 5, 2) := by decide +kernel
theorem dX4_reach_66 : decode cX4_reach 66 = .ok (.aload_n 0, 1) := by decide +kernel
theorem dX4_reach_67 : decode cX4_reach 67 = .ok (.getfield 118, 3) := by decide +kernel
theorem dX4_reach_70 : decode cX4_reach 70 = .ok (.iload_n 3, 1) := by decide +kernel
theorem dX4_reach_71 : decode cX4_reach 71 = .ok (.aload_n 0, 1) := by decide +kernel
theorem dX4_reach_72 : decode cX4_reach 72 = .ok (.getfield 118, 3) := by decide +kernel
theorem dX4_reach_75 : decode cX4_reach 75 = .ok (.iload_n 3, 1) := by decide +kernel
theorem dX4_reach_76 : decode cX4_reach 76 = .ok (.baload, 1) := by decide +kernel
theorem dX4_reach_77 : decode cX4_reach 77 = .ok (.ifCond .ne 19, 3) := by decide +kernel
theorem dX4_reach_80 : decode cX4_reach 80 = .ok (.iload 5, 2) := by decide +kernel
theorem dX4_reach_82 : decode cX4_reach 82 = .ok (.iload_n 1, 1) := by decide +kernel
theorem dX4_reach_83 : decode cX4_reach 83 = .ok (.if_icmp .eq 13, 3) := by decide +kernel
theorem dX4_reach_86 : decode cX4_reach 86 = .ok (.aload_n 0, 1) := by decide +kernel
theorem dX4_reach_87 : decode cX4_reach 87 = .ok (.getfield 118, 3) := by decide +kernel
theorem dX4_reach_90 : decode cX4_reach 90 = .ok (.iload 5, 2) := by decide +kernel
theorem dX4_reach_92 : decode cX4_reach 92 = .ok (.baload, 1) := by decide +kernel
theorem dX4_reach_93 : decode cX4_reach 93 = .ok (.ifCond .eq 7, 3) := by decide +kernel
theorem dX4_reach_96 : decode cX4_reach 96 = .ok (.iconst 1, 1) := by decide +kernel
theorem dX4_reach_97 : decode cX4_reach 97 = .ok (.goto 4, 3) := by decide +kernel
theorem dX4_reach_100 : decode cX4_reach 100 = .ok (.iconst 0, 1) := by decide +kernel
theorem dX4_reach_101 : decode cX4_reach 101 = .ok (.bastore, 1) := by decide +kernel
theorem dX4_reach_102 : decode cX4_reach 102 = .ok (.iinc 4 1, 3) := by decide +kernel
theorem dX4_reach_105 : decode cX4_reach 105 = .ok (.goto (-63), 3) := by decide +kernel
theorem dX4_reach_108 : decode cX4_reach 108 = .ok (.iinc 3 1, 3) := by decide +kernel
theorem dX4_reach_111 : decode cX4_reach 111 = .ok (.goto (-80), 3) := by decide +kernel
theorem dX4_reach_114 : decode cX4_reach 114 = .ok (.iinc 2 1, 3) := by decide +kernel
theorem dX4_reach_117 : decode cX4_reach 117 = .ok (.goto (-94), 3) := by decide +kernel
theorem dX4_reach_120 : decode cX4_reach 120 = .ok (.return_, 1) := by decide +kernel
theorem dX4_go_0 : decode cX4_go 0 = .ok (.aload_n 0, 1) := by decide +kernel
theorem dX4_go_1 : decode cX4_go 1 = .ok (.getfield 115, 3) := by decide +kernel
theorem dX4_go_4 : decode cX4_go 4 = .ok (.iconst 0, 1) := by decide +kernel
theorem dX4_go_5 : decode cX4_go 5 = .ok (.iload_n 1, 1) := by decide +kernel
theorem dX4_go_6 : decode cX4_go 6 = .ok (.iastore, 1) := by decide +kernel
theorem dX4_go_7 : decode cX4_go 7 = .ok (.aload_n 0, 1) := by decide +kernel
theorem dX4_go_8 : decode cX4_go 8 = .ok (.getfield 115, 3) := by decide +kernel
theorem dX4_go_11 : decode cX4_go 11 = .ok (.iconst 1, 1) := by decide +kernel
theorem dX4_go_12 : decode cX4_go 12 = .ok (.iload_n 2, 1) := by decide +kernel
theorem dX4_go_13 : decode cX4_go 13 = .ok (.iastore, 1) := by decide +kernel
theorem dX4_go_14 : decode cX4_go 14 = .ok (.aload_n 0, 1) := by decide +kernel
theorem dX4_go_15 : decode cX4_go 15 = .ok (.iconst 2, 1) := by decide +kernel
theorem dX4_go_16 : decode cX4_go 16 = .ok (.putfield 153, 3) := by decide +kernel
theorem dX4_go_19 : decode cX4_go 19 = .ok (.aload_n 0, 1) := by decide +kernel
theorem dX4_go_20 : decode cX4_go 20 = .ok (.aload_n 0, 1) := by decide +kernel
theorem dX4_go_21 : decode cX4_go 21 = .ok (.getfield 115, 3) := by decide +kernel
theorem dX4_go_24 : decode cX4_go 24 = .ok (.aload_n 0, 1) := by decide +kernel
theorem dX4_go_25 : decode cX4_go 25 = .ok (.getfield 153, 3) := by decide +kernel
theorem dX4_go_28 : decode cX4_go 28 = .ok (.iconst 1, 1) := by decide +kernel
theorem dX4_go_29 : decode cX4_go 29 = .ok (.isub, 1) := by decide +kernel
theorem dX4_go_30 : decode cX4_go 30 = .ok (.iaload, 1) := by decide +kernel
theorem dX4_go_31 : decode cX4_go 31 = .ok (.iload_n 1, 1) := by decide +kernel
theorem dX4_go_32 : decode cX4_go 32 = .ok (.invokevirtual 156, 3) := by decide +kernel
theorem dX4_go_35 : decode cX4_go 35 = .ok (.ifCond .ne 105, 3) := by decide +kernel
theorem dX4_go_38 : decode cX4_go 38 = .ok (.bipush 16, 2) := by decide +kernel
theorem dX4_go_40 : decode cX4_go 40 = .ok (.istore_n 3, 1) := by decide +kernel
theorem dX4_go_41 : decode cX4_go 41 = .ok (.iconst 0, 1) := by decide +kernel
theorem dX4_go_42 : decode cX4_go 42 = .ok (.istore 4, 2) := by decide +kernel
theorem dX4_go_44 : decode cX4_go 44 = .ok (.iload 4, 2) := by decide +kernel
theorem dX4_go_46 : decode cX4_go 46 = .ok (.aload_n 0, 1) := by decide +kernel
theorem dX4_go_47 : decode cX4_go 47 = .ok (.getfield 54, 3) := by decide +kernel
theorem dX4_go_50 : decode cX4_go 50 = .ok (.aload_n 0, 1) := by decide +kernel
theorem dX4_go_51 : decode cX4_go 51 = .ok (.getfield 115, 3) := by decide +kernel
theorem dX4_go_54 : decode cX4_go 54 = .ok (.aload_n 0, 1) := by decide +kernel
theorem dX4_go_55 : decode cX4_go 55 = .ok (.getfield 153, 3) := by decide +kernel
theorem dX4_go_58 : decode cX4_go 58 = .ok (.iconst 1, 1) := by decide +kernel
theorem dX4_go_59 : decode cX4_go 59 = .ok (.isub, 1) := by decide +kernel
theorem dX4_go_60 : decode cX4_go 60 = .ok (.iaload, 1) := by decide +kernel
theorem dX4_go_61 : decode cX4_go 61 = .ok (.iaload, 1) := by decide +kernel
theorem dX4_go_62 : decode cX4_go 62 = .ok (.if_icmp .ge 55, 3) := by decide +kernel
theorem dX4_go_65 : decode cX4_go 65 = .ok (.aload_n 0, 1) := by decide +kernel
theorem dX4_go_66 : decode cX4_go 66 = .ok (.getfield 51, 3) := by decide +kernel
theorem dX4_go_69 : decode cX4_go 69 = .ok (.iconst 4, 1) := by decide +kernel
theorem dX4_go_70 : decode cX4_go 70 = .ok (.aload_n 0, 1) := by decide +kernel
theorem dX4_go_71 : decode cX4_go 71 = .ok (.getfield 115, 3) := by decide +kernel
theorem dX4_go_74 : decode cX4_go 74 = .ok (.aload_n 0, 1) := by decide +kernel
theorem dX4_go_75 : decode cX4_go 75 = .ok (.getfield 153, 3) := by decide +kernel
theorem dX4_go_78 : decode cX4_go 78 = .ok (.iconst 1, 1) := by decide +kernel
theorem dX4_go_79 : decode cX4_go 79 = .ok (.isub, 1) := by decide +kernel
theorem dX4_go_80 : decode cX4_go 80 = .ok (.iaload, 1) := by decide +kernel
theorem dX4_go_81 : decode cX4_go 81 = .ok (.imul, 1) := by decide +kernel
theorem dX4_go_82 : decode cX4_go 82 = .ok (.iload 4, 2) := by decide +kernel
theorem dX4_go_84 : decode cX4_go 84 = .ok (.iadd, 1) := by decide +kernel
theorem dX4_go_85 : decode cX4_go 85 = .ok (.iaload, 1) := by decide +kernel
theorem dX4_go_86 : decode cX4_go 86 = .ok (.istore 5, 2) := by decide +kernel
theorem dX4_go_88 : decode cX4_go 88 = .ok (.aload_n 0, 1) := by decide +kernel
theorem dX4_go_89 : decode cX4_go 89 = .ok (.getfield 118, 3) := by decide +kernel
theorem dX4_go_92 : decode cX4_go 92 = .ok (.iload 5, 2) := by decide +kernel
theorem dX4_go_94 : decode cX4_go 94 = .ok (.baload, 1) := by decide +kernel
theorem dX4_go_95 : decode cX4_go 95 = .ok (.ifCond .eq 14, 3) := by decide +kernel
theorem dX4_go_98 : decode cX4_go 98 = .ok (.iload 5, 2) := by decide +kernel
theorem dX4_go_100 : decode cX4_go 100 = .ok (.iload_n 3, 1) := by decide +kernel
theorem dX4_go_101 : decode cX4_go 101 = .ok (.if_icmp .ge 8, 3) := by decide +kernel
theorem dX4_go_104 : decode cX4_go 104 = .ok (.iload 5, 2) := by decide +kernel
theorem dX4_go_106 : decode cX4_go 106 = .ok (.goto 4, 3) := by decide +kernel
theorem dX4_go_109 : decode cX4_go 109 = .ok (.iload_n 3, 1) := by decide +kernel
theorem dX4_go_110 : decode cX4_go 110 = .ok (.istore_n 3, 1) := by decide +kernel
theorem dX4_go_111 : decode cX4_go 111 = .ok (.iinc 4 1, 3) := by decide +kernel
theorem dX4_go_114 : decode cX4_go 114 = .ok (.goto (-70), 3) := by decide +kernel
theorem dX4_go_117 : decode cX4_go 117 = .ok (.aload_n 0, 1) := by decide +kernel
theorem dX4_go_118 : decode cX4_go 118 = .ok (.getfield 115, 3) := by decide +kernel
theorem dX4_go_121 : decode cX4_go 121 = .ok (.aload_n 0, 1) := by decide +kernel
theorem dX4_go_122 : decode cX4_go 122 = .ok (.getfield 153, 3) := by decide +kernel
theorem dX4_go_125 : decode cX4_go 125 = .ok (.iload_n 3, 1) := by decide +kernel
theorem dX4_go_126 : decode cX4_go 126 = .ok (.iastore, 1) := by decide +kernel
theorem dX4_go_127 : decode cX4_go 127 = .ok (.aload_n 0, 1) := by decide +kernel
theorem dX4_go_128 : decode cX4_go 128 = .ok (.dup, 1) := by decide +kernel
theorem dX4_go_129 : decode cX4_go 129 = .ok (.getfield 153, 3) := by decide +kernel
theorem dX4_go_132 : decode cX4_go 132 = .ok (.iconst 1, 1) := by decide +kernel
theorem dX4_go_133 : decode cX4_go 133 = .ok (.iadd, 1) := by decide +kernel
theorem dX4_go_134 : decode cX4_go 134 = .ok (.putfield 153, 3) := by decide +kernel
theorem dX4_go_137 : decode cX4_go 137 = .ok (.goto (-118), 3) := by decide +kernel
theorem dX4_go_140 : decode cX4_go 140 = .ok (.return_, 1) := by decide +kernel
theorem dX4_name_0 : decode cX4_name 0 = .ok (.aload_n 0, 1) := by decide +kernel
theorem dX4_name_1 : decode cX4_name 1 = .ok (.iload_n 1, 1) := by decide +kernel
theorem dX4_name_2 : decode cX4_name 2 = .ok (.invokevirtual 146, 3) := by decide +kernel
theorem dX4_name_5 : decode cX4_name 5 = .ok (.ifCond .eq 11, 3) := by decide +kernel
theorem dX4_name_8 : decode cX4_name 8 = .ok (.aload_n 0, 1) := by decide +kernel
theorem dX4_name_9 : decode cX4_name 9 = .ok (.iload_n 2, 1) := by decide +kernel
theorem dX4_name_10 : decode cX4_name 10 = .ok (.invokevirtual 146, 3) := by decide +kernel
theorem dX4_name_13 : decode cX4_name 13 = .ok (.ifCond .ne 5, 3) := by decide +kernel
theorem dX4_name_16 : decode cX4_name 16 = .ok (.iconst (-1), 1) := by decide +kernel
theorem dX4_name_17 : decode cX4_name 17 = .ok (.ireturn, 1) := by decide +kernel
theorem dX4_name_18 : decode cX4_name 18 = .ok (.aload_n 0, 1) := by decide +kernel
theorem dX4_name_19 : decode cX4_name 19 = .ok (.getfield 135, 3) := by decide +kernel
theorem dX4_name_22 : decode cX4_name 22 = .ok (.ifCond .eq 6, 3) := by decide +kernel
theorem dX4_name_25 : decode cX4_name 25 = .ok (.bipush (-2), 2) := by decide +kernel
theorem dX4_name_27 : decode cX4_name 27 = .ok (.ireturn, 1) := by decide +kernel
theorem dX4_name_28 : decode cX4_name 28 = .ok (.aload_n 0, 1) := by decide +kernel
theorem dX4_name_29 : decode cX4_name 29 = .ok (.getfield 39, 3) := by decide +kernel
theorem dX4_name_32 : decode cX4_name 32 = .ok (.iload_n 1, 1) := by decide +kernel
theorem dX4_name_33 : decode cX4_name 33 = .ok (.iaload, 1) := by decide +kernel
theorem dX4_name_34 : decode cX4_name 34 = .ok (.bipush 6, 2) := by decide +kernel
theorem dX4_name_36 : decode cX4_name 36 = .ok (.if_icmp .eq 14, 3) := by decide +kernel
theorem dX4_name_39 : decode cX4_name 39 = .ok (.aload_n 0, 1) := by decide +kernel
theorem dX4_name_40 : decode cX4_name 40 = .ok (.getfield 39, 3) := by decide +kernel
theorem dX4_name_43 : decode cX4_name 43 = .ok (.iload_n 1, 1) := by decide +kernel
theorem dX4_name_44 : decode cX4_name 44 = .ok (.iaload, 1) := by decide +kernel
theorem dX4_name_45 : decode cX4_name 45 = .ok (.bipush 7, 2) := by decide +kernel
theorem dX4_name_47 : decode cX4_name 47 = .ok (.if_icmp .ne 19, 3) := by decide +kernel
theorem dX4_name_50 : decode cX4_name 50 = .ok (.aload_n 0, 1) := by decide +kernel
theorem dX4_name_51 : decode cX4_name 51 = .ok (.iload_n 2, 1) := by decide +kernel
theorem dX4_name_52 : decode cX4_name 52 = .ok (.aload_n 0, 1) := by decide +kernel
theorem dX4_name_53 : decode cX4_name 53 = .ok (.getfield 42, 3) := by decide +kernel
theorem dX4_name_56 : decode cX4_name 56 = .ok (.iconst 4, 1) := by decide +kernel
theorem dX4_name_57 : decode cX4_name 57 = .ok (.iload_n 1, 1) := by decide +kernel
theorem dX4_name_58 : decode cX4_name 58 = .ok (.imul, 1) := by decide +kernel
theorem dX4_name_59 : decode cX4_name 59 = .ok (.iaload, 1) := by decide +kernel
theorem dX4_name_60 : decode cX4_name 60 = .ok (.invokevirtual 127, 3) := by decide +kernel
theorem dX4_name_63 : decode cX4_name 63 = .ok (.ifCond .ge 6, 3) := by decide +kernel
theorem dX4_name_66 : decode cX4_name 66 = .ok (.bipush (-3), 2) := by decide +kernel
theorem dX4_name_68 : decode cX4_name 68 = .ok (.ireturn, 1) := by decide +kernel
theorem dX4_name_69 : decode cX4_name 69 = .ok (.iload_n 2, 1) := by decide +kernel
theorem dX4_name_70 : decode cX4_name 70 = .ok (.iload_n 1, 1) := by decide +kernel
theorem dX4_name_71 : decode cX4_name 71 = .ok (.if_icmp .eq 12, 3) := by decide +kernel
theorem dX4_name_74 : decode cX4_name 74 = .ok (.aload_n 0, 1) := by decide +kernel
theorem dX4_name_75 : decode cX4_name 75 = .ok (.iload_n 1, 1) := by decide +kernel
theorem dX4_name_76 : decode cX4_name 76 = .ok (.iload_n 2, 1) := by decide +kernel
theorem dX4_name_77 : decode cX4_name 77 = .ok (.invokevirtual 156, 3) := by decide +kernel
theorem dX4_name_80 : decode cX4_name 80 = .ok (.ifCond .eq 6, 3) := by decide +kernel
theorem dX4_name_83 : decode cX4_name 83 = .ok (.bipush (-5), 2) := by decide +kernel
theorem dX4_name_85 : decode cX4_name 85 = .ok (.ireturn, 1) := by decide +kernel
theorem dX4_name_86 : decode cX4_name 86 = .ok (.aload_n 0, 1) := by decide +kernel
theorem dX4_name_87 : decode cX4_name 87 = .ok (.getfield 54, 3) := by decide +kernel
theorem dX4_name_90 : decode cX4_name 90 = .ok (.iload_n 1, 1) := by decide +kernel
theorem dX4_name_91 : decode cX4_name 91 = .ok (.iaload, 1) := by decide +kernel
theorem dX4_name_92 : decode cX4_name 92 = .ok (.iconst 4, 1) := by decide +kernel
theorem dX4_name_93 : decode cX4_name 93 = .ok (.if_icmp .ne 6, 3) := by decide +kernel
theorem dX4_name_96 : decode cX4_name 96 = .ok (.bipush (-4), 2) := by decide +kernel
theorem dX4_name_98 : decode cX4_name 98 = .ok (.ireturn, 1) := by decide +kernel
theorem dX4_name_99 : decode cX4_name 99 = .ok (.aload_n 0, 1) := by decide +kernel
theorem dX4_name_100 : decode cX4_name 100 = .ok (.iload_n 1, 1) := by decide +kernel
theorem dX4_name_101 : decode cX4_name 101 = .ok (.invokevirtual 160, 3) := by decide +kernel
theorem dX4_name_104 : decode cX4_name 104 = .ok (.aload_n 0, 1) := by decide +kernel
theorem dX4_name_105 : decode cX4_name 105 = .ok (.getfield 118, 3) := by decide +kernel
theorem dX4_name_108 : decode cX4_name 108 = .ok (.iload_n 2, 1) := by decide +kernel
theorem dX4_name_109 : decode cX4_name 109 = .ok (.baload, 1) := by decide +kernel
theorem dX4_name_110 : decode cX4_name 110 = .ok (.ifCond .eq 12, 3) := by decide +kernel
theorem dX4_name_113 : decode cX4_name 113 = .ok (.aload_n 0, 1) := by decide +kernel
theorem dX4_name_114 : decode cX4_name 114 = .ok (.iload_n 1, 1) := by decide +kernel
theorem dX4_name_115 : decode cX4_name 115 = .ok (.iload_n 2, 1) := by decide +kernel
theorem dX4_name_116 : decode cX4_name 116 = .ok (.invokevirtual 164, 3) := by decide +kernel
theorem dX4_name_119 : decode cX4_name 119 = .ok (.bipush (-6), 2) := by decide +kernel
theorem dX4_name_121 : decode cX4_name 121 = .ok (.ireturn, 1) := by decide +kernel
theorem dX4_name_122 : decode cX4_name 122 = .ok (.aload_n 0, 1) := by decide +kernel
theorem dX4_name_123 : decode cX4_name 123 = .ok (.getfield 51, 3) := by decide +kernel
theorem dX4_name_126 : decode cX4_name 126 = .ok (.iconst 4, 1) := by decide +kernel
theorem dX4_name_127 : decode cX4_name 127 = .ok (.iload_n 1, 1) := by decide +kernel
theorem dX4_name_128 : decode cX4_name 128 = .ok (.imul, 1) := by decide +kernel
theorem dX4_name_129 : decode cX4_name 129 = .ok (.aload_n 0, 1) := by decide +kernel
theorem dX4_name_130 : decode cX4_name 130 = .ok (.getfield 54, 3) := by decide +kernel
theorem dX4_name_133 : decode cX4_name 133 = .ok (.iload_n 1, 1) := by decide +kernel
theorem dX4_name_134 : decode cX4_name 134 = .ok (.iaload, 1) := by decide +kernel
theorem dX4_name_135 : decode cX4_name 135 = .ok (.iadd, 1) := by decide +kernel
theorem dX4_name_136 : decode cX4_name 136 = .ok (.iload_n 2, 1) := by decide +kernel
theorem dX4_name_137 : decode cX4_name 137 = .ok (.iastore, 1) := by decide +kernel
theorem dX4_name_138 : decode cX4_name 138 = .ok (.aload_n 0, 1) := by decide +kernel
theorem dX4_name_139 : decode cX4_name 139 = .ok (.getfield 54, 3) := by decide +kernel
theorem dX4_name_142 : decode cX4_name 142 = .ok (.iload_n 1, 1) := by decide +kernel
theorem dX4_name_143 : decode cX4_name 143 = .ok (.dup2, 1) := by decide +kernel
theorem dX4_name_144 : decode cX4_name 144 = .ok (.iaload, 1) := by decide +kernel
theorem dX4_name_145 : decode cX4_name 145 = .ok (.iconst 1, 1) := by decide +kernel
theorem dX4_name_146 : decode cX4_name 146 = .ok (.iadd, 1) := by decide +kernel
theorem dX4_name_147 : decode cX4_name 147 = .ok (.iastore, 1) := by decide +kernel
theorem dX4_name_148 : decode cX4_name 148 = .ok (.iconst 1, 1) := by decide +kernel
theorem dX4_name_149 : decode cX4_name 149 = .ok (.ireturn, 1) := by decide +kernel
theorem dX4_circle_0 : decode cX4_circle 0 = .ok (.iload_n 1, 1) := by decide +kernel
theorem dX4_circle_1 : decode cX4_circle 1 = .ok (.ifCond .lt 11, 3) := by decide +kernel
theorem dX4_circle_4 : decode cX4_circle 4 = .ok (.iload_n 1, 1) := by decide +kernel
theorem dX4_circle_5 : decode cX4_circle 5 = .ok (.aload_n 0, 1) := by decide +kernel
theorem dX4_circle_6 : decode cX4_circle 6 = .ok (.getfield 153, 3) := by decide +kernel
theorem dX4_circle_9 : decode cX4_circle 9 = .ok (.if_icmp .lt 7, 3) := by decide +kernel
theorem dX4_circle_12 : decode cX4_circle 12 = .ok (.iconst (-1), 1) := by decide +kernel
theorem dX4_circle_13 : decode cX4_circle 13 = .ok (.goto 9, 3) := by decide +kernel
theorem dX4_circle_16 : decode cX4_circle 16 = .ok (.aload_n 0, 1) := by decide +kernel
theorem dX4_circle_17 : decode cX4_circle 17 = .ok (.getfield 115, 3) := by decide +kernel
theorem dX4_circle_20 : decode cX4_circle 20 = .ok (.iload_n 1, 1) := by decide +kernel
theorem dX4_circle_21 : decode cX4_circle 21 = .ok (.iaload, 1) := by decide +kernel
theorem dX4_circle_22 : decode cX4_circle 22 = .ok (.ireturn, 1) := by decide +kernel
theorem dX4_begin_0 : decode cX4_begin 0 = .ok (.aload_n 0, 1) := by decide +kernel
theorem dX4_begin_1 : decode cX4_begin 1 = .ok (.getfield 135, 3) := by decide +kernel
theorem dX4_begin_4 : decode cX4_begin 4 = .ok (.ifCond .eq 6, 3) := by decide +kernel
theorem dX4_begin_7 : decode cX4_begin 7 = .ok (.bipush (-2), 2) := by decide +kernel
theorem dX4_begin_9 : decode cX4_begin 9 = .ok (.ireturn, 1) := by decide +kernel
theorem dX4_begin_10 : decode cX4_begin 10 = .ok (.aload_n 0, 1) := by decide +kernel
theorem dX4_begin_11 : decode cX4_begin 11 = .ok (.iconst 1, 1) := by decide +kernel
theorem dX4_begin_12 : decode cX4_begin 12 = .ok (.putfield 135, 3) := by decide +kernel
theorem dX4_begin_15 : decode cX4_begin 15 = .ok (.iconst 1, 1) := by decide +kernel
theorem dX4_begin_16 : decode cX4_begin 16 = .ok (.ireturn, 1) := by decide +kernel
theorem dX4_made_0 : decode cX4_made 0 = .ok (.aload_n 0, 1) := by decide +kernel
theorem dX4_made_1 : decode cX4_made 1 = .ok (.getfield 139, 3) := by decide +kernel
theorem dX4_made_4 : decode cX4_made 4 = .ok (.ireturn, 1) := by decide +kernel
theorem dX4_slot_0 : decode cX4_slot 0 = .ok (.bipush 64, 2) := by decide +kernel
theorem dX4_slot_2 : decode cX4_slot 2 = .ok (.iload_n 1, 1) := by decide +kernel
theorem dX4_slot_3 : decode cX4_slot 3 = .ok (.imul, 1) := by decide +kernel
theorem dX4_slot_4 : decode cX4_slot 4 = .ok (.iload_n 2, 1) := by decide +kernel
theorem dX4_slot_5 : decode cX4_slot 5 = .ok (.aload_n 0, 1) := by decide +kernel
theorem dX4_slot_6 : decode cX4_slot 6 = .ok (.getfield 7, 3) := by decide +kernel
theorem dX4_slot_9 : decode cX4_slot 9 = .ok (.iload_n 1, 1) := by decide +kernel
theorem dX4_slot_10 : decode cX4_slot 10 = .ok (.iaload, 1) := by decide +kernel
theorem dX4_slot_11 : decode cX4_slot 11 = .ok (.irem, 1) := by decide +kernel
theorem dX4_slot_12 : decode cX4_slot 12 = .ok (.iadd, 1) := by decide +kernel
theorem dX4_slot_13 : decode cX4_slot 13 = .ok (.ireturn, 1) := by decide +kernel
theorem dX4_isKept_0 : decode cX4_isKept 0 = .ok (.aload_n 0, 1) := by decide +kernel
theorem dX4_isKept_1 : decode cX4_isKept 1 = .ok (.getfield 16, 3) := by decide +kernel
theorem dX4_isKept_4 : decode cX4_isKept 4 = .ok (.iload_n 1, 1) := by decide +kernel
theorem dX4_isKept_5 : decode cX4_isKept 5 = .ok (.iaload, 1) := by decide +kernel
theorem dX4_isKept_6 : decode cX4_isKept 6 = .ok (.iconst 2, 1) := by decide +kernel
theorem dX4_isKept_7 : decode cX4_isKept 7 = .ok (.if_icmp .ge 38, 3) := by decide +kernel
theorem dX4_isKept_10 : decode cX4_isKept 10 = .ok (.iload_n 2, 1) := by decide +kernel
theorem dX4_isKept_11 : decode cX4_isKept 11 = .ok (.ifCond .lt 34, 3) := by decide +kernel
theorem dX4_isKept_14 : decode cX4_isKept 14 = .ok (.iload_n 2, 1) := by decide +kernel
theorem dX4_isKept_15 : decode cX4_isKept 15 = .ok (.aload_n 0, 1) := by decide +kernel
theorem dX4_isKept_16 : decode cX4_isKept 16 = .ok (.getfield 13, 3) := by decide +kernel
theorem dX4_isKept_19 : decode cX4_isKept 19 = .ok (.iload_n 1, 1) := by decide +kernel
theorem dX4_isKept_20 : decode cX4_isKept 20 = .ok (.iaload, 1) := by decide +kernel
theorem dX4_isKept_21 : decode cX4_isKept 21 = .ok (.if_icmp .ge 24, 3) := by decide +kernel
theorem dX4_isKept_24 : decode cX4_isKept 24 = .ok (.iload_n 2, 1) := by decide +kernel
theorem dX4_isKept_25 : decode cX4_isKept 25 = .ok (.aload_n 0, 1) := by decide +kernel
theorem dX4_isKept_26 : decode cX4_isKept 26 = .ok (.getfield 13, 3) := by decide +kernel
theorem dX4_isKept_29 : decode cX4_isKept 29 = .ok (.iload_n 1, 1) := by decide +kernel
theorem dX4_isKept_30 : decode cX4_isKept 30 = .ok (.iaload, 1) := by decide +kernel
theorem dX4_isKept_31 : decode cX4_isKept 31 = .ok (.aload_n 0, 1) := by decide +kernel
theorem dX4_isKept_32 : decode cX4_isKept 32 = .ok (.getfield 7, 3) := by decide +kernel
theorem dX4_isKept_35 : decode cX4_isKept 35 = .ok (.iload_n 1, 1) := by decide +kernel
theorem dX4_isKept_36 : decode cX4_isKept 36 = .ok (.iaload, 1) := by decide +kernel
theorem dX4_isKept_37 : decode cX4_isKept 37 = .ok (.isub, 1) := by decide +kernel
theorem dX4_isKept_38 : decode cX4_isKept 38 = .ok (.if_icmp .lt 7, 3) := by decide +kernel
theorem dX4_isKept_41 : decode cX4_isKept 41 = .ok (.iconst 1, 1) := by decide +kernel
theorem dX4_isKept_42 : decode cX4_isKept 42 = .ok (.goto 4, 3) := by decide +kernel
theorem dX4_isKept_45 : decode cX4_isKept 45 = .ok (.iconst 0, 1) := by decide +kernel
theorem dX4_isKept_46 : decode cX4_isKept 46 = .ok (.ireturn, 1) := by decide +kernel
theorem dX4_isOpen_0 : decode cX4_isOpen 0 = .ok (.aload_n 0, 1) := by decide +kernel
theorem dX4_isOpen_1 : decode cX4_isOpen 1 = .ok (.iload_n 1, 1) := by decide +kernel
theorem dX4_isOpen_2 : decode cX4_isOpen 2 = .ok (.iload_n 2, 1) := by decide +kernel
theorem dX4_isOpen_3 : decode cX4_isOpen 3 = .ok (.invokevirtual 168, 3) := by decide +kernel
theorem dX4_isOpen_6 : decode cX4_isOpen 6 = .ok (.ifCond .eq 21, 3) := by decide +kernel
theorem dX4_isOpen_9 : decode cX4_isOpen 9 = .ok (.aload_n 0, 1) := by decide +kernel
theorem dX4_isOpen_10 : decode cX4_isOpen 10 = .ok (.getfield 23, 3) := by decide +kernel
theorem dX4_isOpen_13 : decode cX4_isOpen 13 = .ok (.aload_n 0, 1) := by decide +kernel
theorem dX4_isOpen_14 : decode cX4_isOpen 14 = .ok (.iload_n 1, 1) := by decide +kernel
theorem dX4_isOpen_15 : decode cX4_isOpen 15 = .ok (.iload_n 2, 1) := by decide +kernel
theorem dX4_isOpen_16 : decode cX4_isOpen 16 = .ok (.invokevirtual 171, 3) := by decide +kernel
theorem dX4_isOpen_19 : decode cX4_isOpen 19 = .ok (.baload, 1) := by decide +kernel
theorem dX4_isOpen_20 : decode cX4_isOpen 20 = .ok (.ifCond .eq 7, 3) := by decide +kernel
theorem dX4_isOpen_23 : decode cX4_isOpen 23 = .ok (.iconst 1, 1) := by decide +kernel
theorem dX4_isOpen_24 : decode cX4_isOpen 24 = .ok (.goto 4, 3) := by decide +kernel
theorem dX4_isOpen_27 : decode cX4_isOpen 27 = .ok (.iconst 0, 1) := by decide +kernel
theorem dX4_isOpen_28 : decode cX4_isOpen 28 = .ok (.ireturn, 1) := by decide +kernel
theorem dX4_isPublished_0 : decode cX4_isPublished 0 = .ok (.aload_n 0, 1) := by decide +kernel
theorem dX4_isPublished_1 : decode cX4_isPublished 1 = .ok (.iload_n 1, 1) := by decide +kernel
theorem dX4_isPublished_2 : decode cX4_isPublished 2 = .ok (.iload_n 2, 1) := by decide +kernel
theorem dX4_isPublished_3 : decode cX4_isPublished 3 = .ok (.invokevirtual 168, 3) := by decide +kernel
theorem dX4_isPublished_6 : decode cX4_isPublished 6 = .ok (.ifCond .eq 21, 3) := by decide +kernel
theorem dX4_isPublished_9 : decode cX4_isPublished 9 = .ok (.aload_n 0, 1) := by decide +kernel
theorem dX4_isPublished_10 : decode cX4_isPublished 10 = .ok (.getfield 23, 3) := by decide +kernel
theorem dX4_isPublished_13 : decode cX4_isPublished 13 = .ok (.aload_n 0, 1) := by decide +kernel
theorem dX4_isPublished_14 : decode cX4_isPublished 14 = .ok (.iload_n 1, 1) := by decide +kernel
theorem dX4_isPublished_15 : decode cX4_isPublished 15 = .ok (.iload_n 2, 1) := by decide +kernel
theorem dX4_isPublished_16 : decode cX4_isPublished 16 = .ok (.invokevirtual 171, 3) := by decide +kernel
theorem dX4_isPublished_19 : decode cX4_isPublished 19 = .ok (.baload, 1) := by decide +kernel
theorem dX4_isPublished_20 : decode cX4_isPublished 20 = .ok (.ifCond .ne 7, 3) := by decide +kernel
theorem dX4_isPublished_23 : decode cX4_isPublished 23 = .ok (.iconst 1, 1) := by decide +kernel
theorem dX4_isPublished_24 : decode cX4_isPublished 24 = .ok (.goto 4, 3) := by decide +kernel
theorem dX4_isPublished_27 : decode cX4_isPublished 27 = .ok (.iconst 0, 1) := by decide +kernel
theorem dX4_isPublished_28 : decode cX4_isPublished 28 = .ok (.ireturn, 1) := by decide +kernel
theorem dX4_isHolder_0 : decode cX4_isHolder 0 = .ok (.aload_n 0, 1) := by decide +kernel
theorem dX4_isHolder_1 : decode cX4_isHolder 1 = .ok (.getfield 39, 3) := by decide +kernel
theorem dX4_isHolder_4 : decode cX4_isHolder 4 = .ok (.iload_n 1, 1) := by decide +kernel
theorem dX4_isHolder_5 : decode cX4_isHolder 5 = .ok (.iaload, 1) := by decide +kernel
theorem dX4_isHolder_6 : decode cX4_isHolder 6 = .ok (.istore_n 3, 1) := by decide +kernel
theorem dX4_isHolder_7 : decode cX4_isHolder 7 = .ok (.iload_n 3, 1) := by decide +kernel
theorem dX4_isHolder_8 : decode cX4_isHolder 8 = .ok (.iconst 2, 1) := by decide +kernel
theorem dX4_isHolder_9 : decode cX4_isHolder 9 = .ok (.if_icmp .eq 20, 3) := by decide +kernel
theorem dX4_isHolder_12 : decode cX4_isHolder 12 = .ok (.iload_n 3, 1) := by decide +kernel
theorem dX4_isHolder_13 : decode cX4_isHolder 13 = .ok (.bipush 6, 2) := by decide +kernel
theorem dX4_isHolder_15 : decode cX4_isHolder 15 = .ok (.if_icmp .eq 14, 3) := by decide +kernel
theorem dX4_isHolder_18 : decode cX4_isHolder 18 = .ok (.iload_n 3, 1) := by decide +kernel
theorem dX4_isHolder_19 : decode cX4_isHolder 19 = .ok (.bipush 7, 2) := by decide +kernel
theorem dX4_isHolder_21 : decode cX4_isHolder 21 = .ok (.if_icmp .eq 8, 3) := by decide +kernel
theorem dX4_isHolder_24 : decode cX4_isHolder 24 = .ok (.iload_n 3, 1) := by decide +kernel
theorem dX4_isHolder_25 : decode cX4_isHolder 25 = .ok (.iconst 5, 1) := by decide +kernel
theorem dX4_isHolder_26 : decode cX4_isHolder 26 = .ok (.if_icmp .ne 16, 3) := by decide +kernel
theorem dX4_isHolder_29 : decode cX4_isHolder 29 = .ok (.aload_n 0, 1) := by decide +kernel
theorem dX4_isHolder_30 : decode cX4_isHolder 30 = .ok (.iload_n 1, 1) := by decide +kernel
theorem dX4_isHolder_31 : decode cX4_isHolder 31 = .ok (.iload_n 2, 1) := by decide +kernel
theorem dX4_isHolder_32 : decode cX4_isHolder 32 = .ok (.invokevirtual 127, 3) := by decide +kernel
theorem dX4_isHolder_35 : decode cX4_isHolder 35 = .ok (.ifCond .lt 7, 3) := by decide +kernel
theorem dX4_isHolder_38 : decode cX4_isHolder 38 = .ok (.iconst 1, 1) := by decide +kernel
theorem dX4_isHolder_39 : decode cX4_isHolder 39 = .ok (.goto 4, 3) := by decide +kernel
theorem dX4_isHolder_42 : decode cX4_isHolder 42 = .ok (.iconst 0, 1) := by decide +kernel
theorem dX4_isHolder_43 : decode cX4_isHolder 43 = .ok (.ireturn, 1) := by decide +kernel
theorem dX4_holderOf_0 : decode cX4_holderOf 0 = .ok (.iconst (-1), 1) := by decide +kernel
theorem dX4_holderOf_1 : decode cX4_holderOf 1 = .ok (.istore_n 3, 1) := by decide +kernel
theorem dX4_holderOf_2 : decode cX4_holderOf 2 = .ok (.aload_n 0, 1) := by decide +kernel
theorem dX4_holderOf_3 : decode cX4_holderOf 3 = .ok (.getfield 124, 3) := by decide +kernel
theorem dX4_holderOf_6 : decode cX4_holderOf 6 = .ok (.iconst 1, 1) := by decide +kernel
theorem dX4_holderOf_7 : decode cX4_holderOf 7 = .ok (.isub, 1) := by decide +kernel
theorem dX4_holderOf_8 : decode cX4_holderOf 8 = .ok (.istore 4, 2) := by decide +kernel
theorem dX4_holderOf_10 : decode cX4_holderOf 10 = .ok (.iload 4, 2) := by decide +kernel
theorem dX4_holderOf_12 : decode cX4_holderOf 12 = .ok (.ifCond .lt 44, 3) := by decide +kernel
theorem dX4_holderOf_15 : decode cX4_holderOf 15 = .ok (.aload_n 0, 1) := by decide +kernel
theorem dX4_holderOf_16 : decode cX4_holderOf 16 = .ok (.iload 4, 2) := by decide +kernel
theorem dX4_holderOf_18 : decode cX4_holderOf 18 = .ok (.iload_n 1, 1) := by decide +kernel
theorem dX4_holderOf_19 : decode cX4_holderOf 19 = .ok (.invokevirtual 174, 3) := by decide +kernel
theorem dX4_holderOf_22 : decode cX4_holderOf 22 = .ok (.ifCond .eq 26, 3) := by decide +kernel
theorem dX4_holderOf_25 : decode cX4_holderOf 25 = .ok (.aload_n 0, 1) := by decide +kernel
theorem dX4_holderOf_26 : decode cX4_holderOf 26 = .ok (.iload 4, 2) := by decide +kernel
theorem dX4_holderOf_28 : decode cX4_holderOf 28 = .ok (.iload_n 1, 1) := by decide +kernel
theorem dX4_holderOf_29 : decode cX4_holderOf 29 = .ok (.invokevirtual 177, 3) := by decide +kernel
theorem dX4_holderOf_32 : decode cX4_holderOf 32 = .ok (.iload_n 2, 1) := by decide +kernel
theorem dX4_holderOf_33 : decode cX4_holderOf 33 = .ok (.aload_n 0, 1) := by decide +kernel
theorem dX4_holderOf_34 : decode cX4_holderOf 34 = .ok (.getfield 7, 3) := by decide +kernel
theorem dX4_holderOf_37 : decode cX4_holderOf 37 = .ok (.iload_n 1, 1) := by decide +kernel
theorem dX4_holderOf_38 : decode cX4_holderOf 38 = .ok (.iaload, 1) := by decide +kernel
theorem dX4_holderOf_39 : decode cX4_holderOf 39 = .ok (.isub, 1) := by decide +kernel
theorem dX4_holderOf_40 : decode cX4_holderOf 40 = .ok (.if_icmp .gt 8, 3) := by decide +kernel
theorem dX4_holderOf_43 : decode cX4_holderOf 43 = .ok (.iload 4, 2) := by decide +kernel
theorem dX4_holderOf_45 : decode cX4_holderOf 45 = .ok (.goto 4, 3) := by decide +kernel
theorem dX4_holderOf_48 : decode cX4_holderOf 48 = .ok (.iload_n 3, 1) := by decide +kernel
theorem dX4_holderOf_49 : decode cX4_holderOf 49 = .ok (.istore_n 3, 1) := by decide +kernel
theorem dX4_holderOf_50 : decode cX4_holderOf 50 = .ok (.iinc 4 (-1), 3) := by decide +kernel
theorem dX4_holderOf_53 : decode cX4_holderOf 53 = .ok (.goto (-43), 3) := by decide +kernel
theorem dX4_holderOf_56 : decode cX4_holderOf 56 = .ok (.iload_n 3, 1) := by decide +kernel
theorem dX4_holderOf_57 : decode cX4_holderOf 57 = .ok (.ireturn, 1) := by decide +kernel
theorem dX4_isHeld_0 : decode cX4_isHeld 0 = .ok (.aload_n 0, 1) := by decide +kernel
theorem dX4_isHeld_1 : decode cX4_isHeld 1 = .ok (.iload_n 1, 1) := by decide +kernel
theorem dX4_isHeld_2 : decode cX4_isHeld 2 = .ok (.iload_n 2, 1) := by decide +kernel
theorem dX4_isHeld_3 : decode cX4_isHeld 3 = .ok (.aload_n 0, 1) := by decide +kernel
theorem dX4_isHeld_4 : decode cX4_isHeld 4 = .ok (.getfield 7, 3) := by decide +kernel
theorem dX4_isHeld_7 : decode cX4_isHeld 7 = .ok (.iload_n 1, 1) := by decide +kernel
theorem dX4_isHeld_8 : decode cX4_isHeld 8 = .ok (.iaload, 1) := by decide +kernel
theorem dX4_isHeld_9 : decode cX4_isHeld 9 = .ok (.isub, 1) := by decide +kernel
theorem dX4_isHeld_10 : decode cX4_isHeld 10 = .ok (.invokevirtual 180, 3) := by decide +kernel
theorem dX4_isHeld_13 : decode cX4_isHeld 13 = .ok (.ifCond .ne 12, 3) := by decide +kernel
theorem dX4_isHeld_16 : decode cX4_isHeld 16 = .ok (.aload_n 0, 1) := by decide +kernel
theorem dX4_isHeld_17 : decode cX4_isHeld 17 = .ok (.iload_n 1, 1) := by decide +kernel
theorem dX4_isHeld_18 : decode cX4_isHeld 18 = .ok (.iload_n 2, 1) := by decide +kernel
theorem dX4_isHeld_19 : decode cX4_isHeld 19 = .ok (.invokevirtual 183, 3) := by decide +kernel
theorem dX4_isHeld_22 : decode cX4_isHeld 22 = .ok (.ifCond .lt 7, 3) := by decide +kernel
theorem dX4_isHeld_25 : decode cX4_isHeld 25 = .ok (.iconst 1, 1) := by decide +kernel
theorem dX4_isHeld_26 : decode cX4_isHeld 26 = .ok (.goto 4, 3) := by decide +kernel
theorem dX4_isHeld_29 : decode cX4_isHeld 29 = .ok (.iconst 0, 1) := by decide +kernel
theorem dX4_isHeld_30 : decode cX4_isHeld 30 = .ok (.ireturn, 1) := by decide +kernel
theorem dX4_isHeldUp_0 : decode cX4_isHeldUp 0 = .ok (.aload_n 0, 1) := by decide +kernel
theorem dX4_isHeldUp_1 : decode cX4_isHeldUp 1 = .ok (.iload_n 1, 1) := by decide +kernel
theorem dX4_isHeldUp_2 : decode cX4_isHeldUp 2 = .ok (.aload_n 0, 1) := by decide +kernel
theorem dX4_isHeldUp_3 : decode cX4_isHeldUp 3 = .ok (.getfield 13, 3) := by decide +kernel
theorem dX4_isHeldUp_6 : decode cX4_isHeldUp 6 = .ok (.iload_n 1, 1) := by decide +kernel
theorem dX4_isHeldUp_7 : decode cX4_isHeldUp 7 = .ok (.iaload, 1) := by decide +kernel
theorem dX4_isHeldUp_8 : decode cX4_isHeldUp 8 = .ok (.invokevirtual 186, 3) := by decide +kernel
theorem dX4_isHeldUp_11 : decode cX4_isHeldUp 11 = .ok (.ireturn, 1) := by decide +kernel
theorem dX4_make_0 : decode cX4_make 0 = .ok (.aload_n 0, 1) := by decide +kernel
theorem dX4_make_1 : decode cX4_make 1 = .ok (.iload_n 1, 1) := by decide +kernel
theorem dX4_make_2 : decode cX4_make 2 = .ok (.aload_n 0, 1) := by decide +kernel
theorem dX4_make_3 : decode cX4_make 3 = .ok (.getfield 13, 3) := by decide +kernel
theorem dX4_make_6 : decode cX4_make 6 = .ok (.iload_n 1, 1) := by decide +kernel
theorem dX4_make_7 : decode cX4_make 7 = .ok (.iaload, 1) := by decide +kernel
theorem dX4_make_8 : decode cX4_make 8 = .ok (.invokevirtual 171, 3) := by decide +kernel
theorem dX4_make_11 : decode cX4_make 11 = .ok (.istore 4, 2) := by decide +kernel
theorem dX4_make_13 : decode cX4_make 13 = .ok (.aload_n 0, 1) := by decide +kernel
theorem dX4_make_14 : decode cX4_make 14 = .ok (.getfield 23, 3) := by decide +kernel
theorem dX4_make_17 : decode cX4_make 17 = .ok (.iload 4, 2) := by decide +kernel
theorem dX4_make_19 : decode cX4_make 19 = .ok (.iconst 1, 1) := by decide +kernel
theorem dX4_make_20 : decode cX4_make 20 = .ok (.bastore, 1) := by decide +kernel
theorem dX4_make_21 : decode cX4_make 21 = .ok (.aload_n 0, 1) := by decide +kernel
theorem dX4_make_22 : decode cX4_make 22 = .ok (.getfield 27, 3) := by decide +kernel
theorem dX4_make_25 : decode cX4_make 25 = .ok (.iload 4, 2) := by decide +kernel
theorem dX4_make_27 : decode cX4_make 27 = .ok (.lload_n 2, 1) := by decide +kernel
theorem dX4_make_28 : decode cX4_make 28 = .ok (.lastore, 1) := by decide +kernel
theorem dX4_make_29 : decode cX4_make 29 = .ok (.aload_n 0, 1) := by decide +kernel
theorem dX4_make_30 : decode cX4_make 30 = .ok (.getfield 30, 3) := by decide +kernel
theorem dX4_make_33 : decode cX4_make 33 = .ok (.iload 4, 2) := by decide +kernel
theorem dX4_make_35 : decode cX4_make 35 = .ok (.iconst 0, 1) := by decide +kernel
theorem dX4_make_36 : decode cX4_make 36 = .ok (.iastore, 1) := by decide +kernel
theorem dX4_make_37 : decode cX4_make 37 = .ok (.aload_n 0, 1) := by decide +kernel
theorem dX4_make_38 : decode cX4_make 38 = .ok (.getfield 33, 3) := by decide +kernel
theorem dX4_make_41 : decode cX4_make 41 = .ok (.iload 4, 2) := by decide +kernel
theorem dX4_make_43 : decode cX4_make 43 = .ok (.iconst 0, 1) := by decide +kernel
theorem dX4_make_44 : decode cX4_make 44 = .ok (.iastore, 1) := by decide +kernel
theorem dX4_make_45 : decode cX4_make 45 = .ok (.iconst 0, 1) := by decide +kernel
theorem dX4_make_46 : decode cX4_make 46 = .ok (.istore 5, 2) := by decide +kernel
theorem dX4_make_48 : decode cX4_make 48 = .ok (.iload 5, 2) := by decide +kernel
theorem dX4_make_50 : decode cX4_make 50 = .ok (.bipush 8, 2) := by decide +kernel
theorem dX4_make_52 : decode cX4_make 52 = .ok (.if_icmp .ge 23, 3) := by decide +kernel
theorem dX4_make_55 : decode cX4_make 55 = .ok (.aload_n 0, 1) := by decide +kernel
theorem dX4_make_56 : decode cX4_make 56 = .ok (.getfield 36, 3) := by decide +kernel
theorem dX4_make_59 : decode cX4_make 59 = .ok (.bipush 8, 2) := by decide +kernel
theorem dX4_make_61 : decode cX4_make 61 = .ok (.iload 4, 2) := by decide +kernel
theorem dX4_make_63 : decode cX4_make 63 = .ok (.imul, 1) := by decide +kernel
theorem dX4_make_64 : decode cX4_make 64 = .ok (.iload 5, 2) := by decide +kernel
theorem dX4_make_66 : decode cX4_make 66 = .ok (.iadd, 1) := by decide +kernel
theorem dX4_make_67 : decode cX4_make 67 = .ok (.lconst 0, 1) := by decide +kernel
theorem dX4_make_68 : decode cX4_make 68 = .ok (.lastore, 1) := by decide +kernel
theorem dX4_make_69 : decode cX4_make 69 = .ok (.iinc 5 1, 3) := by decide +kernel
theorem dX4_make_72 : decode cX4_make 72 = .ok (.goto (-24), 3) := by decide +kernel
theorem dX4_make_75 : decode cX4_make 75 = .ok (.aload_n 0, 1) := by decide +kernel
theorem dX4_make_76 : decode cX4_make 76 = .ok (.getfield 13, 3) := by decide +kernel
theorem dX4_make_79 : decode cX4_make 79 = .ok (.iload_n 1, 1) := by decide +kernel
theorem dX4_make_80 : decode cX4_make 80 = .ok (.dup2, 1) := by decide +kernel
theorem dX4_make_81 : decode cX4_make 81 = .ok (.iaload, 1) := by decide +kernel
theorem dX4_make_82 : decode cX4_make 82 = .ok (.iconst 1, 1) := by decide +kernel
theorem dX4_make_83 : decode cX4_make 83 = .ok (.iadd, 1) := by decide +kernel
theorem dX4_make_84 : decode cX4_make 84 = .ok (.iastore, 1) := by decide +kernel
theorem dX4_make_85 : decode cX4_make 85 = .ok (.aload_n 0, 1) := by decide +kernel
theorem dX4_make_86 : decode cX4_make 86 = .ok (.getfield 19, 3) := by decide +kernel
theorem dX4_make_89 : decode cX4_make 89 = .ok (.iload_n 1, 1) := by decide +kernel
theorem dX4_make_90 : decode cX4_make 90 = .ok (.lload_n 2, 1) := by decide +kernel
theorem dX4_make_91 : decode cX4_make 91 = .ok (.lastore, 1) := by decide +kernel
theorem dX4_make_92 : decode cX4_make 92 = .ok (.return_, 1) := by decide +kernel
theorem dX4_hinders_0 : decode cX4_hinders 0 = .ok (.aload_n 0, 1) := by decide +kernel
theorem dX4_hinders_1 : decode cX4_hinders 1 = .ok (.iload_n 1, 1) := by decide +kernel
theorem dX4_hinders_2 : decode cX4_hinders 2 = .ok (.invokevirtual 142, 3) := by decide +kernel
theorem dX4_hinders_5 : decode cX4_hinders 5 = .ok (.ifCond .eq 20, 3) := by decide +kernel
theorem dX4_hinders_8 : decode cX4_hinders 8 = .ok (.iload 4, 2) := by decide +kernel
theorem dX4_hinders_10 : decode cX4_hinders 10 = .ok (.iconst 1, 1) := by decide +kernel
theorem dX4_hinders_11 : decode cX4_hinders 11 = .ok (.if_icmp .lt 14, 3) := by decide +kernel
theorem dX4_hinders_14 : decode cX4_hinders 14 = .ok (.iload 4, 2) := by decide +kernel
theorem dX4_hinders_16 : decode cX4_hinders 16 = .ok (.aload_n 0, 1) := by decide +kernel
theorem dX4_hinders_17 : decode cX4_hinders 17 = .ok (.getfield 7, 3) := by decide +kernel
theorem dX4_hinders_20 : decode cX4_hinders 20 = .ok (.iload_n 1, 1) := by decide +kernel
theorem dX4_hinders_21 : decode cX4_hinders 21 = .ok (.iaload, 1) := by decide +kernel
theorem dX4_hinders_22 : decode cX4_hinders 22 = .ok (.if_icmp .le 5, 3) := by decide +kernel
theorem dX4_hinders_25 : decode cX4_hinders 25 = .ok (.iconst (-1), 1) := by decide +kernel
theorem dX4_hinders_26 : decode cX4_hinders 26 = .ok (.ireturn, 1) := by decide +kernel
theorem dX4_hinders_27 : decode cX4_hinders 27 = .ok (.aload_n 0, 1) := by decide +kernel
theorem dX4_hinders_28 : decode cX4_hinders 28 = .ok (.getfield 135, 3) := by decide +kernel
theorem dX4_hinders_31 : decode cX4_hinders 31 = .ok (.ifCond .ne 6, 3) := by decide +kernel
theorem dX4_hinders_34 : decode cX4_hinders 34 = .ok (.bipush (-2), 2) := by decide +kernel
theorem dX4_hinders_36 : decode cX4_hinders 36 = .ok (.ireturn, 1) := by decide +kernel
theorem dX4_hinders_37 : decode cX4_hinders 37 = .ok (.aload_n 0, 1) := by decide +kernel
theorem dX4_hinders_38 : decode cX4_hinders 38 = .ok (.getfield 16, 3) := by decide +kernel
theorem dX4_hinders_41 : decode cX4_hinders 41 = .ok (.iload_n 1, 1) := by decide +kernel
theorem dX4_hinders_42 : decode cX4_hinders 42 = .ok (.iaload, 1) := by decide +kernel
theorem dX4_hinders_43 : decode cX4_hinders 43 = .ok (.iconst 2, 1) := by decide +kernel
theorem dX4_hinders_44 : decode cX4_hinders 44 = .ok (.if_icmp .ne 6, 3) := by decide +kernel
theorem dX4_hinders_47 : decode cX4_hinders 47 = .ok (.bipush (-7), 2) := by decide +kernel
theorem dX4_hinders_49 : decode cX4_hinders 49 = .ok (.ireturn, 1) := by decide +kernel
theorem dX4_hinders_50 : decode cX4_hinders 50 = .ok (.aload_n 0, 1) := by decide +kernel
theorem dX4_hinders_51 : decode cX4_hinders 51 = .ok (.getfield 16, 3) := by decide +kernel
theorem dX4_hinders_54 : decode cX4_hinders 54 = .ok (.iload_n 1, 1) := by decide +kernel
theorem dX4_hinders_55 : decode cX4_hinders 55 = .ok (.iaload, 1) := by decide +kernel
theorem dX4_hinders_56 : decode cX4_hinders 56 = .ok (.iconst 1, 1) := by decide +kernel
theorem dX4_hinders_57 : decode cX4_hinders 57 = .ok (.if_icmp .ne 6, 3) := by decide +kernel
theorem dX4_hinders_60 : decode cX4_hinders 60 = .ok (.bipush (-8), 2) := by decide +kernel
theorem dX4_hinders_62 : decode cX4_hinders 62 = .ok (.ireturn, 1) := by decide +kernel
theorem dX4_hinders_63 : decode cX4_hinders 63 = .ok (.aload_n 0, 1) := by decide +kernel
theorem dX4_hinders_64 : decode cX4_hinders 64 = .ok (.getfield 13, 3) := by decide +kernel
theorem dX4_hinders_67 : decode cX4_hinders 67 = .ok (.iload_n 1, 1) := by decide +kernel
theorem dX4_hinders_68 : decode cX4_hinders 68 = .ok (.iaload, 1) := by decide +kernel
theorem dX4_hinders_69 : decode cX4_hinders 69 = .ok (.ifCond .le 17, 3) := by decide +kernel
theorem dX4_hinders_72 : decode cX4_hinders 72 = .ok (.lload_n 2, 1) := by decide +kernel
theorem dX4_hinders_73 : decode cX4_hinders 73 = .ok (.aload_n 0, 1) := by decide +kernel
theorem dX4_hinders_74 : decode cX4_hinders 74 = .ok (.getfield 19, 3) := by decide +kernel
theorem dX4_hinders_77 : decode cX4_hinders 77 = .ok (.iload_n 1, 1) := by decide +kernel
theorem dX4_hinders_78 : decode cX4_hinders 78 = .ok (.laload, 1) := by decide +kernel
theorem dX4_hinders_79 : decode cX4_hinders 79 = .ok (.lcmp, 1) := by decide +kernel
theorem dX4_hinders_80 : decode cX4_hinders 80 = .ok (.ifCond .ge 6, 3) := by decide +kernel
theorem dX4_hinders_83 : decode cX4_hinders 83 = .ok (.bipush (-9), 2) := by decide +kernel
theorem dX4_hinders_85 : decode cX4_hinders 85 = .ok (.ireturn, 1) := by decide +kernel
theorem dX4_hinders_86 : decode cX4_hinders 86 = .ok (.iconst 0, 1) := by decide +kernel
theorem dX4_hinders_87 : decode cX4_hinders 87 = .ok (.istore 5, 2) := by decide +kernel
theorem dX4_hinders_89 : decode cX4_hinders 89 = .ok (.iload 5, 2) := by decide +kernel
theorem dX4_hinders_91 : decode cX4_hinders 91 = .ok (.iload 4, 2) := by decide +kernel
theorem dX4_hinders_93 : decode cX4_hinders 93 = .ok (.if_icmp .ge 44, 3) := by decide +kernel
theorem dX4_hinders_96 : decode cX4_hinders 96 = .ok (.aload_n 0, 1) := by decide +kernel
theorem dX4_hinders_97 : decode cX4_hinders 97 = .ok (.getfield 13, 3) := by decide +kernel
theorem dX4_hinders_100 : decode cX4_hinders 100 = .ok (.iload_n 1, 1) := by decide +kernel
theorem dX4_hinders_101 : decode cX4_hinders 101 = .ok (.iaload, 1) := by decide +kernel
theorem dX4_hinders_102 : decode cX4_hinders 102 = .ok (.iload 5, 2) := by decide +kernel
theorem dX4_hinders_104 : decode cX4_hinders 104 = .ok (.iadd, 1) := by decide +kernel
theorem dX4_hinders_105 : decode cX4_hinders 105 = .ok (.istore 6, 2) := by decide +kernel
theorem dX4_hinders_107 : decode cX4_hinders 107 = .ok (.aload_n 0, 1) := by decide +kernel
theorem dX4_hinders_108 : decode cX4_hinders 108 = .ok (.iload_n 1, 1) := by decide +kernel
theorem dX4_hinders_109 : decode cX4_hinders 109 = .ok (.iload 6, 2) := by decide +kernel
theorem dX4_hinders_111 : decode cX4_hinders 111 = .ok (.invokevirtual 186, 3) := by decide +kernel
theorem dX4_hinders_114 : decode cX4_hinders 114 = .ok (.ifCond .eq 17, 3) := by decide +kernel
theorem dX4_hinders_117 : decode cX4_hinders 117 = .ok (.aload_n 0, 1) := by decide +kernel
theorem dX4_hinders_118 : decode cX4_hinders 118 = .ok (.aload_n 0, 1) := by decide +kernel
theorem dX4_hinders_119 : decode cX4_hinders 119 = .ok (.iload_n 1, 1) := by decide +kernel
theorem dX4_hinders_120 : decode cX4_hinders 120 = .ok (.iload 6, 2) := by decide +kernel
theorem dX4_hinders_122 : decode cX4_hinders 122 = .ok (.invokevirtual 183, 3) := by decide +kernel
theorem dX4_hinders_125 : decode cX4_hinders 125 = .ok (.putfield 108, 3) := by decide +kernel
theorem dX4_hinders_128 : decode cX4_hinders 128 = .ok (.bipush (-10), 2) := by decide +kernel
theorem dX4_hinders_130 : decode cX4_hinders 130 = .ok (.ireturn, 1) := by decide +kernel
theorem dX4_hinders_131 : decode cX4_hinders 131 = .ok (.iinc 5 1, 3) := by decide +kernel
theorem dX4_hinders_134 : decode cX4_hinders 134 = .ok (.goto (-45), 3) := by decide +kernel
theorem dX4_hinders_137 : decode cX4_hinders 137 = .ok (.iconst 0, 1) := by decide +kernel
theorem dX4_hinders_138 : decode cX4_hinders 138 = .ok (.ireturn, 1) := by decide +kernel
theorem dX4_makeAll_0 : decode cX4_makeAll 0 = .ok (.aload_n 0, 1) := by decide +kernel
theorem dX4_makeAll_1 : decode cX4_makeAll 1 = .ok (.iload_n 1, 1) := by decide +kernel
theorem dX4_makeAll_2 : decode cX4_makeAll 2 = .ok (.lload_n 2, 1) := by decide +kernel
theorem dX4_makeAll_3 : decode cX4_makeAll 3 = .ok (.iload 4, 2) := by decide +kernel
theorem dX4_makeAll_5 : decode cX4_makeAll 5 = .ok (.invokevirtual 189, 3) := by decide +kernel
theorem dX4_makeAll_8 : decode cX4_makeAll 8 = .ok (.istore 5, 2) := by decide +kernel
theorem dX4_makeAll_10 : decode cX4_makeAll 10 = .ok (.iload 5, 2) := by decide +kernel
theorem dX4_makeAll_12 : decode cX4_makeAll 12 = .ok (.ifCond .ge 12, 3) := by decide +kernel
theorem dX4_makeAll_15 : decode cX4_makeAll 15 = .ok (.aload_n 0, 1) := by decide +kernel
theorem dX4_makeAll_16 : decode cX4_makeAll 16 = .ok (.iload 5, 2) := by decide +kernel
theorem dX4_makeAll_18 : decode cX4_makeAll 18 = .ok (.putfield 193, 3) := by decide +kernel
theorem dX4_makeAll_21 : decode cX4_makeAll 21 = .ok (.iload 5, 2) := by decide +kernel
theorem dX4_makeAll_23 : decode cX4_makeAll 23 = .ok (.ireturn, 1) := by decide +kernel
theorem dX4_makeAll_24 : decode cX4_makeAll 24 = .ok (.aload_n 0, 1) := by decide +kernel
theorem dX4_makeAll_25 : decode cX4_makeAll 25 = .ok (.getfield 13, 3) := by decide +kernel
theorem dX4_makeAll_28 : decode cX4_makeAll 28 = .ok (.iload_n 1, 1) := by decide +kernel
theorem dX4_makeAll_29 : decode cX4_makeAll 29 = .ok (.iaload, 1) := by decide +kernel
theorem dX4_makeAll_30 : decode cX4_makeAll 30 = .ok (.istore 6, 2) := by decide +kernel
theorem dX4_makeAll_32 : decode cX4_makeAll 32 = .ok (.iconst 0, 1) := by decide +kernel
theorem dX4_makeAll_33 : decode cX4_makeAll 33 = .ok (.istore 7, 2) := by decide +kernel
theorem dX4_makeAll_35 : decode cX4_makeAll 35 = .ok (.iload 7, 2) := by decide +kernel
theorem dX4_makeAll_37 : decode cX4_makeAll 37 = .ok (.iload 4, 2) := by decide +kernel
theorem dX4_makeAll_39 : decode cX4_makeAll 39 = .ok (.if_icmp .ge 15, 3) := by decide +kernel
theorem dX4_makeAll_42 : decode cX4_makeAll 42 = .ok (.aload_n 0, 1) := by decide +kernel
theorem dX4_makeAll_43 : decode cX4_makeAll 43 = .ok (.iload_n 1, 1) := by decide +kernel
theorem dX4_makeAll_44 : decode cX4_makeAll 44 = .ok (.lload_n 2, 1) := by decide +kernel
theorem dX4_makeAll_45 : decode cX4_makeAll 45 = .ok (.invokevirtual 196, 3) := by decide +kernel
theorem dX4_makeAll_48 : decode cX4_makeAll 48 = .ok (.iinc 7 1, 3) := by decide +kernel
theorem dX4_makeAll_51 : decode cX4_makeAll 51 = .ok (.goto (-16), 3) := by decide +kernel
theorem dX4_makeAll_54 : decode cX4_makeAll 54 = .ok (.iload 6, 2) := by decide +kernel
theorem dX4_makeAll_56 : decode cX4_makeAll 56 = .ok (.ireturn, 1) := by decide +kernel
theorem dX4_claim_0 : decode cX4_claim 0 = .ok (.aload_n 0, 1) := by decide +kernel
theorem dX4_claim_1 : decode cX4_claim 1 = .ok (.iload_n 1, 1) := by decide +kernel
theorem dX4_claim_2 : decode cX4_claim 2 = .ok (.lload_n 2, 1) := by decide +kernel
theorem dX4_claim_3 : decode cX4_claim 3 = .ok (.iconst 1, 1) := by decide +kernel
theorem dX4_claim_4 : decode cX4_claim 4 = .ok (.invokevirtual 200, 3) := by decide +kernel
theorem dX4_claim_7 : decode cX4_claim 7 = .ok (.ireturn, 1) := by decide +kernel
theorem dX4_batch_0 : decode cX4_batch 0 = .ok (.aload_n 0, 1) := by decide +kernel
theorem dX4_batch_1 : decode cX4_batch 1 = .ok (.iload_n 1, 1) := by decide +kernel
theorem dX4_batch_2 : decode cX4_batch 2 = .ok (.lload_n 2, 1) := by decide +kernel
theorem dX4_batch_3 : decode cX4_batch 3 = .ok (.iload 4, 2) := by decide +kernel
theorem dX4_batch_5 : decode cX4_batch 5 = .ok (.invokevirtual 200, 3) := by decide +kernel
theorem dX4_batch_8 : decode cX4_batch 8 = .ok (.ireturn, 1) := by decide +kernel
theorem dX4_by_0 : decode cX4_by 0 = .ok (.aload_n 0, 1) := by decide +kernel
theorem dX4_by_1 : decode cX4_by 1 = .ok (.getfield 108, 3) := by decide +kernel
theorem dX4_by_4 : decode cX4_by 4 = .ok (.ireturn, 1) := by decide +kernel
theorem dX4_again_0 : decode cX4_again 0 = .ok (.aload_n 0, 1) := by decide +kernel
theorem dX4_again_1 : decode cX4_again 1 = .ok (.getfield 193, 3) := by decide +kernel
theorem dX4_again_4 : decode cX4_again 4 = .ok (.ifCond .ge 10, 3) := by decide +kernel
theorem dX4_again_7 : decode cX4_again 7 = .ok (.aload_n 0, 1) := by decide +kernel
theorem dX4_again_8 : decode cX4_again 8 = .ok (.getfield 193, 3) := by decide +kernel
theorem dX4_again_11 : decode cX4_again 11 = .ok (.goto 9, 3) := by decide +kernel
theorem dX4_again_14 : decode cX4_again 14 = .ok (.aload_n 0, 1) := by decide +kernel
theorem dX4_again_15 : decode cX4_again 15 = .ok (.bipush 6, 2) := by decide +kernel
theorem dX4_again_17 : decode cX4_again 17 = .ok (.invokevirtual 131, 3) := by decide +kernel
theorem dX4_again_20 : decode cX4_again 20 = .ok (.ireturn, 1) := by decide +kernel
theorem dX4_fill_0 : decode cX4_fill 0 = .ok (.aload_n 0, 1) := by decide +kernel
theorem dX4_fill_1 : decode cX4_fill 1 = .ok (.iload_n 1, 1) := by decide +kernel
theorem dX4_fill_2 : decode cX4_fill 2 = .ok (.invokevirtual 142, 3) := by decide +kernel
theorem dX4_fill_5 : decode cX4_fill 5 = .ok (.ifCond .ne 5, 3) := by decide +kernel
theorem dX4_fill_8 : decode cX4_fill 8 = .ok (.iconst (-1), 1) := by decide +kernel
theorem dX4_fill_9 : decode cX4_fill 9 = .ok (.ireturn, 1) := by decide +kernel
theorem dX4_fill_10 : decode cX4_fill 10 = .ok (.aload_n 0, 1) := by decide +kernel
theorem dX4_fill_11 : decode cX4_fill 11 = .ok (.getfield 135, 3) := by decide +kernel
theorem dX4_fill_14 : decode cX4_fill 14 = .ok (.ifCond .ne 6, 3) := by decide +kernel
theorem dX4_fill_17 : decode cX4_fill 17 = .ok (.bipush (-2), 2) := by decide +kernel
theorem dX4_fill_19 : decode cX4_fill 19 = .ok (.ireturn, 1) := by decide +kernel
theorem dX4_fill_20 : decode cX4_fill 20 = .ok (.aload_n 0, 1) := by decide +kernel
theorem dX4_fill_21 : decode cX4_fill 21 = .ok (.getfield 16, 3) := by decide +kernel
theorem dX4_fill_24 : decode cX4_fill 24 = .ok (.iload_n 1, 1) := by decide +kernel
theorem dX4_fill_25 : decode cX4_fill 25 = .ok (.iaload, 1) := by decide +kernel
theorem dX4_fill_26 : decode cX4_fill 26 = .ok (.iconst 2, 1) := by decide +kernel
theorem dX4_fill_27 : decode cX4_fill 27 = .ok (.if_icmp .ne 9, 3) := by decide +kernel
theorem dX4_fill_30 : decode cX4_fill 30 = .ok (.aload_n 0, 1) := by decide +kernel
theorem dX4_fill_31 : decode cX4_fill 31 = .ok (.iconst 1, 1) := by decide +kernel
theorem dX4_fill_32 : decode cX4_fill 32 = .ok (.invokevirtual 131, 3) := by decide +kernel
theorem dX4_fill_35 : decode cX4_fill 35 = .ok (.ireturn, 1) := by decide +kernel
theorem dX4_fill_36 : decode cX4_fill 36 = .ok (.aload_n 0, 1) := by decide +kernel
theorem dX4_fill_37 : decode cX4_fill 37 = .ok (.iload_n 1, 1) := by decide +kernel
theorem dX4_fill_38 : decode cX4_fill 38 = .ok (.iload_n 2, 1) := by decide +kernel
theorem dX4_fill_39 : decode cX4_fill 39 = .ok (.invokevirtual 180, 3) := by decide +kernel
theorem dX4_fill_42 : decode cX4_fill 42 = .ok (.ifCond .ne 6, 3) := by decide +kernel
theorem dX4_fill_45 : decode cX4_fill 45 = .ok (.bipush (-11), 2) := by decide +kernel
theorem dX4_fill_47 : decode cX4_fill 47 = .ok (.ireturn, 1) := by decide +kernel
theorem dX4_fill_48 : decode cX4_fill 48 = .ok (.iload_n 3, 1) := by decide +kernel
theorem dX4_fill_49 : decode cX4_fill 49 = .ok (.ifCond .lt 9, 3) := by decide +kernel
theorem dX4_fill_52 : decode cX4_fill 52 = .ok (.iload_n 3, 1) := by decide +kernel
theorem dX4_fill_53 : decode cX4_fill 53 = .ok (.bipush 7, 2) := by decide +kernel
theorem dX4_fill_55 : decode cX4_fill 55 = .ok (.if_icmp .le 9, 3) := by decide +kernel
theorem dX4_fill_58 : decode cX4_fill 58 = .ok (.aload_n 0, 1) := by decide +kernel
theorem dX4_fill_59 : decode cX4_fill 59 = .ok (.iconst 2, 1) := by decide +kernel
theorem dX4_fill_60 : decode cX4_fill 60 = .ok (.invokevirtual 131, 3) := by decide +kernel
theorem dX4_fill_63 : decode cX4_fill 63 = .ok (.ireturn, 1) := by decide +kernel
theorem dX4_fill_64 : decode cX4_fill 64 = .ok (.aload_n 0, 1) := by decide +kernel
theorem dX4_fill_65 : decode cX4_fill 65 = .ok (.getfield 36, 3) := by decide +kernel
theorem dX4_fill_68 : decode cX4_fill 68 = .ok (.bipush 8, 2) := by decide +kernel
theorem dX4_fill_70 : decode cX4_fill 70 = .ok (.aload_n 0, 1) := by decide +kernel
theorem dX4_fill_71 : decode cX4_fill 71 = .ok (.iload_n 1, 1) := by decide +kernel
theorem dX4_fill_72 : decode cX4_fill 72 = .ok (.iload_n 2, 1) := by decide +kernel
theorem dX4_fill_73 : decode cX4_fill 73 = .ok (.invokevirtual 171, 3) := by decide +kernel
theorem dX4_fill_76 : decode cX4_fill 76 = .ok (.imul, 1) := by decide +kernel
theorem dX4_fill_77 : decode cX4_fill 77 = .ok (.iload_n 3, 1) := by decide +kernel
theorem dX4_fill_78 : decode cX4_fill 78 = .ok (.iadd, 1) := by decide +kernel
theorem dX4_fill_79 : decode cX4_fill 79 = .ok (.lload 4, 2) := by decide +kernel
theorem dX4_fill_81 : decode cX4_fill 81 = .ok (.lastore, 1) := by decide +kernel
theorem dX4_fill_82 : decode cX4_fill 82 = .ok (.iconst 1, 1) := by decide +kernel
theorem dX4_fill_83 : decode cX4_fill 83 = .ok (.ireturn, 1) := by decide +kernel
theorem dX4_copy_0 : decode cX4_copy 0 = .ok (.aload_n 0, 1) := by decide +kernel
theorem dX4_copy_1 : decode cX4_copy 1 = .ok (.iload_n 1, 1) := by decide +kernel
theorem dX4_copy_2 : decode cX4_copy 2 = .ok (.invokevirtual 142, 3) := by decide +kernel
theorem dX4_copy_5 : decode cX4_copy 5 = .ok (.ifCond .eq 11, 3) := by decide +kernel
theorem dX4_copy_8 : decode cX4_copy 8 = .ok (.aload_n 0, 1) := by decide +kernel
theorem dX4_copy_9 : decode cX4_copy 9 = .ok (.iload_n 3, 1) := by decide +kernel
theorem dX4_copy_10 : decode cX4_copy 10 = .ok (.invokevirtual 146, 3) := by decide +kernel
theorem dX4_copy_13 : decode cX4_copy 13 = .ok (.ifCond .ne 5, 3) := by decide +kernel
theorem dX4_copy_16 : decode cX4_copy 16 = .ok (.iconst (-1), 1) := by decide +kernel
theorem dX4_copy_17 : decode cX4_copy 17 = .ok (.ireturn, 1) := by decide +kernel
theorem dX4_copy_18 : decode cX4_copy 18 = .ok (.aload_n 0, 1) := by decide +kernel
theorem dX4_copy_19 : decode cX4_copy 19 = .ok (.getfield 135, 3) := by decide +kernel
theorem dX4_copy_22 : decode cX4_copy 22 = .ok (.ifCond .ne 6, 3) := by decide +kernel
theorem dX4_copy_25 : decode cX4_copy 25 = .ok (.bipush (-2), 2) := by decide +kernel
theorem dX4_copy_27 : decode cX4_copy 27 = .ok (.ireturn, 1) := by decide +kernel
theorem dX4_copy_28 : decode cX4_copy 28 = .ok (.aload_n 0, 1) := by decide +kernel
theorem dX4_copy_29 : decode cX4_copy 29 = .ok (.getfield 16, 3) := by decide +kernel
theorem dX4_copy_32 : decode cX4_copy 32 = .ok (.iload_n 1, 1) := by decide +kernel
theorem dX4_copy_33 : decode cX4_copy 33 = .ok (.iaload, 1) := by decide +kernel
theorem dX4_copy_34 : decode cX4_copy 34 = .ok (.iconst 2, 1) := by decide +kernel
theorem dX4_copy_35 : decode cX4_copy 35 = .ok (.if_icmp .ne 9, 3) := by decide +kernel
theorem dX4_copy_38 : decode cX4_copy 38 = .ok (.aload_n 0, 1) := by decide +kernel
theorem dX4_copy_39 : decode cX4_copy 39 = .ok (.iconst 1, 1) := by decide +kernel
theorem dX4_copy_40 : decode cX4_copy 40 = .ok (.invokevirtual 131, 3) := by decide +kernel
theorem dX4_copy_43 : decode cX4_copy 43 = .ok (.ireturn, 1) := by decide +kernel
theorem dX4_copy_44 : decode cX4_copy 44 = .ok (.aload_n 0, 1) := by decide +kernel
theorem dX4_copy_45 : decode cX4_copy 45 = .ok (.iload_n 1, 1) := by decide +kernel
theorem dX4_copy_46 : decode cX4_copy 46 = .ok (.iload_n 2, 1) := by decide +kernel
theorem dX4_copy_47 : decode cX4_copy 47 = .ok (.invokevirtual 180, 3) := by decide +kernel
theorem dX4_copy_50 : decode cX4_copy 50 = .ok (.ifCond .ne 6, 3) := by decide +kernel
theorem dX4_copy_53 : decode cX4_copy 53 = .ok (.bipush (-11), 2) := by decide +kernel
theorem dX4_copy_55 : decode cX4_copy 55 = .ok (.ireturn, 1) := by decide +kernel
theorem dX4_copy_56 : decode cX4_copy 56 = .ok (.iload 4, 2) := by decide +kernel
theorem dX4_copy_58 : decode cX4_copy 58 = .ok (.ifCond .lt 25, 3) := by decide +kernel
theorem dX4_copy_61 : decode cX4_copy 61 = .ok (.iload 5, 2) := by decide +kernel
theorem dX4_copy_63 : decode cX4_copy 63 = .ok (.ifCond .lt 20, 3) := by decide +kernel
theorem dX4_copy_66 : decode cX4_copy 66 = .ok (.iload 5, 2) := by decide +kernel
theorem dX4_copy_68 : decode cX4_copy 68 = .ok (.bipush 8, 2) := by decide +kernel
theorem dX4_copy_70 : decode cX4_copy 70 = .ok (.if_icmp .gt 13, 3) := by decide +kernel
theorem dX4_copy_73 : decode cX4_copy 73 = .ok (.iload 4, 2) := by decide +kernel
theorem dX4_copy_75 : decode cX4_copy 75 = .ok (.bipush 8, 2) := by decide +kernel
theorem dX4_copy_77 : decode cX4_copy 77 = .ok (.iload 5, 2) := by decide +kernel
theorem dX4_copy_79 : decode cX4_copy 79 = .ok (.isub, 1) := by decide +kernel
theorem dX4_copy_80 : decode cX4_copy 80 = .ok (.if_icmp .le 9, 3) := by decide +kernel
theorem dX4_copy_83 : decode cX4_copy 83 = .ok (.aload_n 0, 1) := by decide +kernel
theorem dX4_copy_84 : decode cX4_copy 84 = .ok (.iconst 5, 1) := by decide +kernel
theorem dX4_copy_85 : decode cX4_copy 85 = .ok (.invokevirtual 131, 3) := by decide +kernel
theorem dX4_copy_88 : decode cX4_copy 88 = .ok (.ireturn, 1) := by decide +kernel
theorem dX4_copy_89 : decode cX4_copy 89 = .ok (.iconst 0, 1) := by decide +kernel
theorem dX4_copy_90 : decode cX4_copy 90 = .ok (.istore 6, 2) := by decide +kernel
theorem dX4_copy_92 : decode cX4_copy 92 = .ok (.iload 6, 2) := by decide +kernel
theorem dX4_copy_94 : decode cX4_copy 94 = .ok (.iload 5, 2) := by decide +kernel
theorem dX4_copy_96 : decode cX4_copy 96 = .ok (.if_icmp .ge 41, 3) := by decide +kernel
theorem dX4_copy_99 : decode cX4_copy 99 = .ok (.aload_n 0, 1) := by decide +kernel
theorem dX4_copy_100 : decode cX4_copy 100 = .ok (.getfield 36, 3) := by decide +kernel
theorem dX4_copy_103 : decode cX4_copy 103 = .ok (.bipush 8, 2) := by decide +kernel
theorem dX4_copy_105 : decode cX4_copy 105 = .ok (.aload_n 0, 1) := by decide +kernel
theorem dX4_copy_106 : decode cX4_copy 106 = .ok (.iload_n 1, 1) := by decide +kernel
theorem dX4_copy_107 : decode cX4_copy 107 = .ok (.iload_n 2, 1) := by decide +kernel
theorem dX4_copy_108 : decode cX4_copy 108 = .ok (.invokevirtual 171, 3) := by decide +kernel
theorem dX4_copy_111 : decode cX4_copy 111 = .ok (.imul, 1) := by decide +kernel
theorem dX4_copy_112 : decode cX4_copy 112 = .ok (.iload 6, 2) := by decide +kernel
theorem dX4_copy_114 : decode cX4_copy 114 = .ok (.iadd, 1) := by decide +kernel
theorem dX4_copy_115 : decode cX4_copy 115 = .ok (.aload_n 0, 1) := by decide +kernel
theorem dX4_copy_116 : decode cX4_copy 116 = .ok (.getfield 87, 3) := by decide +kernel
theorem dX4_copy_119 : decode cX4_copy 119 = .ok (.bipush 8, 2) := by decide +kernel
theorem dX4_copy_121 : decode cX4_copy 121 = .ok (.iload_n 3, 1) := by decide +kernel
theorem dX4_copy_122 : decode cX4_copy 122 = .ok (.imul, 1) := by decide +kernel
theorem dX4_copy_123 : decode cX4_copy 123 = .ok (.iload 4, 2) := by decide +kernel
theorem dX4_copy_125 : decode cX4_copy 125 = .ok (.iadd, 1) := by decide +kernel
theorem dX4_copy_126 : decode cX4_copy 126 = .ok (.iload 6, 2) := by decide +kernel
theorem dX4_copy_128 : decode cX4_copy 128 = .ok (.iadd, 1) := by decide +kernel
theorem dX4_copy_129 : decode cX4_copy 129 = .ok (.laload, 1) := by decide +kernel
theorem dX4_copy_130 : decode cX4_copy 130 = .ok (.lastore, 1) := by decide +kernel
theorem dX4_copy_131 : decode cX4_copy 131 = .ok (.iinc 6 1, 3) := by decide +kernel
theorem dX4_copy_134 : decode cX4_copy 134 = .ok (.goto (-42), 3) := by decide +kernel
theorem dX4_copy_137 : decode cX4_copy 137 = .ok (.iconst 1, 1) := by decide +kernel
theorem dX4_copy_138 : decode cX4_copy 138 = .ok (.ireturn, 1) := by decide +kernel
theorem dX4_enter_0 : decode cX4_enter 0 = .ok (.bipush 32, 2) := by decide +kernel
theorem dX4_enter_2 : decode cX4_enter 2 = .ok (.iload_n 1, 1) := by decide +kernel
theorem dX4_enter_3 : decode cX4_enter 3 = .ok (.imul, 1) := by decide +kernel
theorem dX4_enter_4 : decode cX4_enter 4 = .ok (.iload_n 2, 1) := by decide +kernel
theorem dX4_enter_5 : decode cX4_enter 5 = .ok (.iadd, 1) := by decide +kernel
theorem dX4_enter_6 : decode cX4_enter 6 = .ok (.istore 5, 2) := by decide +kernel
theorem dX4_enter_8 : decode cX4_enter 8 = .ok (.aload_n 0, 1) := by decide +kernel
theorem dX4_enter_9 : decode cX4_enter 9 = .ok (.iload_n 3, 1) := by decide +kernel
theorem dX4_enter_10 : decode cX4_enter 10 = .ok (.iload 4, 2) := by decide +kernel
theorem dX4_enter_12 : decode cX4_enter 12 = .ok (.invokevirtual 171, 3) := by decide +kernel
theorem dX4_enter_15 : decode cX4_enter 15 = .ok (.istore 6, 2) := by decide +kernel
theorem dX4_enter_17 : decode cX4_enter 17 = .ok (.aload_n 0, 1) := by decide +kernel
theorem dX4_enter_18 : decode cX4_enter 18 = .ok (.getfield 93, 3) := by decide +kernel
theorem dX4_enter_21 : decode cX4_enter 21 = .ok (.iload 5, 2) := by decide +kernel
theorem dX4_enter_23 : decode cX4_enter 23 = .ok (.iload 4, 2) := by decide +kernel
theorem dX4_enter_25 : decode cX4_enter 25 = .ok (.iastore, 1) := by decide +kernel
theorem dX4_enter_26 : decode cX4_enter 26 = .ok (.aload_n 0, 1) := by decide +kernel
theorem dX4_enter_27 : decode cX4_enter 27 = .ok (.getfield 96, 3) := by decide +kernel
theorem dX4_enter_30 : decode cX4_enter 30 = .ok (.iload 5, 2) := by decide +kernel
theorem dX4_enter_32 : decode cX4_enter 32 = .ok (.aload_n 0, 1) := by decide +kernel
theorem dX4_enter_33 : decode cX4_enter 33 = .ok (.getfield 27, 3) := by decide +kernel
theorem dX4_enter_36 : decode cX4_enter 36 = .ok (.iload 6, 2) := by decide +kernel
theorem dX4_enter_38 : decode cX4_enter 38 = .ok (.laload, 1) := by decide +kernel
theorem dX4_enter_39 : decode cX4_enter 39 = .ok (.lastore, 1) := by decide +kernel
theorem dX4_enter_40 : decode cX4_enter 40 = .ok (.aload_n 0, 1) := by decide +kernel
theorem dX4_enter_41 : decode cX4_enter 41 = .ok (.getfield 99, 3) := by decide +kernel
theorem dX4_enter_44 : decode cX4_enter 44 = .ok (.iload 5, 2) := by decide +kernel
theorem dX4_enter_46 : decode cX4_enter 46 = .ok (.aload_n 0, 1) := by decide +kernel
theorem dX4_enter_47 : decode cX4_enter 47 = .ok (.getfield 30, 3) := by decide +kernel
theorem dX4_enter_50 : decode cX4_enter 50 = .ok (.iload 6, 2) := by decide +kernel
theorem dX4_enter_52 : decode cX4_enter 52 = .ok (.iaload, 1) := by decide +kernel
theorem dX4_enter_53 : decode cX4_enter 53 = .ok (.iastore, 1) := by decide +kernel
theorem dX4_enter_54 : decode cX4_enter 54 = .ok (.aload_n 0, 1) := by decide +kernel
theorem dX4_enter_55 : decode cX4_enter 55 = .ok (.getfield 102, 3) := by decide +kernel
theorem dX4_enter_58 : decode cX4_enter 58 = .ok (.iload 5, 2) := by decide +kernel
theorem dX4_enter_60 : decode cX4_enter 60 = .ok (.aload_n 0, 1) := by decide +kernel
theorem dX4_enter_61 : decode cX4_enter 61 = .ok (.getfield 33, 3) := by decide +kernel
theorem dX4_enter_64 : decode cX4_enter 64 = .ok (.iload 6, 2) := by decide +kernel
theorem dX4_enter_66 : decode cX4_enter 66 = .ok (.iaload, 1) := by decide +kernel
theorem dX4_enter_67 : decode cX4_enter 67 = .ok (.iastore, 1) := by decide +kernel
theorem dX4_enter_68 : decode cX4_enter 68 = .ok (.iconst 0, 1) := by decide +kernel
theorem dX4_enter_69 : decode cX4_enter 69 = .ok (.istore 7, 2) := by decide +kernel
theorem dX4_enter_71 : decode cX4_enter 71 = .ok (.iload 7, 2) := by decide +kernel
theorem dX4_enter_73 : decode cX4_enter 73 = .ok (.bipush 8, 2) := by decide +kernel
theorem dX4_enter_75 : decode cX4_enter 75 = .ok (.if_icmp .ge 35, 3) := by decide +kernel
theorem dX4_enter_78 : decode cX4_enter 78 = .ok (.aload_n 0, 1) := by decide +kernel
theorem dX4_enter_79 : decode cX4_enter 79 = .ok (.getfield 105, 3) := by decide +kernel
theorem dX4_enter_82 : decode cX4_enter 82 = .ok (.bipush 8, 2) := by decide +kernel
theorem dX4_enter_84 : decode cX4_enter 84 = .ok (.iload 5, 2) := by decide +kernel
theorem dX4_enter_86 : decode cX4_enter 86 = .ok (.imul, 1) := by decide +kernel
theorem dX4_enter_87 : decode cX4_enter 87 = .ok (.iload 7, 2) := by decide +kernel
theorem dX4_enter_89 : decode cX4_enter 89 = .ok (.iadd, 1) := by decide +kernel
theorem dX4_enter_90 : decode cX4_enter 90 = .ok (.aload_n 0, 1) := by decide +kernel
theorem dX4_enter_91 : decode cX4_enter 91 = .ok (.getfield 36, 3) := by decide +kernel
theorem dX4_enter_94 : decode cX4_enter 94 = .ok (.bipush 8, 2) := by decide +kernel
theorem dX4_enter_96 : decode cX4_enter 96 = .ok (.iload 6, 2) := by decide +kernel
theorem dX4_enter_98 : decode cX4_enter 98 = .ok (.imul, 1) := by decide +kernel
theorem dX4_enter_99 : decode cX4_enter 99 = .ok (.iload 7, 2) := by decide +kernel
theorem dX4_enter_101 : decode cX4_enter 101 = .ok (.iadd, 1) := by decide +kernel
theorem dX4_enter_102 : decode cX4_enter 102 = .ok (.laload, 1) := by decide +kernel
theorem dX4_enter_103 : decode cX4_enter 103 = .ok (.lastore, 1) := by decide +kernel
theorem dX4_enter_104 : decode cX4_enter 104 = .ok (.iinc 7 1, 3) := by decide +kernel
theorem dX4_enter_107 : decode cX4_enter 107 = .ok (.goto (-36), 3) := by decide +kernel
theorem dX4_enter_110 : decode cX4_enter 110 = .ok (.return_, 1) := by decide +kernel
theorem dX4_fold_0 : decode cX4_fold 0 = .ok (.aload_n 0, 1) := by decide +kernel
theorem dX4_fold_1 : decode cX4_fold 1 = .ok (.getfield 30, 3) := by decide +kernel
theorem dX4_fold_4 : decode cX4_fold 4 = .ok (.aload_n 0, 1) := by decide +kernel
theorem dX4_fold_5 : decode cX4_fold 5 = .ok (.iload_n 1, 1) := by decide +kernel
theorem dX4_fold_6 : decode cX4_fold 6 = .ok (.iload_n 2, 1) := by decide +kernel
theorem dX4_fold_7 : decode cX4_fold 7 = .ok (.invokevirtual 171, 3) := by decide +kernel
theorem dX4_fold_10 : decode cX4_fold 10 = .ok (.iaload, 1) := by decide +kernel
theorem dX4_fold_11 : decode cX4_fold 11 = .ok (.istore_n 3, 1) := by decide +kernel
theorem dX4_fold_12 : decode cX4_fold 12 = .ok (.iconst 0, 1) := by decide +kernel
theorem dX4_fold_13 : decode cX4_fold 13 = .ok (.istore 4, 2) := by decide +kernel
theorem dX4_fold_15 : decode cX4_fold 15 = .ok (.iload 4, 2) := by decide +kernel
theorem dX4_fold_17 : decode cX4_fold 17 = .ok (.aload_n 0, 1) := by decide +kernel
theorem dX4_fold_18 : decode cX4_fold 18 = .ok (.getfield 124, 3) := by decide +kernel
theorem dX4_fold_21 : decode cX4_fold 21 = .ok (.if_icmp .ge 134, 3) := by decide +kernel
theorem dX4_fold_24 : decode cX4_fold 24 = .ok (.aload_n 0, 1) := by decide +kernel
theorem dX4_fold_25 : decode cX4_fold 25 = .ok (.getfield 39, 3) := by decide +kernel
theorem dX4_fold_28 : decode cX4_fold 28 = .ok (.iload 4, 2) := by decide +kernel
theorem dX4_fold_30 : decode cX4_fold 30 = .ok (.iaload, 1) := by decide +kernel
theorem dX4_fold_31 : decode cX4_fold 31 = .ok (.iconst 4, 1) := by decide +kernel
theorem dX4_fold_32 : decode cX4_fold 32 = .ok (.if_icmp .ne 117, 3) := by decide +kernel
theorem dX4_fold_35 : decode cX4_fold 35 = .ok (.aload_n 0, 1) := by decide +kernel
theorem dX4_fold_36 : decode cX4_fold 36 = .ok (.getfield 42, 3) := by decide +kernel
theorem dX4_fold_39 : decode cX4_fold 39 = .ok (.iconst 4, 1) := by decide +kernel
theorem dX4_fold_40 : decode cX4_fold 40 = .ok (.iload 4, 2) := by decide +kernel
theorem dX4_fold_42 : decode cX4_fold 42 = .ok (.imul, 1) := by decide +kernel
theorem dX4_fold_43 : decode cX4_fold 43 = .ok (.iaload, 1) := by decide +kernel
theorem dX4_fold_44 : decode cX4_fold 44 = .ok (.iload_n 1, 1) := by decide +kernel
theorem dX4_fold_45 : decode cX4_fold 45 = .ok (.if_icmp .ne 104, 3) := by decide +kernel
theorem dX4_fold_48 : decode cX4_fold 48 = .ok (.iconst 0, 1) := by decide +kernel
theorem dX4_fold_49 : decode cX4_fold 49 = .ok (.istore 5, 2) := by decide +kernel
theorem dX4_fold_51 : decode cX4_fold 51 = .ok (.iload 5, 2) := by decide +kernel
theorem dX4_fold_53 : decode cX4_fold 53 = .ok (.aload_n 0, 1) := by decide +kernel
theorem dX4_fold_54 : decode cX4_fold 54 = .ok (.getfield 90, 3) := by decide +kernel
theorem dX4_fold_57 : decode cX4_fold 57 = .ok (.iload 4, 2) := by decide +kernel
theorem dX4_fold_59 : decode cX4_fold 59 = .ok (.iaload, 1) := by decide +kernel
theorem dX4_fold_60 : decode cX4_fold 60 = .ok (.if_icmp .ge 26, 3) := by decide +kernel
theorem dX4_fold_63 : decode cX4_fold 63 = .ok (.aload_n 0, 1) := by decide +kernel
theorem dX4_fold_64 : decode cX4_fold 64 = .ok (.getfield 99, 3) := by decide +kernel
theorem dX4_fold_67 : decode cX4_fold 67 = .ok (.bipush 32, 2) := by decide +kernel
theorem dX4_fold_69 : decode cX4_fold 69 = .ok (.iload 4, 2) := by decide +kernel
theorem dX4_fold_71 : decode cX4_fold 71 = .ok (.imul, 1) := by decide +kernel
theorem dX4_fold_72 : decode cX4_fold 72 = .ok (.iload 5, 2) := by decide +kernel
theorem dX4_fold_74 : decode cX4_fold 74 = .ok (.iadd, 1) := by decide +kernel
theorem dX4_fold_75 : decode cX4_fold 75 = .ok (.iaload, 1) := by decide +kernel
theorem dX4_fold_76 : decode cX4_fold 76 = .ok (.iload_n 3, 1) := by decide +kernel
theorem dX4_fold_77 : decode cX4_fold 77 = .ok (.if_icmp .eq 9, 3) := by decide +kernel
theorem dX4_fold_80 : decode cX4_fold 80 = .ok (.iinc 5 1, 3) := by decide +kernel
theorem dX4_fold_83 : decode cX4_fold 83 = .ok (.goto (-32), 3) := by decide +kernel
theorem dX4_fold_86 : decode cX4_fold 86 = .ok (.iload 5, 2) := by decide +kernel
theorem dX4_fold_88 : decode cX4_fold 88 = .ok (.aload_n 0, 1) := by decide +kernel
theorem dX4_fold_89 : decode cX4_fold 89 = .ok (.getfield 90, 3) := by decide +kernel
theorem dX4_fold_92 : decode cX4_fold 92 = .ok (.iload 4, 2) := by decide +kernel
theorem dX4_fold_94 : decode cX4_fold 94 = .ok (.iaload, 1) := by decide +kernel
theorem dX4_fold_95 : decode cX4_fold 95 = .ok (.if_icmp .ne 27, 3) := by decide +kernel
theorem dX4_fold_98 : decode cX4_fold 98 = .ok (.aload_n 0, 1) := by decide +kernel
theorem dX4_fold_99 : decode cX4_fold 99 = .ok (.iload 4, 2) := by decide +kernel
theorem dX4_fold_101 : decode cX4_fold 101 = .ok (.iload 5, 2) := by decide +kernel
theorem dX4_fold_103 : decode cX4_fold 103 = .ok (.iload_n 1, 1) := by decide +kernel
theorem dX4_fold_104 : decode cX4_fold 104 = .ok (.iload_n 2, 1) := by decide +kernel
theorem dX4_fold_105 : decode cX4_fold 105 = .ok (.invokevirtual 203, 3) := by decide +kernel
theorem dX4_fold_108 : decode cX4_fold 108 = .ok (.aload_n 0, 1) := by decide +kernel
theorem dX4_fold_109 : decode cX4_fold 109 = .ok (.getfield 90, 3) := by decide +kernel
theorem dX4_fold_112 : decode cX4_fold 112 = .ok (.iload 4, 2) := by decide +kernel
theorem dX4_fold_114 : decode cX4_fold 114 = .ok (.dup2, 1) := by decide +kernel
theorem dX4_fold_115 : decode cX4_fold 115 = .ok (.iaload, 1) := by decide +kernel
theorem dX4_fold_116 : decode cX4_fold 116 = .ok (.iconst 1, 1) := by decide +kernel
theorem dX4_fold_117 : decode cX4_fold 117 = .ok (.iadd, 1) := by decide +kernel
theorem dX4_fold_118 : decode cX4_fold 118 = .ok (.iastore, 1) := by decide +kernel
theorem dX4_fold_119 : decode cX4_fold 119 = .ok (.goto 30, 3) := by decide +kernel
theorem dX4_fold_122 : decode cX4_fold 122 = .ok (.aload_n 0, 1) := by decide +kernel
theorem dX4_fold_123 : decode cX4_fold 123 = .ok (.getfield 93, 3) := by decide +kernel
theorem dX4_fold_126 : decode cX4_fold 126 = .ok (.bipush 32, 2) := by decide +kernel
theorem dX4_fold_128 : decode cX4_fold 128 = .ok (.iload 4, 2) := by decide +kernel
theorem dX4_fold_130 : decode cX4_fold 130 = .ok (.imul, 1) := by decide +kernel
theorem dX4_fold_131 : decode cX4_fold 131 = .ok (.iload 5, 2) := by decide +kernel
theorem dX4_fold_133 : decode cX4_fold 133 = .ok (.iadd, 1) := by decide +kernel
theorem dX4_fold_134 : decode cX4_fold 134 = .ok (.iaload, 1) := by decide +kernel
theorem dX4_fold_135 : decode cX4_fold 135 = .ok (.iload_n 2, 1) := by decide +kernel
theorem dX4_fold_136 : decode cX4_fold 136 = .ok (.if_icmp .ge 13, 3) := by decide +kernel
theorem dX4_fold_139 : decode cX4_fold 139 = .ok (.aload_n 0, 1) := by decide +kernel
theorem dX4_fold_140 : decode cX4_fold 140 = .ok (.iload 4, 2) := by decide +kernel
theorem dX4_fold_142 : decode cX4_fold 142 = .ok (.iload 5, 2) := by decide +kernel
theorem dX4_fold_144 : decode cX4_fold 144 = .ok (.iload_n 1, 1) := by decide +kernel
theorem dX4_fold_145 : decode cX4_fold 145 = .ok (.iload_n 2, 1) := by decide +kernel
theorem dX4_fold_146 : decode cX4_fold 146 = .ok (.invokevirtual 203, 3) := by decide +kernel
theorem dX4_fold_149 : decode cX4_fold 149 = .ok (.iinc 4 1, 3) := by decide +kernel
theorem dX4_fold_152 : decode cX4_fold 152 = .ok (.goto (-137), 3) := by decide +kernel
theorem dX4_fold_155 : decode cX4_fold 155 = .ok (.return_, 1) := by decide +kernel
theorem dX4_publish_0 : decode cX4_publish 0 = .ok (.aload_n 0, 1) := by decide +kernel
theorem dX4_publish_1 : decode cX4_publish 1 = .ok (.iload_n 1, 1) := by decide +kernel
theorem dX4_publish_2 : decode cX4_publish 2 = .ok (.invokevirtual 142, 3) := by decide +kernel
theorem dX4_publish_5 : decode cX4_publish 5 = .ok (.ifCond .eq 25, 3) := by decide +kernel
theorem dX4_publish_8 : decode cX4_publish 8 = .ok (.iload_n 3, 1) := by decide +kernel
theorem dX4_publish_9 : decode cX4_publish 9 = .ok (.ifCond .lt 21, 3) := by decide +kernel
theorem dX4_publish_12 : decode cX4_publish 12 = .ok (.iload_n 3, 1) := by decide +kernel
theorem dX4_publish_13 : decode cX4_publish 13 = .ok (.bipush 31, 2) := by decide +kernel
theorem dX4_publish_15 : decode cX4_publish 15 = .ok (.if_icmp .gt 15, 3) := by decide +kernel
theorem dX4_publish_18 : decode cX4_publish 18 = .ok (.iload 4, 2) := by decide +kernel
theorem dX4_publish_20 : decode cX4_publish 20 = .ok (.ifCond .lt 10, 3) := by decide +kernel
theorem dX4_publish_23 : decode cX4_publish 23 = .ok (.iload 4, 2) := by decide +kernel
theorem dX4_publish_25 : decode cX4_publish 25 = .ok (.bipush 8, 2) := by decide +kernel
theorem dX4_publish_27 : decode cX4_publish 27 = .ok (.if_icmp .le 5, 3) := by decide +kernel
theorem dX4_publish_30 : decode cX4_publish 30 = .ok (.iconst (-1), 1) := by decide +kernel
theorem dX4_publish_31 : decode cX4_publish 31 = .ok (.ireturn, 1) := by decide +kernel
theorem dX4_publish_32 : decode cX4_publish 32 = .ok (.aload_n 0, 1) := by decide +kernel
theorem dX4_publish_33 : decode cX4_publish 33 = .ok (.getfield 135, 3) := by decide +kernel
theorem dX4_publish_36 : decode cX4_publish 36 = .ok (.ifCond .ne 6, 3) := by decide +kernel
theorem dX4_publish_39 : decode cX4_publish 39 = .ok (.bipush (-2), 2) := by decide +kernel
theorem dX4_publish_41 : decode cX4_publish 41 = .ok (.ireturn, 1) := by decide +kernel
theorem dX4_publish_42 : decode cX4_publish 42 = .ok (.aload_n 0, 1) := by decide +kernel
theorem dX4_publish_43 : decode cX4_publish 43 = .ok (.getfield 16, 3) := by decide +kernel
theorem dX4_publish_46 : decode cX4_publish 46 = .ok (.iload_n 1, 1) := by decide +kernel
theorem dX4_publish_47 : decode cX4_publish 47 = .ok (.iaload, 1) := by decide +kernel
theorem dX4_publish_48 : decode cX4_publish 48 = .ok (.iconst 2, 1) := by decide +kernel
theorem dX4_publish_49 : decode cX4_publish 49 = .ok (.if_icmp .ne 6, 3) := by decide +kernel
theorem dX4_publish_52 : decode cX4_publish 52 = .ok (.bipush (-7), 2) := by decide +kernel
theorem dX4_publish_54 : decode cX4_publish 54 = .ok (.ireturn, 1) := by decide +kernel
theorem dX4_publish_55 : decode cX4_publish 55 = .ok (.aload_n 0, 1) := by decide +kernel
theorem dX4_publish_56 : decode cX4_publish 56 = .ok (.iload_n 1, 1) := by decide +kernel
theorem dX4_publish_57 : decode cX4_publish 57 = .ok (.iload_n 2, 1) := by decide +kernel
theorem dX4_publish_58 : decode cX4_publish 58 = .ok (.invokevirtual 180, 3) := by decide +kernel
theorem dX4_publish_61 : decode cX4_publish 61 = .ok (.ifCond .ne 6, 3) := by decide +kernel
theorem dX4_publish_64 : decode cX4_publish 64 = .ok (.bipush (-11), 2) := by decide +kernel
theorem dX4_publish_66 : decode cX4_publish 66 = .ok (.ireturn, 1) := by decide +kernel
theorem dX4_publish_67 : decode cX4_publish 67 = .ok (.aload_n 0, 1) := by decide +kernel
theorem dX4_publish_68 : decode cX4_publish 68 = .ok (.iload_n 1, 1) := by decide +kernel
theorem dX4_publish_69 : decode cX4_publish 69 = .ok (.iload_n 2, 1) := by decide +kernel
theorem dX4_publish_70 : decode cX4_publish 70 = .ok (.invokevirtual 171, 3) := by decide +kernel
theorem dX4_publish_73 : decode cX4_publish 73 = .ok (.istore 5, 2) := by decide +kernel
theorem dX4_publish_75 : decode cX4_publish 75 = .ok (.aload_n 0, 1) := by decide +kernel
theorem dX4_publish_76 : decode cX4_publish 76 = .ok (.getfield 23, 3) := by decide +kernel
theorem dX4_publish_79 : decode cX4_publish 79 = .ok (.iload 5, 2) := by decide +kernel
theorem dX4_publish_81 : decode cX4_publish 81 = .ok (.iconst 0, 1) := by decide +kernel
theorem dX4_publish_82 : decode cX4_publish 82 = .ok (.bastore, 1) := by decide +kernel
theorem dX4_publish_83 : decode cX4_publish 83 = .ok (.aload_n 0, 1) := by decide +kernel
theorem dX4_publish_84 : decode cX4_publish 84 = .ok (.getfield 30, 3) := by decide +kernel
theorem dX4_publish_87 : decode cX4_publish 87 = .ok (.iload 5, 2) := by decide +kernel
theorem dX4_publish_89 : decode cX4_publish 89 = .ok (.iload_n 3, 1) := by decide +kernel
theorem dX4_publish_90 : decode cX4_publish 90 = .ok (.iastore, 1) := by decide +kernel
theorem dX4_publish_91 : decode cX4_publish 91 = .ok (.aload_n 0, 1) := by decide +kernel
theorem dX4_publish_92 : decode cX4_publish 92 = .ok (.getfield 33, 3) := by decide +kernel
theorem dX4_publish_95 : decode cX4_publish 95 = .ok (.iload 5, 2) := by decide +kernel
theorem dX4_publish_97 : decode cX4_publish 97 = .ok (.iload 4, 2) := by decide +kernel
theorem dX4_publish_99 : decode cX4_publish 99 = .ok (.iastore, 1) := by decide +kernel
theorem dX4_publish_100 : decode cX4_publish 100 = .ok (.aload_n 0, 1) := by decide +kernel
theorem dX4_publish_101 : decode cX4_publish 101 = .ok (.iload_n 1, 1) := by decide +kernel
theorem dX4_publish_102 : decode cX4_publish 102 = .ok (.iload_n 2, 1) := by decide +kernel
theorem dX4_publish_103 : decode cX4_publish 103 = .ok (.invokevirtual 207, 3) := by decide +kernel
theorem dX4_publish_106 : decode cX4_publish 106 = .ok (.iconst 1, 1) := by decide +kernel
theorem dX4_publish_107 : decode cX4_publish 107 = .ok (.ireturn, 1) := by decide +kernel
theorem dX4_close_0 : decode cX4_close 0 = .ok (.aload_n 0, 1) := by decide +kernel
theorem dX4_close_1 : decode cX4_close 1 = .ok (.iload_n 1, 1) := by decide +kernel
theorem dX4_close_2 : decode cX4_close 2 = .ok (.invokevirtual 142, 3) := by decide +kernel
theorem dX4_close_5 : decode cX4_close 5 = .ok (.ifCond .ne 5, 3) := by decide +kernel
theorem dX4_close_8 : decode cX4_close 8 = .ok (.iconst (-1), 1) := by decide +kernel
theorem dX4_close_9 : decode cX4_close 9 = .ok (.ireturn, 1) := by decide +kernel
theorem dX4_close_10 : decode cX4_close 10 = .ok (.aload_n 0, 1) := by decide +kernel
theorem dX4_close_11 : decode cX4_close 11 = .ok (.getfield 135, 3) := by decide +kernel
theorem dX4_close_14 : decode cX4_close 14 = .ok (.ifCond .ne 6, 3) := by decide +kernel
theorem dX4_close_17 : decode cX4_close 17 = .ok (.bipush (-2), 2) := by decide +kernel
theorem dX4_close_19 : decode cX4_close 19 = .ok (.ireturn, 1) := by decide +kernel
theorem dX4_close_20 : decode cX4_close 20 = .ok (.aload_n 0, 1) := by decide +kernel
theorem dX4_close_21 : decode cX4_close 21 = .ok (.getfield 16, 3) := by decide +kernel
theorem dX4_close_24 : decode cX4_close 24 = .ok (.iload_n 1, 1) := by decide +kernel
theorem dX4_close_25 : decode cX4_close 25 = .ok (.iaload, 1) := by decide +kernel
theorem dX4_close_26 : decode cX4_close 26 = .ok (.ifCond .le 21, 3) := by decide +kernel
theorem dX4_close_29 : decode cX4_close 29 = .ok (.aload_n 0, 1) := by decide +kernel
theorem dX4_close_30 : decode cX4_close 30 = .ok (.getfield 16, 3) := by decide +kernel
theorem dX4_close_33 : decode cX4_close 33 = .ok (.iload_n 1, 1) := by decide +kernel
theorem dX4_close_34 : decode cX4_close 34 = .ok (.iaload, 1) := by decide +kernel
theorem dX4_close_35 : decode cX4_close 35 = .ok (.iconst 2, 1) := by decide +kernel
theorem dX4_close_36 : decode cX4_close 36 = .ok (.if_icmp .ne 8, 3) := by decide +kernel
theorem dX4_close_39 : decode cX4_close 39 = .ok (.bipush (-7), 2) := by decide +kernel
theorem dX4_close_41 : decode cX4_close 41 = .ok (.goto 5, 3) := by decide +kernel
theorem dX4_close_44 : decode cX4_close 44 = .ok (.bipush (-8), 2) := by decide +kernel
theorem dX4_close_46 : decode cX4_close 46 = .ok (.ireturn, 1) := by decide +kernel
theorem dX4_close_47 : decode cX4_close 47 = .ok (.aload_n 0, 1) := by decide +kernel
theorem dX4_close_48 : decode cX4_close 48 = .ok (.getfield 16, 3) := by decide +kernel
theorem dX4_close_51 : decode cX4_close 51 = .ok (.iload_n 1, 1) := by decide +kernel
theorem dX4_close_52 : decode cX4_close 52 = .ok (.iconst 1, 1) := by decide +kernel
theorem dX4_close_53 : decode cX4_close 53 = .ok (.iastore, 1) := by decide +kernel
theorem dX4_close_54 : decode cX4_close 54 = .ok (.iconst 1, 1) := by decide +kernel
theorem dX4_close_55 : decode cX4_close 55 = .ok (.ireturn, 1) := by decide +kernel
theorem dX4_openMany_0 : decode cX4_openMany 0 = .ok (.iconst 0, 1) := by decide +kernel
theorem dX4_openMany_1 : decode cX4_openMany 1 = .ok (.istore_n 2, 1) := by decide +kernel
theorem dX4_openMany_2 : decode cX4_openMany 2 = .ok (.iconst 0, 1) := by decide +kernel
theorem dX4_openMany_3 : decode cX4_openMany 3 = .ok (.istore_n 3, 1) := by decide +kernel
theorem dX4_openMany_4 : decode cX4_openMany 4 = .ok (.iload_n 3, 1) := by decide +kernel
theorem dX4_openMany_5 : decode cX4_openMany 5 = .ok (.aload_n 0, 1) := by decide +kernel
theorem dX4_openMany_6 : decode cX4_openMany 6 = .ok (.getfield 7, 3) := by decide +kernel
theorem dX4_openMany_9 : decode cX4_openMany 9 = .ok (.iload_n 1, 1) := by decide +kernel
theorem dX4_openMany_10 : decode cX4_openMany 10 = .ok (.iaload, 1) := by decide +kernel
theorem dX4_openMany_11 : decode cX4_openMany 11 = .ok (.if_icmp .ge 35, 3) := by decide +kernel
theorem dX4_openMany_14 : decode cX4_openMany 14 = .ok (.iload_n 2, 1) := by decide +kernel
theorem dX4_openMany_15 : decode cX4_openMany 15 = .ok (.aload_n 0, 1) := by decide +kernel
theorem dX4_openMany_16 : decode cX4_openMany 16 = .ok (.iload_n 1, 1) := by decide +kernel
theorem dX4_openMany_17 : decode cX4_openMany 17 = .ok (.aload_n 0, 1) := by decide +kernel
theorem dX4_openMany_18 : decode cX4_openMany 18 = .ok (.getfield 13, 3) := by decide +kernel
theorem dX4_openMany_21 : decode cX4_openMany 21 = .ok (.iload_n 1, 1) := by decide +kernel
theorem dX4_openMany_22 : decode cX4_openMany 22 = .ok (.iaload, 1) := by decide +kernel
theorem dX4_openMany_23 : decode cX4_openMany 23 = .ok (.iconst 1, 1) := by decide +kernel
theorem dX4_openMany_24 : decode cX4_openMany 24 = .ok (.isub, 1) := by decide +kernel
theorem dX4_openMany_25 : decode cX4_openMany 25 = .ok (.iload_n 3, 1) := by decide +kernel
theorem dX4_openMany_26 : decode cX4_openMany 26 = .ok (.isub, 1) := by decide +kernel
theorem dX4_openMany_27 : decode cX4_openMany 27 = .ok (.invokevirtual 180, 3) := by decide +kernel
theorem dX4_openMany_30 : decode cX4_openMany 30 = .ok (.ifCond .eq 7, 3) := by decide +kernel
theorem dX4_openMany_33 : decode cX4_openMany 33 = .ok (.iconst 1, 1) := by decide +kernel
theorem dX4_openMany_34 : decode cX4_openMany 34 = .ok (.goto 4, 3) := by decide +kernel
theorem dX4_openMany_37 : decode cX4_openMany 37 = .ok (.iconst 0, 1) := by decide +kernel
theorem dX4_openMany_38 : decode cX4_openMany 38 = .ok (.iadd, 1) := by decide +kernel
theorem dX4_openMany_39 : decode cX4_openMany 39 = .ok (.istore_n 2, 1) := by decide +kernel
theorem dX4_openMany_40 : decode cX4_openMany 40 = .ok (.iinc 3 1, 3) := by decide +kernel
theorem dX4_openMany_43 : decode cX4_openMany 43 = .ok (.goto (-39), 3) := by decide +kernel
theorem dX4_openMany_46 : decode cX4_openMany 46 = .ok (.iload_n 2, 1) := by decide +kernel
theorem dX4_openMany_47 : decode cX4_openMany 47 = .ok (.ireturn, 1) := by decide +kernel
theorem dX4_leastPlace_0 : decode cX4_leastPlace 0 = .ok (.iconst (-1), 1) := by decide +kernel
theorem dX4_leastPlace_1 : decode cX4_leastPlace 1 = .ok (.istore_n 2, 1) := by decide +kernel
theorem dX4_leastPlace_2 : decode cX4_leastPlace 2 = .ok (.iconst 0, 1) := by decide +kernel
theorem dX4_leastPlace_3 : decode cX4_leastPlace 3 = .ok (.istore_n 3, 1) := by decide +kernel
theorem dX4_leastPlace_4 : decode cX4_leastPlace 4 = .ok (.iload_n 3, 1) := by decide +kernel
theorem dX4_leastPlace_5 : decode cX4_leastPlace 5 = .ok (.aload_n 0, 1) := by decide +kernel
theorem dX4_leastPlace_6 : decode cX4_leastPlace 6 = .ok (.getfield 124, 3) := by decide +kernel
theorem dX4_leastPlace_9 : decode cX4_leastPlace 9 = .ok (.if_icmp .ge 39, 3) := by decide +kernel
theorem dX4_leastPlace_12 : decode cX4_leastPlace 12 = .ok (.aload_n 0, 1) := by decide +kernel
theorem dX4_leastPlace_13 : decode cX4_leastPlace 13 = .ok (.iload_n 3, 1) := by decide +kernel
theorem dX4_leastPlace_14 : decode cX4_leastPlace 14 = .ok (.iload_n 1, 1) := by decide +kernel
theorem dX4_leastPlace_15 : decode cX4_leastPlace 15 = .ok (.invokevirtual 174, 3) := by decide +kernel
theorem dX4_leastPlace_18 : decode cX4_leastPlace 18 = .ok (.ifCond .eq 24, 3) := by decide +kernel
theorem dX4_leastPlace_21 : decode cX4_leastPlace 21 = .ok (.iload_n 2, 1) := by decide +kernel
theorem dX4_leastPlace_22 : decode cX4_leastPlace 22 = .ok (.ifCond .lt 13, 3) := by decide +kernel
theorem dX4_leastPlace_25 : decode cX4_leastPlace 25 = .ok (.aload_n 0, 1) := by decide +kernel
theorem dX4_leastPlace_26 : decode cX4_leastPlace 26 = .ok (.iload_n 3, 1) := by decide +kernel
theorem dX4_leastPlace_27 : decode cX4_leastPlace 27 = .ok (.iload_n 1, 1) := by decide +kernel
theorem dX4_leastPlace_28 : decode cX4_leastPlace 28 = .ok (.invokevirtual 177, 3) := by decide +kernel
theorem dX4_leastPlace_31 : decode cX4_leastPlace 31 = .ok (.iload_n 2, 1) := by decide +kernel
theorem dX4_leastPlace_32 : decode cX4_leastPlace 32 = .ok (.if_icmp .ge 10, 3) := by decide +kernel
theorem dX4_leastPlace_35 : decode cX4_leastPlace 35 = .ok (.aload_n 0, 1) := by decide +kernel
theorem dX4_leastPlace_36 : decode cX4_leastPlace 36 = .ok (.iload_n 3, 1) := by decide +kernel
theorem dX4_leastPlace_37 : decode cX4_leastPlace 37 = .ok (.iload_n 1, 1) := by decide +kernel
theorem dX4_leastPlace_38 : decode cX4_leastPlace 38 = .ok (.invokevirtual 177, 3) := by decide +kernel
theorem dX4_leastPlace_41 : decode cX4_leastPlace 41 = .ok (.istore_n 2, 1) := by decide +kernel
theorem dX4_leastPlace_42 : decode cX4_leastPlace 42 = .ok (.iinc 3 1, 3) := by decide +kernel
theorem dX4_leastPlace_45 : decode cX4_leastPlace 45 = .ok (.goto (-41), 3) := by decide +kernel
theorem dX4_leastPlace_48 : decode cX4_leastPlace 48 = .ok (.iload_n 2, 1) := by decide +kernel
theorem dX4_leastPlace_49 : decode cX4_leastPlace 49 = .ok (.ireturn, 1) := by decide +kernel
theorem dX4_give_0 : decode cX4_give 0 = .ok (.aload_n 0, 1) := by decide +kernel
theorem dX4_give_1 : decode cX4_give 1 = .ok (.iload_n 1, 1) := by decide +kernel
theorem dX4_give_2 : decode cX4_give 2 = .ok (.invokevirtual 142, 3) := by decide +kernel
theorem dX4_give_5 : decode cX4_give 5 = .ok (.ifCond .ne 5, 3) := by decide +kernel
theorem dX4_give_8 : decode cX4_give 8 = .ok (.iconst (-1), 1) := by decide +kernel
theorem dX4_give_9 : decode cX4_give 9 = .ok (.ireturn, 1) := by decide +kernel
theorem dX4_give_10 : decode cX4_give 10 = .ok (.aload_n 0, 1) := by decide +kernel
theorem dX4_give_11 : decode cX4_give 11 = .ok (.getfield 135, 3) := by decide +kernel
theorem dX4_give_14 : decode cX4_give 14 = .ok (.ifCond .ne 6, 3) := by decide +kernel
theorem dX4_give_17 : decode cX4_give 17 = .ok (.bipush (-2), 2) := by decide +kernel
theorem dX4_give_19 : decode cX4_give 19 = .ok (.ireturn, 1) := by decide +kernel
theorem dX4_give_20 : decode cX4_give 20 = .ok (.aload_n 0, 1) := by decide +kernel
theorem dX4_give_21 : decode cX4_give 21 = .ok (.getfield 16, 3) := by decide +kernel
theorem dX4_give_24 : decode cX4_give 24 = .ok (.iload_n 1, 1) := by decide +kernel
theorem dX4_give_25 : decode cX4_give 25 = .ok (.iaload, 1) := by decide +kernel
theorem dX4_give_26 : decode cX4_give 26 = .ok (.iconst 2, 1) := by decide +kernel
theorem dX4_give_27 : decode cX4_give 27 = .ok (.if_icmp .ne 6, 3) := by decide +kernel
theorem dX4_give_30 : decode cX4_give 30 = .ok (.bipush (-7), 2) := by decide +kernel
theorem dX4_give_32 : decode cX4_give 32 = .ok (.ireturn, 1) := by decide +kernel
theorem dX4_give_33 : decode cX4_give 33 = .ok (.aload_n 0, 1) := by decide +kernel
theorem dX4_give_34 : decode cX4_give 34 = .ok (.iload_n 1, 1) := by decide +kernel
theorem dX4_give_35 : decode cX4_give 35 = .ok (.invokevirtual 210, 3) := by decide +kernel
theorem dX4_give_38 : decode cX4_give 38 = .ok (.istore_n 2, 1) := by decide +kernel
theorem dX4_give_39 : decode cX4_give 39 = .ok (.aload_n 0, 1) := by decide +kernel
theorem dX4_give_40 : decode cX4_give 40 = .ok (.iload_n 1, 1) := by decide +kernel
theorem dX4_give_41 : decode cX4_give 41 = .ok (.invokevirtual 213, 3) := by decide +kernel
theorem dX4_give_44 : decode cX4_give 44 = .ok (.ifCond .gt 17, 3) := by decide +kernel
theorem dX4_give_47 : decode cX4_give 47 = .ok (.iload_n 2, 1) := by decide +kernel
theorem dX4_give_48 : decode cX4_give 48 = .ok (.ifCond .lt 16, 3) := by decide +kernel
theorem dX4_give_51 : decode cX4_give 51 = .ok (.iload_n 2, 1) := by decide +kernel
theorem dX4_give_52 : decode cX4_give 52 = .ok (.aload_n 0, 1) := by decide +kernel
theorem dX4_give_53 : decode cX4_give 53 = .ok (.getfield 13, 3) := by decide +kernel
theorem dX4_give_56 : decode cX4_give 56 = .ok (.iload_n 1, 1) := by decide +kernel
theorem dX4_give_57 : decode cX4_give 57 = .ok (.iaload, 1) := by decide +kernel
theorem dX4_give_58 : decode cX4_give 58 = .ok (.if_icmp .ge 6, 3) := by decide +kernel
theorem dX4_give_61 : decode cX4_give 61 = .ok (.bipush (-10), 2) := by decide +kernel
theorem dX4_give_63 : decode cX4_give 63 = .ok (.ireturn, 1) := by decide +kernel
theorem dX4_give_64 : decode cX4_give 64 = .ok (.aload_n 0, 1) := by decide +kernel
theorem dX4_give_65 : decode cX4_give 65 = .ok (.getfield 16, 3) := by decide +kernel
theorem dX4_give_68 : decode cX4_give 68 = .ok (.iload_n 1, 1) := by decide +kernel
theorem dX4_give_69 : decode cX4_give 69 = .ok (.iconst 2, 1) := by decide +kernel
theorem dX4_give_70 : decode cX4_give 70 = .ok (.iastore, 1) := by decide +kernel
theorem dX4_give_71 : decode cX4_give 71 = .ok (.iconst 1, 1) := by decide +kernel
theorem dX4_give_72 : decode cX4_give 72 = .ok (.ireturn, 1) := by decide +kernel
theorem dX4_holders_0 : decode cX4_holders 0 = .ok (.iconst 0, 1) := by decide +kernel
theorem dX4_holders_1 : decode cX4_holders 1 = .ok (.istore_n 2, 1) := by decide +kernel
theorem dX4_holders_2 : decode cX4_holders 2 = .ok (.iconst 0, 1) := by decide +kernel
theorem dX4_holders_3 : decode cX4_holders 3 = .ok (.istore_n 3, 1) := by decide +kernel
theorem dX4_holders_4 : decode cX4_holders 4 = .ok (.iload_n 3, 1) := by decide +kernel
theorem dX4_holders_5 : decode cX4_holders 5 = .ok (.aload_n 0, 1) := by decide +kernel
theorem dX4_holders_6 : decode cX4_holders 6 = .ok (.getfield 124, 3) := by decide +kernel
theorem dX4_holders_9 : decode cX4_holders 9 = .ok (.if_icmp .ge 26, 3) := by decide +kernel
theorem dX4_holders_12 : decode cX4_holders 12 = .ok (.iload_n 2, 1) := by decide +kernel
theorem dX4_holders_13 : decode cX4_holders 13 = .ok (.aload_n 0, 1) := by decide +kernel
theorem dX4_holders_14 : decode cX4_holders 14 = .ok (.iload_n 3, 1) := by decide +kernel
theorem dX4_holders_15 : decode cX4_holders 15 = .ok (.iload_n 1, 1) := by decide +kernel
theorem dX4_holders_16 : decode cX4_holders 16 = .ok (.invokevirtual 174, 3) := by decide +kernel
theorem dX4_holders_19 : decode cX4_holders 19 = .ok (.ifCond .eq 7, 3) := by decide +kernel
theorem dX4_holders_22 : decode cX4_holders 22 = .ok (.iconst 1, 1) := by decide +kernel
theorem dX4_holders_23 : decode cX4_holders 23 = .ok (.goto 4, 3) := by decide +kernel
theorem dX4_holders_26 : decode cX4_holders 26 = .ok (.iconst 0, 1) := by decide +kernel
theorem dX4_holders_27 : decode cX4_holders 27 = .ok (.iadd, 1) := by decide +kernel
theorem dX4_holders_28 : decode cX4_holders 28 = .ok (.istore_n 2, 1) := by decide +kernel
theorem dX4_holders_29 : decode cX4_holders 29 = .ok (.iinc 3 1, 3) := by decide +kernel
theorem dX4_holders_32 : decode cX4_holders 32 = .ok (.goto (-28), 3) := by decide +kernel
theorem dX4_holders_35 : decode cX4_holders 35 = .ok (.iload_n 2, 1) := by decide +kernel
theorem dX4_holders_36 : decode cX4_holders 36 = .ok (.ireturn, 1) := by decide +kernel
theorem dX4_told_0 : decode cX4_told 0 = .ok (.iload_n 2, 1) := by decide +kernel
theorem dX4_told_1 : decode cX4_told 1 = .ok (.ifCond .lt 9, 3) := by decide +kernel
theorem dX4_told_4 : decode cX4_told 4 = .ok (.iload_n 2, 1) := by decide +kernel
theorem dX4_told_5 : decode cX4_told 5 = .ok (.bipush 6, 2) := by decide +kernel
theorem dX4_told_7 : decode cX4_told 7 = .ok (.if_icmp .le 5, 3) := by decide +kernel
theorem dX4_told_10 : decode cX4_told 10 = .ok (.iconst (-1), 1) := by decide +kernel
theorem dX4_told_11 : decode cX4_told 11 = .ok (.ireturn, 1) := by decide +kernel
theorem dX4_told_12 : decode cX4_told 12 = .ok (.aload_n 0, 1) := by decide +kernel
theorem dX4_told_13 : decode cX4_told 13 = .ok (.iload_n 1, 1) := by decide +kernel
theorem dX4_told_14 : decode cX4_told 14 = .ok (.invokevirtual 142, 3) := by decide +kernel
theorem dX4_told_17 : decode cX4_told 17 = .ok (.ifCond .ne 9, 3) := by decide +kernel
theorem dX4_told_20 : decode cX4_told 20 = .ok (.aload_n 0, 1) := by decide +kernel
theorem dX4_told_21 : decode cX4_told 21 = .ok (.iconst 2, 1) := by decide +kernel
theorem dX4_told_22 : decode cX4_told 22 = .ok (.invokevirtual 131, 3) := by decide +kernel
theorem dX4_told_25 : decode cX4_told 25 = .ok (.ireturn, 1) := by decide +kernel
theorem dX4_told_26 : decode cX4_told 26 = .ok (.iload_n 2, 1) := by decide +kernel
theorem dX4_told_27 : decode cX4_told 27 = .ok (.tableswitch 83 0 5 #[37, 44, 51, 57, 63, 69], 37) := by decide +kernel
theorem dX4_told_64 : decode cX4_told 64 = .ok (.aload_n 0, 1) := by decide +kernel
theorem dX4_told_65 : decode cX4_told 65 = .ok (.getfield 7, 3) := by decide +kernel
theorem dX4_told_68 : decode cX4_told 68 = .ok (.iload_n 1, 1) := by decide +kernel
theorem dX4_told_69 : decode cX4_told 69 = .ok (.iaload, 1) := by decide +kernel
theorem dX4_told_70 : decode cX4_told 70 = .ok (.ireturn, 1) := by decide +kernel
theorem dX4_told_71 : decode cX4_told 71 = .ok (.aload_n 0, 1) := by decide +kernel
theorem dX4_told_72 : decode cX4_told 72 = .ok (.getfield 13, 3) := by decide +kernel
theorem dX4_told_75 : decode cX4_told 75 = .ok (.iload_n 1, 1) := by decide +kernel
theorem dX4_told_76 : decode cX4_told 76 = .ok (.iaload, 1) := by decide +kernel
theorem dX4_told_77 : decode cX4_told 77 = .ok (.ireturn, 1) := by decide +kernel
theorem dX4_told_78 : decode cX4_told 78 = .ok (.aload_n 0, 1) := by decide +kernel
theorem dX4_told_79 : decode cX4_told 79 = .ok (.iload_n 1, 1) := by decide +kernel
theorem dX4_told_80 : decode cX4_told 80 = .ok (.invokevirtual 213, 3) := by decide +kernel
theorem dX4_told_83 : decode cX4_told 83 = .ok (.ireturn, 1) := by decide +kernel
theorem dX4_told_84 : decode cX4_told 84 = .ok (.aload_n 0, 1) := by decide +kernel
theorem dX4_told_85 : decode cX4_told 85 = .ok (.iload_n 1, 1) := by decide +kernel
theorem dX4_told_86 : decode cX4_told 86 = .ok (.invokevirtual 210, 3) := by decide +kernel
theorem dX4_told_89 : decode cX4_told 89 = .ok (.ireturn, 1) := by decide +kernel
theorem dX4_told_90 : decode cX4_told 90 = .ok (.aload_n 0, 1) := by decide +kernel
theorem dX4_told_91 : decode cX4_told 91 = .ok (.iload_n 1, 1) := by decide +kernel
theorem dX4_told_92 : decode cX4_told 92 = .ok (.invokevirtual 216, 3) := by decide +kernel
theorem dX4_told_95 : decode cX4_told 95 = .ok (.ireturn, 1) := by decide +kernel
theorem dX4_told_96 : decode cX4_told 96 = .ok (.aload_n 0, 1) := by decide +kernel
theorem dX4_told_97 : decode cX4_told 97 = .ok (.iload_n 1, 1) := by decide +kernel
theorem dX4_told_98 : decode cX4_told 98 = .ok (.invokevirtual 219, 3) := by decide +kernel
theorem dX4_told_101 : decode cX4_told 101 = .ok (.ifCond .eq 7, 3) := by decide +kernel
theorem dX4_told_104 : decode cX4_told 104 = .ok (.iconst 1, 1) := by decide +kernel
theorem dX4_told_105 : decode cX4_told 105 = .ok (.goto 4, 3) := by decide +kernel
theorem dX4_told_108 : decode cX4_told 108 = .ok (.iconst 0, 1) := by decide +kernel
theorem dX4_told_109 : decode cX4_told 109 = .ok (.ireturn, 1) := by decide +kernel
theorem dX4_told_110 : decode cX4_told 110 = .ok (.aload_n 0, 1) := by decide +kernel
theorem dX4_told_111 : decode cX4_told 111 = .ok (.getfield 16, 3) := by decide +kernel
theorem dX4_told_114 : decode cX4_told 114 = .ok (.iload_n 1, 1) := by decide +kernel
theorem dX4_told_115 : decode cX4_told 115 = .ok (.iaload, 1) := by decide +kernel
theorem dX4_told_116 : decode cX4_told 116 = .ok (.ireturn, 1) := by decide +kernel
theorem dX4_last_0 : decode cX4_last 0 = .ok (.aload_n 0, 1) := by decide +kernel
theorem dX4_last_1 : decode cX4_last 1 = .ok (.iload_n 1, 1) := by decide +kernel
theorem dX4_last_2 : decode cX4_last 2 = .ok (.invokevirtual 142, 3) := by decide +kernel
theorem dX4_last_5 : decode cX4_last 5 = .ok (.ifCond .eq 12, 3) := by decide +kernel
theorem dX4_last_8 : decode cX4_last 8 = .ok (.aload_n 0, 1) := by decide +kernel
theorem dX4_last_9 : decode cX4_last 9 = .ok (.getfield 19, 3) := by decide +kernel
theorem dX4_last_12 : decode cX4_last 12 = .ok (.iload_n 1, 1) := by decide +kernel
theorem dX4_last_13 : decode cX4_last 13 = .ok (.laload, 1) := by decide +kernel
theorem dX4_last_14 : decode cX4_last 14 = .ok (.goto 4, 3) := by decide +kernel
theorem dX4_last_17 : decode cX4_last 17 = .ok (.lconst 0, 1) := by decide +kernel
theorem dX4_last_18 : decode cX4_last 18 = .ok (.lreturn, 1) := by decide +kernel
theorem dX4_seen_0 : decode cX4_seen 0 = .ok (.aload_n 0, 1) := by decide +kernel
theorem dX4_seen_1 : decode cX4_seen 1 = .ok (.getfield 13, 3) := by decide +kernel
theorem dX4_seen_4 : decode cX4_seen 4 = .ok (.iload_n 1, 1) := by decide +kernel
theorem dX4_seen_5 : decode cX4_seen 5 = .ok (.iaload, 1) := by decide +kernel
theorem dX4_seen_6 : decode cX4_seen 6 = .ok (.iconst 1, 1) := by decide +kernel
theorem dX4_seen_7 : decode cX4_seen 7 = .ok (.isub, 1) := by decide +kernel
theorem dX4_seen_8 : decode cX4_seen 8 = .ok (.istore_n 2, 1) := by decide +kernel
theorem dX4_seen_9 : decode cX4_seen 9 = .ok (.iload_n 2, 1) := by decide +kernel
theorem dX4_seen_10 : decode cX4_seen 10 = .ok (.ifCond .lt 35, 3) := by decide +kernel
theorem dX4_seen_13 : decode cX4_seen 13 = .ok (.iload_n 2, 1) := by decide +kernel
theorem dX4_seen_14 : decode cX4_seen 14 = .ok (.aload_n 0, 1) := by decide +kernel
theorem dX4_seen_15 : decode cX4_seen 15 = .ok (.getfield 13, 3) := by decide +kernel
theorem dX4_seen_18 : decode cX4_seen 18 = .ok (.iload_n 1, 1) := by decide +kernel
theorem dX4_seen_19 : decode cX4_seen 19 = .ok (.iaload, 1) := by decide +kernel
theorem dX4_seen_20 : decode cX4_seen 20 = .ok (.aload_n 0, 1) := by decide +kernel
theorem dX4_seen_21 : decode cX4_seen 21 = .ok (.getfield 7, 3) := by decide +kernel
theorem dX4_seen_24 : decode cX4_seen 24 = .ok (.iload_n 1, 1) := by decide +kernel
theorem dX4_seen_25 : decode cX4_seen 25 = .ok (.iaload, 1) := by decide +kernel
theorem dX4_seen_26 : decode cX4_seen 26 = .ok (.isub, 1) := by decide +kernel
theorem dX4_seen_27 : decode cX4_seen 27 = .ok (.if_icmp .lt 18, 3) := by decide +kernel
theorem dX4_seen_30 : decode cX4_seen 30 = .ok (.aload_n 0, 1) := by decide +kernel
theorem dX4_seen_31 : decode cX4_seen 31 = .ok (.iload_n 1, 1) := by decide +kernel
theorem dX4_seen_32 : decode cX4_seen 32 = .ok (.iload_n 2, 1) := by decide +kernel
theorem dX4_seen_33 : decode cX4_seen 33 = .ok (.invokevirtual 222, 3) := by decide +kernel
theorem dX4_seen_36 : decode cX4_seen 36 = .ok (.ifCond .ne 9, 3) := by decide +kernel
theorem dX4_seen_39 : decode cX4_seen 39 = .ok (.iinc 2 (-1), 3) := by decide +kernel
theorem dX4_seen_42 : decode cX4_seen 42 = .ok (.goto (-33), 3) := by decide +kernel
theorem dX4_seen_45 : decode cX4_seen 45 = .ok (.aload_n 0, 1) := by decide +kernel
theorem dX4_seen_46 : decode cX4_seen 46 = .ok (.iload_n 1, 1) := by decide +kernel
theorem dX4_seen_47 : decode cX4_seen 47 = .ok (.iload_n 2, 1) := by decide +kernel
theorem dX4_seen_48 : decode cX4_seen 48 = .ok (.invokevirtual 222, 3) := by decide +kernel
theorem dX4_seen_51 : decode cX4_seen 51 = .ok (.ifCond .eq 7, 3) := by decide +kernel
theorem dX4_seen_54 : decode cX4_seen 54 = .ok (.iload_n 2, 1) := by decide +kernel
theorem dX4_seen_55 : decode cX4_seen 55 = .ok (.goto 4, 3) := by decide +kernel
theorem dX4_seen_58 : decode cX4_seen 58 = .ok (.iconst (-1), 1) := by decide +kernel
theorem dX4_seen_59 : decode cX4_seen 59 = .ok (.ireturn, 1) := by decide +kernel
theorem dX4_from_0 : decode cX4_from 0 = .ok (.aload_n 0, 1) := by decide +kernel
theorem dX4_from_1 : decode cX4_from 1 = .ok (.getfield 42, 3) := by decide +kernel
theorem dX4_from_4 : decode cX4_from 4 = .ok (.iconst 4, 1) := by decide +kernel
theorem dX4_from_5 : decode cX4_from 5 = .ok (.iload_n 1, 1) := by decide +kernel
theorem dX4_from_6 : decode cX4_from 6 = .ok (.imul, 1) := by decide +kernel
theorem dX4_from_7 : decode cX4_from 7 = .ok (.iaload, 1) := by decide +kernel
theorem dX4_from_8 : decode cX4_from 8 = .ok (.istore_n 2, 1) := by decide +kernel
theorem dX4_from_9 : decode cX4_from 9 = .ok (.aload_n 0, 1) := by decide +kernel
theorem dX4_from_10 : decode cX4_from 10 = .ok (.getfield 45, 3) := by decide +kernel
theorem dX4_from_13 : decode cX4_from 13 = .ok (.iconst 4, 1) := by decide +kernel
theorem dX4_from_14 : decode cX4_from 14 = .ok (.iload_n 1, 1) := by decide +kernel
theorem dX4_from_15 : decode cX4_from 15 = .ok (.imul, 1) := by decide +kernel
theorem dX4_from_16 : decode cX4_from 16 = .ok (.iaload, 1) := by decide +kernel
theorem dX4_from_17 : decode cX4_from 17 = .ok (.istore_n 3, 1) := by decide +kernel
theorem dX4_from_18 : decode cX4_from 18 = .ok (.aload_n 0, 1) := by decide +kernel
theorem dX4_from_19 : decode cX4_from 19 = .ok (.getfield 13, 3) := by decide +kernel
theorem dX4_from_22 : decode cX4_from 22 = .ok (.iload_n 2, 1) := by decide +kernel
theorem dX4_from_23 : decode cX4_from 23 = .ok (.iaload, 1) := by decide +kernel
theorem dX4_from_24 : decode cX4_from 24 = .ok (.aload_n 0, 1) := by decide +kernel
theorem dX4_from_25 : decode cX4_from 25 = .ok (.getfield 7, 3) := by decide +kernel
theorem dX4_from_28 : decode cX4_from 28 = .ok (.iload_n 2, 1) := by decide +kernel
theorem dX4_from_29 : decode cX4_from 29 = .ok (.iaload, 1) := by decide +kernel
theorem dX4_from_30 : decode cX4_from 30 = .ok (.isub, 1) := by decide +kernel
theorem dX4_from_31 : decode cX4_from 31 = .ok (.istore 4, 2) := by decide +kernel
theorem dX4_from_33 : decode cX4_from 33 = .ok (.aload_n 0, 1) := by decide +kernel
theorem dX4_from_34 : decode cX4_from 34 = .ok (.getfield 39, 3) := by decide +kernel
theorem dX4_from_37 : decode cX4_from 37 = .ok (.iload_n 1, 1) := by decide +kernel
theorem dX4_from_38 : decode cX4_from 38 = .ok (.iaload, 1) := by decide +kernel
theorem dX4_from_39 : decode cX4_from 39 = .ok (.iconst 3, 1) := by decide +kernel
theorem dX4_from_40 : decode cX4_from 40 = .ok (.if_icmp .ne 14, 3) := by decide +kernel
theorem dX4_from_43 : decode cX4_from 43 = .ok (.iload 4, 2) := by decide +kernel
theorem dX4_from_45 : decode cX4_from 45 = .ok (.iload_n 3, 1) := by decide +kernel
theorem dX4_from_46 : decode cX4_from 46 = .ok (.if_icmp .le 8, 3) := by decide +kernel
theorem dX4_from_49 : decode cX4_from 49 = .ok (.iload 4, 2) := by decide +kernel
theorem dX4_from_51 : decode cX4_from 51 = .ok (.goto 4, 3) := by decide +kernel
theorem dX4_from_54 : decode cX4_from 54 = .ok (.iload_n 3, 1) := by decide +kernel
theorem dX4_from_55 : decode cX4_from 55 = .ok (.ireturn, 1) := by decide +kernel
theorem dX4_behind_0 : decode cX4_behind 0 = .ok (.aload_n 0, 1) := by decide +kernel
theorem dX4_behind_1 : decode cX4_behind 1 = .ok (.getfield 42, 3) := by decide +kernel
theorem dX4_behind_4 : decode cX4_behind 4 = .ok (.iconst 4, 1) := by decide +kernel
theorem dX4_behind_5 : decode cX4_behind 5 = .ok (.iload_n 1, 1) := by decide +kernel
theorem dX4_behind_6 : decode cX4_behind 6 = .ok (.imul, 1) := by decide +kernel
theorem dX4_behind_7 : decode cX4_behind 7 = .ok (.iaload, 1) := by decide +kernel
theorem dX4_behind_8 : decode cX4_behind 8 = .ok (.istore_n 2, 1) := by decide +kernel
theorem dX4_behind_9 : decode cX4_behind 9 = .ok (.iconst (-1), 1) := by decide +kernel
theorem dX4_behind_10 : decode cX4_behind 10 = .ok (.istore_n 3, 1) := by decide +kernel
theorem dX4_behind_11 : decode cX4_behind 11 = .ok (.iconst 0, 1) := by decide +kernel
theorem dX4_behind_12 : decode cX4_behind 12 = .ok (.istore 4, 2) := by decide +kernel
theorem dX4_behind_14 : decode cX4_behind 14 = .ok (.iload 4, 2) := by decide +kernel
theorem dX4_behind_16 : decode cX4_behind 16 = .ok (.aload_n 0, 1) := by decide +kernel
theorem dX4_behind_17 : decode cX4_behind 17 = .ok (.getfield 54, 3) := by decide +kernel
theorem dX4_behind_20 : decode cX4_behind 20 = .ok (.iload_n 1, 1) := by decide +kernel
theorem dX4_behind_21 : decode cX4_behind 21 = .ok (.iaload, 1) := by decide +kernel
theorem dX4_behind_22 : decode cX4_behind 22 = .ok (.if_icmp .ge 69, 3) := by decide +kernel
theorem dX4_behind_25 : decode cX4_behind 25 = .ok (.aload_n 0, 1) := by decide +kernel
theorem dX4_behind_26 : decode cX4_behind 26 = .ok (.getfield 51, 3) := by decide +kernel
theorem dX4_behind_29 : decode cX4_behind 29 = .ok (.iconst 4, 1) := by decide +kernel
theorem dX4_behind_30 : decode cX4_behind 30 = .ok (.iload_n 1, 1) := by decide +kernel
theorem dX4_behind_31 : decode cX4_behind 31 = .ok (.imul, 1) := by decide +kernel
theorem dX4_behind_32 : decode cX4_behind 32 = .ok (.iload 4, 2) := by decide +kernel
theorem dX4_behind_34 : decode cX4_behind 34 = .ok (.iadd, 1) := by decide +kernel
theorem dX4_behind_35 : decode cX4_behind 35 = .ok (.iaload, 1) := by decide +kernel
theorem dX4_behind_36 : decode cX4_behind 36 = .ok (.istore 5, 2) := by decide +kernel
theorem dX4_behind_38 : decode cX4_behind 38 = .ok (.aload_n 0, 1) := by decide +kernel
theorem dX4_behind_39 : decode cX4_behind 39 = .ok (.iload 5, 2) := by decide +kernel
theorem dX4_behind_41 : decode cX4_behind 41 = .ok (.iload_n 2, 1) := by decide +kernel
theorem dX4_behind_42 : decode cX4_behind 42 = .ok (.invokevirtual 177, 3) := by decide +kernel
theorem dX4_behind_45 : decode cX4_behind 45 = .ok (.aload_n 0, 1) := by decide +kernel
theorem dX4_behind_46 : decode cX4_behind 46 = .ok (.getfield 45, 3) := by decide +kernel
theorem dX4_behind_49 : decode cX4_behind 49 = .ok (.iconst 4, 1) := by decide +kernel
theorem dX4_behind_50 : decode cX4_behind 50 = .ok (.iload_n 1, 1) := by decide +kernel
theorem dX4_behind_51 : decode cX4_behind 51 = .ok (.imul, 1) := by decide +kernel
theorem dX4_behind_52 : decode cX4_behind 52 = .ok (.iaload, 1) := by decide +kernel
theorem dX4_behind_53 : decode cX4_behind 53 = .ok (.if_icmp .gt 7, 3) := by decide +kernel
theorem dX4_behind_56 : decode cX4_behind 56 = .ok (.iconst 1, 1) := by decide +kernel
theorem dX4_behind_57 : decode cX4_behind 57 = .ok (.goto 4, 3) := by decide +kernel
theorem dX4_behind_60 : decode cX4_behind 60 = .ok (.iconst 0, 1) := by decide +kernel
theorem dX4_behind_61 : decode cX4_behind 61 = .ok (.istore 6, 2) := by decide +kernel
theorem dX4_behind_63 : decode cX4_behind 63 = .ok (.iload 6, 2) := by decide +kernel
theorem dX4_behind_65 : decode cX4_behind 65 = .ok (.ifCond .eq 18, 3) := by decide +kernel
theorem dX4_behind_68 : decode cX4_behind 68 = .ok (.iload_n 3, 1) := by decide +kernel
theorem dX4_behind_69 : decode cX4_behind 69 = .ok (.ifCond .lt 9, 3) := by decide +kernel
theorem dX4_behind_72 : decode cX4_behind 72 = .ok (.iload 5, 2) := by decide +kernel
theorem dX4_behind_74 : decode cX4_behind 74 = .ok (.iload_n 3, 1) := by decide +kernel
theorem dX4_behind_75 : decode cX4_behind 75 = .ok (.if_icmp .ge 8, 3) := by decide +kernel
theorem dX4_behind_78 : decode cX4_behind 78 = .ok (.iload 5, 2) := by decide +kernel
theorem dX4_behind_80 : decode cX4_behind 80 = .ok (.goto 4, 3) := by decide +kernel
theorem dX4_behind_83 : decode cX4_behind 83 = .ok (.iload_n 3, 1) := by decide +kernel
theorem dX4_behind_84 : decode cX4_behind 84 = .ok (.istore_n 3, 1) := by decide +kernel
theorem dX4_behind_85 : decode cX4_behind 85 = .ok (.iinc 4 1, 3) := by decide +kernel
theorem dX4_behind_88 : decode cX4_behind 88 = .ok (.goto (-74), 3) := by decide +kernel
theorem dX4_behind_91 : decode cX4_behind 91 = .ok (.iload_n 3, 1) := by decide +kernel
theorem dX4_behind_92 : decode cX4_behind 92 = .ok (.ireturn, 1) := by decide +kernel
theorem dX4_isPassed_0 : decode cX4_isPassed 0 = .ok (.aload_n 0, 1) := by decide +kernel
theorem dX4_isPassed_1 : decode cX4_isPassed 1 = .ok (.getfield 42, 3) := by decide +kernel
theorem dX4_isPassed_4 : decode cX4_isPassed 4 = .ok (.iconst 4, 1) := by decide +kernel
theorem dX4_isPassed_5 : decode cX4_isPassed 5 = .ok (.iload_n 1, 1) := by decide +kernel
theorem dX4_isPassed_6 : decode cX4_isPassed 6 = .ok (.imul, 1) := by decide +kernel
theorem dX4_isPassed_7 : decode cX4_isPassed 7 = .ok (.iload_n 2, 1) := by decide +kernel
theorem dX4_isPassed_8 : decode cX4_isPassed 8 = .ok (.iadd, 1) := by decide +kernel
theorem dX4_isPassed_9 : decode cX4_isPassed 9 = .ok (.iaload, 1) := by decide +kernel
theorem dX4_isPassed_10 : decode cX4_isPassed 10 = .ok (.istore_n 3, 1) := by decide +kernel
theorem dX4_isPassed_11 : decode cX4_isPassed 11 = .ok (.aload_n 0, 1) := by decide +kernel
theorem dX4_isPassed_12 : decode cX4_isPassed 12 = .ok (.getfield 16, 3) := by decide +kernel
theorem dX4_isPassed_15 : decode cX4_isPassed 15 = .ok (.iload_n 3, 1) := by decide +kernel
theorem dX4_isPassed_16 : decode cX4_isPassed 16 = .ok (.iaload, 1) := by decide +kernel
theorem dX4_isPassed_17 : decode cX4_isPassed 17 = .ok (.iconst 2, 1) := by decide +kernel
theorem dX4_isPassed_18 : decode cX4_isPassed 18 = .ok (.if_icmp .eq 32, 3) := by decide +kernel
theorem dX4_isPassed_21 : decode cX4_isPassed 21 = .ok (.aload_n 0, 1) := by decide +kernel
theorem dX4_isPassed_22 : decode cX4_isPassed 22 = .ok (.getfield 16, 3) := by decide +kernel
theorem dX4_isPassed_25 : decode cX4_isPassed 25 = .ok (.iload_n 3, 1) := by decide +kernel
theorem dX4_isPassed_26 : decode cX4_isPassed 26 = .ok (.iaload, 1) := by decide +kernel
theorem dX4_isPassed_27 : decode cX4_isPassed 27 = .ok (.iconst 1, 1) := by decide +kernel
theorem dX4_isPassed_28 : decode cX4_isPassed 28 = .ok (.if_icmp .ne 26, 3) := by decide +kernel
theorem dX4_isPassed_31 : decode cX4_isPassed 31 = .ok (.aload_n 0, 1) := by decide +kernel
theorem dX4_isPassed_32 : decode cX4_isPassed 32 = .ok (.getfield 45, 3) := by decide +kernel
theorem dX4_isPassed_35 : decode cX4_isPassed 35 = .ok (.iconst 4, 1) := by decide +kernel
theorem dX4_isPassed_36 : decode cX4_isPassed 36 = .ok (.iload_n 1, 1) := by decide +kernel
theorem dX4_isPassed_37 : decode cX4_isPassed 37 = .ok (.imul, 1) := by decide +kernel
theorem dX4_isPassed_38 : decode cX4_isPassed 38 = .ok (.iload_n 2, 1) := by decide +kernel
theorem dX4_isPassed_39 : decode cX4_isPassed 39 = .ok (.iadd, 1) := by decide +kernel
theorem dX4_isPassed_40 : decode cX4_isPassed 40 = .ok (.iaload, 1) := by decide +kernel
theorem dX4_isPassed_41 : decode cX4_isPassed 41 = .ok (.aload_n 0, 1) := by decide +kernel
theorem dX4_isPassed_42 : decode cX4_isPassed 42 = .ok (.getfield 13, 3) := by decide +kernel
theorem dX4_isPassed_45 : decode cX4_isPassed 45 = .ok (.iload_n 3, 1) := by decide +kernel
theorem dX4_isPassed_46 : decode cX4_isPassed 46 = .ok (.iaload, 1) := by decide +kernel
theorem dX4_isPassed_47 : decode cX4_isPassed 47 = .ok (.if_icmp .ne 7, 3) := by decide +kernel
theorem dX4_isPassed_50 : decode cX4_isPassed 50 = .ok (.iconst 1, 1) := by decide +kernel
theorem dX4_isPassed_51 : decode cX4_isPassed 51 = .ok (.goto 4, 3) := by decide +kernel
theorem dX4_isPassed_54 : decode cX4_isPassed 54 = .ok (.iconst 0, 1) := by decide +kernel
theorem dX4_isPassed_55 : decode cX4_isPassed 55 = .ok (.ireturn, 1) := by decide +kernel
theorem dX4_lacking_0 : decode cX4_lacking 0 = .ok (.bipush (-2), 2) := by decide +kernel
theorem dX4_lacking_2 : decode cX4_lacking 2 = .ok (.istore_n 2, 1) := by decide +kernel
theorem dX4_lacking_3 : decode cX4_lacking 3 = .ok (.bipush 8, 2) := by decide +kernel
theorem dX4_lacking_5 : decode cX4_lacking 5 = .ok (.istore_n 3, 1) := by decide +kernel
theorem dX4_lacking_6 : decode cX4_lacking 6 = .ok (.iconst 0, 1) := by decide +kernel
theorem dX4_lacking_7 : decode cX4_lacking 7 = .ok (.istore 4, 2) := by decide +kernel
theorem dX4_lacking_9 : decode cX4_lacking 9 = .ok (.iload 4, 2) := by decide +kernel
theorem dX4_lacking_11 : decode cX4_lacking 11 = .ok (.aload_n 0, 1) := by decide +kernel
theorem dX4_lacking_12 : decode cX4_lacking 12 = .ok (.getfield 48, 3) := by decide +kernel
theorem dX4_lacking_15 : decode cX4_lacking 15 = .ok (.iload_n 1, 1) := by decide +kernel
theorem dX4_lacking_16 : decode cX4_lacking 16 = .ok (.iaload, 1) := by decide +kernel
theorem dX4_lacking_17 : decode cX4_lacking 17 = .ok (.if_icmp .ge 67, 3) := by decide +kernel
theorem dX4_lacking_20 : decode cX4_lacking 20 = .ok (.aload_n 0, 1) := by decide +kernel
theorem dX4_lacking_21 : decode cX4_lacking 21 = .ok (.getfield 42, 3) := by decide +kernel
theorem dX4_lacking_24 : decode cX4_lacking 24 = .ok (.iconst 4, 1) := by decide +kernel
theorem dX4_lacking_25 : decode cX4_lacking 25 = .ok (.iload_n 1, 1) := by decide +kernel
theorem dX4_lacking_26 : decode cX4_lacking 26 = .ok (.imul, 1) := by decide +kernel
theorem dX4_lacking_27 : decode cX4_lacking 27 = .ok (.iload 4, 2) := by decide +kernel
theorem dX4_lacking_29 : decode cX4_lacking 29 = .ok (.iadd, 1) := by decide +kernel
theorem dX4_lacking_30 : decode cX4_lacking 30 = .ok (.iaload, 1) := by decide +kernel
theorem dX4_lacking_31 : decode cX4_lacking 31 = .ok (.istore 5, 2) := by decide +kernel
theorem dX4_lacking_33 : decode cX4_lacking 33 = .ok (.aload_n 0, 1) := by decide +kernel
theorem dX4_lacking_34 : decode cX4_lacking 34 = .ok (.iload_n 1, 1) := by decide +kernel
theorem dX4_lacking_35 : decode cX4_lacking 35 = .ok (.iload 4, 2) := by decide +kernel
theorem dX4_lacking_37 : decode cX4_lacking 37 = .ok (.invokevirtual 225, 3) := by decide +kernel
theorem dX4_lacking_40 : decode cX4_lacking 40 = .ok (.ifCond .ne 38, 3) := by decide +kernel
theorem dX4_lacking_43 : decode cX4_lacking 43 = .ok (.iconst (-1), 1) := by decide +kernel
theorem dX4_lacking_44 : decode cX4_lacking 44 = .ok (.istore_n 2, 1) := by decide +kernel
theorem dX4_lacking_45 : decode cX4_lacking 45 = .ok (.aload_n 0, 1) := by decide +kernel
theorem dX4_lacking_46 : decode cX4_lacking 46 = .ok (.iload 5, 2) := by decide +kernel
theorem dX4_lacking_48 : decode cX4_lacking 48 = .ok (.aload_n 0, 1) := by decide +kernel
theorem dX4_lacking_49 : decode cX4_lacking 49 = .ok (.getfield 45, 3) := by decide +kernel
theorem dX4_lacking_52 : decode cX4_lacking 52 = .ok (.iconst 4, 1) := by decide +kernel
theorem dX4_lacking_53 : decode cX4_lacking 53 = .ok (.iload_n 1, 1) := by decide +kernel
theorem dX4_lacking_54 : decode cX4_lacking 54 = .ok (.imul, 1) := by decide +kernel
theorem dX4_lacking_55 : decode cX4_lacking 55 = .ok (.iload 4, 2) := by decide +kernel
theorem dX4_lacking_57 : decode cX4_lacking 57 = .ok (.iadd, 1) := by decide +kernel
theorem dX4_lacking_58 : decode cX4_lacking 58 = .ok (.iaload, 1) := by decide +kernel
theorem dX4_lacking_59 : decode cX4_lacking 59 = .ok (.invokevirtual 222, 3) := by decide +kernel
theorem dX4_lacking_62 : decode cX4_lacking 62 = .ok (.ifCond .ne 14, 3) := by decide +kernel
theorem dX4_lacking_65 : decode cX4_lacking 65 = .ok (.iload 5, 2) := by decide +kernel
theorem dX4_lacking_67 : decode cX4_lacking 67 = .ok (.iload_n 3, 1) := by decide +kernel
theorem dX4_lacking_68 : decode cX4_lacking 68 = .ok (.if_icmp .ge 8, 3) := by decide +kernel
theorem dX4_lacking_71 : decode cX4_lacking 71 = .ok (.iload 5, 2) := by decide +kernel
theorem dX4_lacking_73 : decode cX4_lacking 73 = .ok (.goto 4, 3) := by decide +kernel
theorem dX4_lacking_76 : decode cX4_lacking 76 = .ok (.iload_n 3, 1) := by decide +kernel
theorem dX4_lacking_77 : decode cX4_lacking 77 = .ok (.istore_n 3, 1) := by decide +kernel
theorem dX4_lacking_78 : decode cX4_lacking 78 = .ok (.iinc 4 1, 3) := by decide +kernel
theorem dX4_lacking_81 : decode cX4_lacking 81 = .ok (.goto (-72), 3) := by decide +kernel
theorem dX4_lacking_84 : decode cX4_lacking 84 = .ok (.iload_n 3, 1) := by decide +kernel
theorem dX4_lacking_85 : decode cX4_lacking 85 = .ok (.bipush 8, 2) := by decide +kernel
theorem dX4_lacking_87 : decode cX4_lacking 87 = .ok (.if_icmp .ge 7, 3) := by decide +kernel
theorem dX4_lacking_90 : decode cX4_lacking 90 = .ok (.iload_n 3, 1) := by decide +kernel
theorem dX4_lacking_91 : decode cX4_lacking 91 = .ok (.goto 4, 3) := by decide +kernel
theorem dX4_lacking_94 : decode cX4_lacking 94 = .ok (.iload_n 2, 1) := by decide +kernel
theorem dX4_lacking_95 : decode cX4_lacking 95 = .ok (.ireturn, 1) := by decide +kernel
theorem dX4_whyOne_0 : decode cX4_whyOne 0 = .ok (.aload_n 0, 1) := by decide +kernel
theorem dX4_whyOne_1 : decode cX4_whyOne 1 = .ok (.getfield 39, 3) := by decide +kernel
theorem dX4_whyOne_4 : decode cX4_whyOne 4 = .ok (.iload_n 1, 1) := by decide +kernel
theorem dX4_whyOne_5 : decode cX4_whyOne 5 = .ok (.iaload, 1) := by decide +kernel
theorem dX4_whyOne_6 : decode cX4_whyOne 6 = .ok (.istore_n 2, 1) := by decide +kernel
theorem dX4_whyOne_7 : decode cX4_whyOne 7 = .ok (.aload_n 0, 1) := by decide +kernel
theorem dX4_whyOne_8 : decode cX4_whyOne 8 = .ok (.getfield 42, 3) := by decide +kernel
theorem dX4_whyOne_11 : decode cX4_whyOne 11 = .ok (.iconst 4, 1) := by decide +kernel
theorem dX4_whyOne_12 : decode cX4_whyOne 12 = .ok (.iload_n 1, 1) := by decide +kernel
theorem dX4_whyOne_13 : decode cX4_whyOne 13 = .ok (.imul, 1) := by decide +kernel
theorem dX4_whyOne_14 : decode cX4_whyOne 14 = .ok (.iaload, 1) := by decide +kernel
theorem dX4_whyOne_15 : decode cX4_whyOne 15 = .ok (.istore_n 3, 1) := by decide +kernel
theorem dX4_whyOne_16 : decode cX4_whyOne 16 = .ok (.iload_n 2, 1) := by decide +kernel
theorem dX4_whyOne_17 : decode cX4_whyOne 17 = .ok (.iconst 4, 1) := by decide +kernel
theorem dX4_whyOne_18 : decode cX4_whyOne 18 = .ok (.if_icmp .ne 18, 3) := by decide +kernel
theorem dX4_whyOne_21 : decode cX4_whyOne 21 = .ok (.aload_n 0, 1) := by decide +kernel
theorem dX4_whyOne_22 : decode cX4_whyOne 22 = .ok (.getfield 90, 3) := by decide +kernel
theorem dX4_whyOne_25 : decode cX4_whyOne 25 = .ok (.iload_n 1, 1) := by decide +kernel
theorem dX4_whyOne_26 : decode cX4_whyOne 26 = .ok (.iaload, 1) := by decide +kernel
theorem dX4_whyOne_27 : decode cX4_whyOne 27 = .ok (.ifCond .le 7, 3) := by decide +kernel
theorem dX4_whyOne_30 : decode cX4_whyOne 30 = .ok (.iconst 0, 1) := by decide +kernel
theorem dX4_whyOne_31 : decode cX4_whyOne 31 = .ok (.goto 4, 3) := by decide +kernel
theorem dX4_whyOne_34 : decode cX4_whyOne 34 = .ok (.iconst 2, 1) := by decide +kernel
theorem dX4_whyOne_35 : decode cX4_whyOne 35 = .ok (.ireturn, 1) := by decide +kernel
theorem dX4_whyOne_36 : decode cX4_whyOne 36 = .ok (.iload_n 2, 1) := by decide +kernel
theorem dX4_whyOne_37 : decode cX4_whyOne 37 = .ok (.iconst 5, 1) := by decide +kernel
theorem dX4_whyOne_38 : decode cX4_whyOne 38 = .ok (.if_icmp .ne 35, 3) := by decide +kernel
theorem dX4_whyOne_41 : decode cX4_whyOne 41 = .ok (.aload_n 0, 1) := by decide +kernel
theorem dX4_whyOne_42 : decode cX4_whyOne 42 = .ok (.iload_n 1, 1) := by decide +kernel
theorem dX4_whyOne_43 : decode cX4_whyOne 43 = .ok (.invokevirtual 228, 3) := by decide +kernel
theorem dX4_whyOne_46 : decode cX4_whyOne 46 = .ok (.istore 4, 2) := by decide +kernel
theorem dX4_whyOne_48 : decode cX4_whyOne 48 = .ok (.iload 4, 2) := by decide +kernel
theorem dX4_whyOne_50 : decode cX4_whyOne 50 = .ok (.bipush (-2), 2) := by decide +kernel
theorem dX4_whyOne_52 : decode cX4_whyOne 52 = .ok (.if_icmp .ne 8, 3) := by decide +kernel
theorem dX4_whyOne_55 : decode cX4_whyOne 55 = .ok (.bipush 6, 2) := by decide +kernel
theorem dX4_whyOne_57 : decode cX4_whyOne 57 = .ok (.goto 15, 3) := by decide +kernel
theorem dX4_whyOne_60 : decode cX4_whyOne 60 = .ok (.iload 4, 2) := by decide +kernel
theorem dX4_whyOne_62 : decode cX4_whyOne 62 = .ok (.iconst (-1), 1) := by decide +kernel
theorem dX4_whyOne_63 : decode cX4_whyOne 63 = .ok (.if_icmp .ne 7, 3) := by decide +kernel
theorem dX4_whyOne_66 : decode cX4_whyOne 66 = .ok (.iconst 0, 1) := by decide +kernel
theorem dX4_whyOne_67 : decode cX4_whyOne 67 = .ok (.goto 5, 3) := by decide +kernel
theorem dX4_whyOne_70 : decode cX4_whyOne 70 = .ok (.bipush 7, 2) := by decide +kernel
theorem dX4_whyOne_72 : decode cX4_whyOne 72 = .ok (.ireturn, 1) := by decide +kernel
theorem dX4_whyOne_73 : decode cX4_whyOne 73 = .ok (.aload_n 0, 1) := by decide +kernel
theorem dX4_whyOne_74 : decode cX4_whyOne 74 = .ok (.getfield 16, 3) := by decide +kernel
theorem dX4_whyOne_77 : decode cX4_whyOne 77 = .ok (.iload_n 3, 1) := by decide +kernel
theorem dX4_whyOne_78 : decode cX4_whyOne 78 = .ok (.iaload, 1) := by decide +kernel
theorem dX4_whyOne_79 : decode cX4_whyOne 79 = .ok (.iconst 2, 1) := by decide +kernel
theorem dX4_whyOne_80 : decode cX4_whyOne 80 = .ok (.if_icmp .ne 5, 3) := by decide +kernel
theorem dX4_whyOne_83 : decode cX4_whyOne 83 = .ok (.iconst 1, 1) := by decide +kernel
theorem dX4_whyOne_84 : decode cX4_whyOne 84 = .ok (.ireturn, 1) := by decide +kernel
theorem dX4_whyOne_85 : decode cX4_whyOne 85 = .ok (.iload_n 2, 1) := by decide +kernel
theorem dX4_whyOne_86 : decode cX4_whyOne 86 = .ok (.iconst 1, 1) := by decide +kernel
theorem dX4_whyOne_87 : decode cX4_whyOne 87 = .ok (.if_icmp .ne 41, 3) := by decide +kernel
theorem dX4_whyOne_90 : decode cX4_whyOne 90 = .ok (.aload_n 0, 1) := by decide +kernel
theorem dX4_whyOne_91 : decode cX4_whyOne 91 = .ok (.iload_n 3, 1) := by decide +kernel
theorem dX4_whyOne_92 : decode cX4_whyOne 92 = .ok (.invokevirtual 231, 3) := by decide +kernel
theorem dX4_whyOne_95 : decode cX4_whyOne 95 = .ok (.istore 4, 2) := by decide +kernel
theorem dX4_whyOne_97 : decode cX4_whyOne 97 = .ok (.iload 4, 2) := by decide +kernel
theorem dX4_whyOne_99 : decode cX4_whyOne 99 = .ok (.ifCond .lt 27, 3) := by decide +kernel
theorem dX4_whyOne_102 : decode cX4_whyOne 102 = .ok (.aload_n 0, 1) := by decide +kernel
theorem dX4_whyOne_103 : decode cX4_whyOne 103 = .ok (.getfield 69, 3) := by decide +kernel
theorem dX4_whyOne_106 : decode cX4_whyOne 106 = .ok (.iload_n 1, 1) := by decide +kernel
theorem dX4_whyOne_107 : decode cX4_whyOne 107 = .ok (.iaload, 1) := by decide +kernel
theorem dX4_whyOne_108 : decode cX4_whyOne 108 = .ok (.ifCond .eq 14, 3) := by decide +kernel
theorem dX4_whyOne_111 : decode cX4_whyOne 111 = .ok (.iload 4, 2) := by decide +kernel
theorem dX4_whyOne_113 : decode cX4_whyOne 113 = .ok (.aload_n 0, 1) := by decide +kernel
theorem dX4_whyOne_114 : decode cX4_whyOne 114 = .ok (.getfield 75, 3) := by decide +kernel
theorem dX4_whyOne_117 : decode cX4_whyOne 117 = .ok (.iload_n 1, 1) := by decide +kernel
theorem dX4_whyOne_118 : decode cX4_whyOne 118 = .ok (.iaload, 1) := by decide +kernel
theorem dX4_whyOne_119 : decode cX4_whyOne 119 = .ok (.if_icmp .le 7, 3) := by decide +kernel
theorem dX4_whyOne_122 : decode cX4_whyOne 122 = .ok (.iconst 0, 1) := by decide +kernel
theorem dX4_whyOne_123 : decode cX4_whyOne 123 = .ok (.goto 4, 3) := by decide +kernel
theorem dX4_whyOne_126 : decode cX4_whyOne 126 = .ok (.iconst 2, 1) := by decide +kernel
theorem dX4_whyOne_127 : decode cX4_whyOne 127 = .ok (.ireturn, 1) := by decide +kernel
theorem dX4_whyOne_128 : decode cX4_whyOne 128 = .ok (.aload_n 0, 1) := by decide +kernel
theorem dX4_whyOne_129 : decode cX4_whyOne 129 = .ok (.iload_n 1, 1) := by decide +kernel
theorem dX4_whyOne_130 : decode cX4_whyOne 130 = .ok (.invokevirtual 234, 3) := by decide +kernel
theorem dX4_whyOne_133 : decode cX4_whyOne 133 = .ok (.istore 4, 2) := by decide +kernel
theorem dX4_whyOne_135 : decode cX4_whyOne 135 = .ok (.iload 4, 2) := by decide +kernel
theorem dX4_whyOne_137 : decode cX4_whyOne 137 = .ok (.aload_n 0, 1) := by decide +kernel
theorem dX4_whyOne_138 : decode cX4_whyOne 138 = .ok (.getfield 13, 3) := by decide +kernel
theorem dX4_whyOne_141 : decode cX4_whyOne 141 = .ok (.iload_n 3, 1) := by decide +kernel
theorem dX4_whyOne_142 : decode cX4_whyOne 142 = .ok (.iaload, 1) := by decide +kernel
theorem dX4_whyOne_143 : decode cX4_whyOne 143 = .ok (.if_icmp .lt 5, 3) := by decide +kernel
theorem dX4_whyOne_146 : decode cX4_whyOne 146 = .ok (.iconst 2, 1) := by decide +kernel
theorem dX4_whyOne_147 : decode cX4_whyOne 147 = .ok (.ireturn, 1) := by decide +kernel
theorem dX4_whyOne_148 : decode cX4_whyOne 148 = .ok (.aload_n 0, 1) := by decide +kernel
theorem dX4_whyOne_149 : decode cX4_whyOne 149 = .ok (.iload_n 3, 1) := by decide +kernel
theorem dX4_whyOne_150 : decode cX4_whyOne 150 = .ok (.iload 4, 2) := by decide +kernel
theorem dX4_whyOne_152 : decode cX4_whyOne 152 = .ok (.invokevirtual 180, 3) := by decide +kernel
theorem dX4_whyOne_155 : decode cX4_whyOne 155 = .ok (.ifCond .eq 5, 3) := by decide +kernel
theorem dX4_whyOne_158 : decode cX4_whyOne 158 = .ok (.iconst 3, 1) := by decide +kernel
theorem dX4_whyOne_159 : decode cX4_whyOne 159 = .ok (.ireturn, 1) := by decide +kernel
theorem dX4_whyOne_160 : decode cX4_whyOne 160 = .ok (.aload_n 0, 1) := by decide +kernel
theorem dX4_whyOne_161 : decode cX4_whyOne 161 = .ok (.iload_n 1, 1) := by decide +kernel
theorem dX4_whyOne_162 : decode cX4_whyOne 162 = .ok (.invokevirtual 237, 3) := by decide +kernel
theorem dX4_whyOne_165 : decode cX4_whyOne 165 = .ok (.ifCond .lt 5, 3) := by decide +kernel
theorem dX4_whyOne_168 : decode cX4_whyOne 168 = .ok (.iconst 4, 1) := by decide +kernel
theorem dX4_whyOne_169 : decode cX4_whyOne 169 = .ok (.ireturn, 1) := by decide +kernel
theorem dX4_whyOne_170 : decode cX4_whyOne 170 = .ok (.aload_n 0, 1) := by decide +kernel
theorem dX4_whyOne_171 : decode cX4_whyOne 171 = .ok (.getfield 57, 3) := by decide +kernel
theorem dX4_whyOne_174 : decode cX4_whyOne 174 = .ok (.iload_n 1, 1) := by decide +kernel
theorem dX4_whyOne_175 : decode cX4_whyOne 175 = .ok (.iaload, 1) := by decide +kernel
theorem dX4_whyOne_176 : decode cX4_whyOne 176 = .ok (.istore 5, 2) := by decide +kernel
theorem dX4_whyOne_178 : decode cX4_whyOne 178 = .ok (.iload_n 2, 1) := by decide +kernel
theorem dX4_whyOne_179 : decode cX4_whyOne 179 = .ok (.bipush 7, 2) := by decide +kernel
theorem dX4_whyOne_181 : decode cX4_whyOne 181 = .ok (.if_icmp .ne 26, 3) := by decide +kernel
theorem dX4_whyOne_184 : decode cX4_whyOne 184 = .ok (.aload_n 0, 1) := by decide +kernel
theorem dX4_whyOne_185 : decode cX4_whyOne 185 = .ok (.getfield 16, 3) := by decide +kernel
theorem dX4_whyOne_188 : decode cX4_whyOne 188 = .ok (.iload 5, 2) := by decide +kernel
theorem dX4_whyOne_190 : decode cX4_whyOne 190 = .ok (.iaload, 1) := by decide +kernel
theorem dX4_whyOne_191 : decode cX4_whyOne 191 = .ok (.ifCond .gt 12, 3) := by decide +kernel
theorem dX4_whyOne_194 : decode cX4_whyOne 194 = .ok (.aload_n 0, 1) := by decide +kernel
theorem dX4_whyOne_195 : decode cX4_whyOne 195 = .ok (.iload 5, 2) := by decide +kernel
theorem dX4_whyOne_197 : decode cX4_whyOne 197 = .ok (.invokevirtual 219, 3) := by decide +kernel
theorem dX4_whyOne_200 : decode cX4_whyOne 200 = .ok (.ifCond .eq 7, 3) := by decide +kernel
theorem dX4_whyOne_203 : decode cX4_whyOne 203 = .ok (.iconst 5, 1) := by decide +kernel
theorem dX4_whyOne_204 : decode cX4_whyOne 204 = .ok (.goto 4, 3) := by decide +kernel
theorem dX4_whyOne_207 : decode cX4_whyOne 207 = .ok (.iconst 0, 1) := by decide +kernel
theorem dX4_whyOne_208 : decode cX4_whyOne 208 = .ok (.ireturn, 1) := by decide +kernel
theorem dX4_why_0 : decode cX4_why 0 = .ok (.aload_n 0, 1) := by decide +kernel
theorem dX4_why_1 : decode cX4_why 1 = .ok (.getfield 135, 3) := by decide +kernel
theorem dX4_why_4 : decode cX4_why 4 = .ok (.ifCond .ne 6, 3) := by decide +kernel
theorem dX4_why_7 : decode cX4_why 7 = .ok (.bipush (-2), 2) := by decide +kernel
theorem dX4_why_9 : decode cX4_why 9 = .ok (.ireturn, 1) := by decide +kernel
theorem dX4_why_10 : decode cX4_why 10 = .ok (.aload_n 0, 1) := by decide +kernel
theorem dX4_why_11 : decode cX4_why 11 = .ok (.iload_n 1, 1) := by decide +kernel
theorem dX4_why_12 : decode cX4_why 12 = .ok (.invokevirtual 146, 3) := by decide +kernel
theorem dX4_why_15 : decode cX4_why 15 = .ok (.ifCond .eq 11, 3) := by decide +kernel
theorem dX4_why_18 : decode cX4_why 18 = .ok (.aload_n 0, 1) := by decide +kernel
theorem dX4_why_19 : decode cX4_why 19 = .ok (.iload_n 1, 1) := by decide +kernel
theorem dX4_why_20 : decode cX4_why 20 = .ok (.invokevirtual 240, 3) := by decide +kernel
theorem dX4_why_23 : decode cX4_why 23 = .ok (.goto 4, 3) := by decide +kernel
theorem dX4_why_26 : decode cX4_why 26 = .ok (.iconst (-1), 1) := by decide +kernel
theorem dX4_why_27 : decode cX4_why 27 = .ok (.ireturn, 1) := by decide +kernel
theorem dX4_on_0 : decode cX4_on 0 = .ok (.aload_n 0, 1) := by decide +kernel
theorem dX4_on_1 : decode cX4_on 1 = .ok (.iload_n 1, 1) := by decide +kernel
theorem dX4_on_2 : decode cX4_on 2 = .ok (.invokevirtual 243, 3) := by decide +kernel
theorem dX4_on_5 : decode cX4_on 5 = .ok (.tableswitch 60 3 7 #[35, 41, 47, 60, 54], 35) := by decide +kernel
theorem dX4_on_40 : decode cX4_on 40 = .ok (.aload_n 0, 1) := by decide +kernel
theorem dX4_on_41 : decode cX4_on 41 = .ok (.iload_n 1, 1) := by decide +kernel
theorem dX4_on_42 : decode cX4_on 42 = .ok (.invokevirtual 234, 3) := by decide +kernel
theorem dX4_on_45 : decode cX4_on 45 = .ok (.ireturn, 1) := by decide +kernel
theorem dX4_on_46 : decode cX4_on 46 = .ok (.aload_n 0, 1) := by decide +kernel
theorem dX4_on_47 : decode cX4_on 47 = .ok (.iload_n 1, 1) := by decide +kernel
theorem dX4_on_48 : decode cX4_on 48 = .ok (.invokevirtual 237, 3) := by decide +kernel
theorem dX4_on_51 : decode cX4_on 51 = .ok (.ireturn, 1) := by decide +kernel
theorem dX4_on_52 : decode cX4_on 52 = .ok (.aload_n 0, 1) := by decide +kernel
theorem dX4_on_53 : decode cX4_on 53 = .ok (.getfield 57, 3) := by decide +kernel
theorem dX4_on_56 : decode cX4_on 56 = .ok (.iload_n 1, 1) := by decide +kernel
theorem dX4_on_57 : decode cX4_on 57 = .ok (.iaload, 1) := by decide +kernel
theorem dX4_on_58 : decode cX4_on 58 = .ok (.ireturn, 1) := by decide +kernel
theorem dX4_on_59 : decode cX4_on 59 = .ok (.aload_n 0, 1) := by decide +kernel
theorem dX4_on_60 : decode cX4_on 60 = .ok (.iload_n 1, 1) := by decide +kernel
theorem dX4_on_61 : decode cX4_on 61 = .ok (.invokevirtual 228, 3) := by decide +kernel
theorem dX4_on_64 : decode cX4_on 64 = .ok (.ireturn, 1) := by decide +kernel
theorem dX4_on_65 : decode cX4_on 65 = .ok (.iconst (-1), 1) := by decide +kernel
theorem dX4_on_66 : decode cX4_on 66 = .ok (.ireturn, 1) := by decide +kernel
theorem dX4_stuck_0 : decode cX4_stuck 0 = .ok (.aload_n 0, 1) := by decide +kernel
theorem dX4_stuck_1 : decode cX4_stuck 1 = .ok (.getfield 135, 3) := by decide +kernel
theorem dX4_stuck_4 : decode cX4_stuck 4 = .ok (.istore_n 1, 1) := by decide +kernel
theorem dX4_stuck_5 : decode cX4_stuck 5 = .ok (.iconst 0, 1) := by decide +kernel
theorem dX4_stuck_6 : decode cX4_stuck 6 = .ok (.istore_n 2, 1) := by decide +kernel
theorem dX4_stuck_7 : decode cX4_stuck 7 = .ok (.iload_n 2, 1) := by decide +kernel
theorem dX4_stuck_8 : decode cX4_stuck 8 = .ok (.aload_n 0, 1) := by decide +kernel
theorem dX4_stuck_9 : decode cX4_stuck 9 = .ok (.getfield 124, 3) := by decide +kernel
theorem dX4_stuck_12 : decode cX4_stuck 12 = .ok (.if_icmp .ge 27, 3) := by decide +kernel
theorem dX4_stuck_15 : decode cX4_stuck 15 = .ok (.iload_n 1, 1) := by decide +kernel
theorem dX4_stuck_16 : decode cX4_stuck 16 = .ok (.ifCond .eq 15, 3) := by decide +kernel
theorem dX4_stuck_19 : decode cX4_stuck 19 = .ok (.aload_n 0, 1) := by decide +kernel
theorem dX4_stuck_20 : decode cX4_stuck 20 = .ok (.iload_n 2, 1) := by decide +kernel
theorem dX4_stuck_21 : decode cX4_stuck 21 = .ok (.invokevirtual 240, 3) := by decide +kernel
theorem dX4_stuck_24 : decode cX4_stuck 24 = .ok (.ifCond .eq 7, 3) := by decide +kernel
theorem dX4_stuck_27 : decode cX4_stuck 27 = .ok (.iconst 1, 1) := by decide +kernel
theorem dX4_stuck_28 : decode cX4_stuck 28 = .ok (.goto 4, 3) := by decide +kernel
theorem dX4_stuck_31 : decode cX4_stuck 31 = .ok (.iconst 0, 1) := by decide +kernel
theorem dX4_stuck_32 : decode cX4_stuck 32 = .ok (.istore_n 1, 1) := by decide +kernel
theorem dX4_stuck_33 : decode cX4_stuck 33 = .ok (.iinc 2 1, 3) := by decide +kernel
theorem dX4_stuck_36 : decode cX4_stuck 36 = .ok (.goto (-29), 3) := by decide +kernel
theorem dX4_stuck_39 : decode cX4_stuck 39 = .ok (.iconst 0, 1) := by decide +kernel
theorem dX4_stuck_40 : decode cX4_stuck 40 = .ok (.istore_n 2, 1) := by decide +kernel
theorem dX4_stuck_41 : decode cX4_stuck 41 = .ok (.iconst 0, 1) := by decide +kernel
theorem dX4_stuck_42 : decode cX4_stuck 42 = .ok (.istore_n 3, 1) := by decide +kernel
theorem dX4_stuck_43 : decode cX4_stuck 43 = .ok (.iload_n 3, 1) := by decide +kernel
theorem dX4_stuck_44 : decode cX4_stuck 44 = .ok (.aload_n 0, 1) := by decide +kernel
theorem dX4_stuck_45 : decode cX4_stuck 45 = .ok (.getfield 121, 3) := by decide +kernel
theorem dX4_stuck_48 : decode cX4_stuck 48 = .ok (.if_icmp .ge 38, 3) := by decide +kernel
theorem dX4_stuck_51 : decode cX4_stuck 51 = .ok (.aload_n 0, 1) := by decide +kernel
theorem dX4_stuck_52 : decode cX4_stuck 52 = .ok (.getfield 16, 3) := by decide +kernel
theorem dX4_stuck_55 : decode cX4_stuck 55 = .ok (.iload_n 3, 1) := by decide +kernel
theorem dX4_stuck_56 : decode cX4_stuck 56 = .ok (.iaload, 1) := by decide +kernel
theorem dX4_stuck_57 : decode cX4_stuck 57 = .ok (.ifCond .ne 23, 3) := by decide +kernel
theorem dX4_stuck_60 : decode cX4_stuck 60 = .ok (.iconst 1, 1) := by decide +kernel
theorem dX4_stuck_61 : decode cX4_stuck 61 = .ok (.istore_n 2, 1) := by decide +kernel
theorem dX4_stuck_62 : decode cX4_stuck 62 = .ok (.iload_n 1, 1) := by decide +kernel
theorem dX4_stuck_63 : decode cX4_stuck 63 = .ok (.ifCond .eq 15, 3) := by decide +kernel
theorem dX4_stuck_66 : decode cX4_stuck 66 = .ok (.aload_n 0, 1) := by decide +kernel
theorem dX4_stuck_67 : decode cX4_stuck 67 = .ok (.iload_n 3, 1) := by decide +kernel
theorem dX4_stuck_68 : decode cX4_stuck 68 = .ok (.invokevirtual 219, 3) := by decide +kernel
theorem dX4_stuck_71 : decode cX4_stuck 71 = .ok (.ifCond .eq 7, 3) := by decide +kernel
theorem dX4_stuck_74 : decode cX4_stuck 74 = .ok (.iconst 1, 1) := by decide +kernel
theorem dX4_stuck_75 : decode cX4_stuck 75 = .ok (.goto 4, 3) := by decide +kernel
theorem dX4_stuck_78 : decode cX4_stuck 78 = .ok (.iconst 0, 1) := by decide +kernel
theorem dX4_stuck_79 : decode cX4_stuck 79 = .ok (.istore_n 1, 1) := by decide +kernel
theorem dX4_stuck_80 : decode cX4_stuck 80 = .ok (.iinc 3 1, 3) := by decide +kernel
theorem dX4_stuck_83 : decode cX4_stuck 83 = .ok (.goto (-40), 3) := by decide +kernel
theorem dX4_stuck_86 : decode cX4_stuck 86 = .ok (.iload_n 1, 1) := by decide +kernel
theorem dX4_stuck_87 : decode cX4_stuck 87 = .ok (.ifCond .eq 11, 3) := by decide +kernel
theorem dX4_stuck_90 : decode cX4_stuck 90 = .ok (.iload_n 2, 1) := by decide +kernel
theorem dX4_stuck_91 : decode cX4_stuck 91 = .ok (.ifCond .eq 7, 3) := by decide +kernel
theorem dX4_stuck_94 : decode cX4_stuck 94 = .ok (.iconst 1, 1) := by decide +kernel
theorem dX4_stuck_95 : decode cX4_stuck 95 = .ok (.goto 4, 3) := by decide +kernel
theorem dX4_stuck_98 : decode cX4_stuck 98 = .ok (.iconst 0, 1) := by decide +kernel
theorem dX4_stuck_99 : decode cX4_stuck 99 = .ok (.ireturn, 1) := by decide +kernel
theorem dX4_take_0 : decode cX4_take 0 = .ok (.aload_n 0, 1) := by decide +kernel
theorem dX4_take_1 : decode cX4_take 1 = .ok (.iload_n 2, 1) := by decide +kernel
theorem dX4_take_2 : decode cX4_take 2 = .ok (.iload_n 3, 1) := by decide +kernel
theorem dX4_take_3 : decode cX4_take 3 = .ok (.invokevirtual 171, 3) := by decide +kernel
theorem dX4_take_6 : decode cX4_take 6 = .ok (.istore 4, 2) := by decide +kernel
theorem dX4_take_8 : decode cX4_take 8 = .ok (.aload_n 0, 1) := by decide +kernel
theorem dX4_take_9 : decode cX4_take 9 = .ok (.getfield 69, 3) := by decide +kernel
theorem dX4_take_12 : decode cX4_take 12 = .ok (.iload_n 1, 1) := by decide +kernel
theorem dX4_take_13 : decode cX4_take 13 = .ok (.dup2, 1) := by decide +kernel
theorem dX4_take_14 : decode cX4_take 14 = .ok (.iaload, 1) := by decide +kernel
theorem dX4_take_15 : decode cX4_take 15 = .ok (.iconst 1, 1) := by decide +kernel
theorem dX4_take_16 : decode cX4_take 16 = .ok (.iadd, 1) := by decide +kernel
theorem dX4_take_17 : decode cX4_take 17 = .ok (.iastore, 1) := by decide +kernel
theorem dX4_take_18 : decode cX4_take 18 = .ok (.aload_n 0, 1) := by decide +kernel
theorem dX4_take_19 : decode cX4_take 19 = .ok (.getfield 72, 3) := by decide +kernel
theorem dX4_take_22 : decode cX4_take 22 = .ok (.iload_n 1, 1) := by decide +kernel
theorem dX4_take_23 : decode cX4_take 23 = .ok (.iload_n 2, 1) := by decide +kernel
theorem dX4_take_24 : decode cX4_take 24 = .ok (.iastore, 1) := by decide +kernel
theorem dX4_take_25 : decode cX4_take 25 = .ok (.aload_n 0, 1) := by decide +kernel
theorem dX4_take_26 : decode cX4_take 26 = .ok (.getfield 75, 3) := by decide +kernel
theorem dX4_take_29 : decode cX4_take 29 = .ok (.iload_n 1, 1) := by decide +kernel
theorem dX4_take_30 : decode cX4_take 30 = .ok (.iload_n 3, 1) := by decide +kernel
theorem dX4_take_31 : decode cX4_take 31 = .ok (.iastore, 1) := by decide +kernel
theorem dX4_take_32 : decode cX4_take 32 = .ok (.aload_n 0, 1) := by decide +kernel
theorem dX4_take_33 : decode cX4_take 33 = .ok (.getfield 78, 3) := by decide +kernel
theorem dX4_take_36 : decode cX4_take 36 = .ok (.iload_n 1, 1) := by decide +kernel
theorem dX4_take_37 : decode cX4_take 37 = .ok (.aload_n 0, 1) := by decide +kernel
theorem dX4_take_38 : decode cX4_take 38 = .ok (.getfield 27, 3) := by decide +kernel
theorem dX4_take_41 : decode cX4_take 41 = .ok (.iload 4, 2) := by decide +kernel
theorem dX4_take_43 : decode cX4_take 43 = .ok (.laload, 1) := by decide +kernel
theorem dX4_take_44 : decode cX4_take 44 = .ok (.lastore, 1) := by decide +kernel
theorem dX4_take_45 : decode cX4_take 45 = .ok (.aload_n 0, 1) := by decide +kernel
theorem dX4_take_46 : decode cX4_take 46 = .ok (.getfield 81, 3) := by decide +kernel
theorem dX4_take_49 : decode cX4_take 49 = .ok (.iload_n 1, 1) := by decide +kernel
theorem dX4_take_50 : decode cX4_take 50 = .ok (.aload_n 0, 1) := by decide +kernel
theorem dX4_take_51 : decode cX4_take 51 = .ok (.getfield 30, 3) := by decide +kernel
theorem dX4_take_54 : decode cX4_take 54 = .ok (.iload 4, 2) := by decide +kernel
theorem dX4_take_56 : decode cX4_take 56 = .ok (.iaload, 1) := by decide +kernel
theorem dX4_take_57 : decode cX4_take 57 = .ok (.iastore, 1) := by decide +kernel
theorem dX4_take_58 : decode cX4_take 58 = .ok (.aload_n 0, 1) := by decide +kernel
theorem dX4_take_59 : decode cX4_take 59 = .ok (.getfield 84, 3) := by decide +kernel
theorem dX4_take_62 : decode cX4_take 62 = .ok (.iload_n 1, 1) := by decide +kernel
theorem dX4_take_63 : decode cX4_take 63 = .ok (.aload_n 0, 1) := by decide +kernel
theorem dX4_take_64 : decode cX4_take 64 = .ok (.getfield 33, 3) := by decide +kernel
theorem dX4_take_67 : decode cX4_take 67 = .ok (.iload 4, 2) := by decide +kernel
theorem dX4_take_69 : decode cX4_take 69 = .ok (.iaload, 1) := by decide +kernel
theorem dX4_take_70 : decode cX4_take 70 = .ok (.iastore, 1) := by decide +kernel
theorem dX4_take_71 : decode cX4_take 71 = .ok (.iconst 0, 1) := by decide +kernel
theorem dX4_take_72 : decode cX4_take 72 = .ok (.istore 5, 2) := by decide +kernel
theorem dX4_take_74 : decode cX4_take 74 = .ok (.iload 5, 2) := by decide +kernel
theorem dX4_take_76 : decode cX4_take 76 = .ok (.bipush 8, 2) := by decide +kernel
theorem dX4_take_78 : decode cX4_take 78 = .ok (.if_icmp .ge 34, 3) := by decide +kernel
theorem dX4_take_81 : decode cX4_take 81 = .ok (.aload_n 0, 1) := by decide +kernel
theorem dX4_take_82 : decode cX4_take 82 = .ok (.getfield 87, 3) := by decide +kernel
theorem dX4_take_85 : decode cX4_take 85 = .ok (.bipush 8, 2) := by decide +kernel
theorem dX4_take_87 : decode cX4_take 87 = .ok (.iload_n 1, 1) := by decide +kernel
theorem dX4_take_88 : decode cX4_take 88 = .ok (.imul, 1) := by decide +kernel
theorem dX4_take_89 : decode cX4_take 89 = .ok (.iload 5, 2) := by decide +kernel
theorem dX4_take_91 : decode cX4_take 91 = .ok (.iadd, 1) := by decide +kernel
theorem dX4_take_92 : decode cX4_take 92 = .ok (.aload_n 0, 1) := by decide +kernel
theorem dX4_take_93 : decode cX4_take 93 = .ok (.getfield 36, 3) := by decide +kernel
theorem dX4_take_96 : decode cX4_take 96 = .ok (.bipush 8, 2) := by decide +kernel
theorem dX4_take_98 : decode cX4_take 98 = .ok (.iload 4, 2) := by decide +kernel
theorem dX4_take_100 : decode cX4_take 100 = .ok (.imul, 1) := by decide +kernel
theorem dX4_take_101 : decode cX4_take 101 = .ok (.iload 5, 2) := by decide +kernel
theorem dX4_take_103 : decode cX4_take 103 = .ok (.iadd, 1) := by decide +kernel
theorem dX4_take_104 : decode cX4_take 104 = .ok (.laload, 1) := by decide +kernel
theorem dX4_take_105 : decode cX4_take 105 = .ok (.lastore, 1) := by decide +kernel
theorem dX4_take_106 : decode cX4_take 106 = .ok (.iinc 5 1, 3) := by decide +kernel
theorem dX4_take_109 : decode cX4_take 109 = .ok (.goto (-35), 3) := by decide +kernel
theorem dX4_take_112 : decode cX4_take 112 = .ok (.return_, 1) := by decide +kernel
theorem dX4_takeEntry_0 : decode cX4_takeEntry 0 = .ok (.bipush 32, 2) := by decide +kernel
theorem dX4_takeEntry_2 : decode cX4_takeEntry 2 = .ok (.iload_n 1, 1) := by decide +kernel
theorem dX4_takeEntry_3 : decode cX4_takeEntry 3 = .ok (.imul, 1) := by decide +kernel
theorem dX4_takeEntry_4 : decode cX4_takeEntry 4 = .ok (.istore_n 2, 1) := by decide +kernel
theorem dX4_takeEntry_5 : decode cX4_takeEntry 5 = .ok (.aload_n 0, 1) := by decide +kernel
theorem dX4_takeEntry_6 : decode cX4_takeEntry 6 = .ok (.getfield 69, 3) := by decide +kernel
theorem dX4_takeEntry_9 : decode cX4_takeEntry 9 = .ok (.iload_n 1, 1) := by decide +kernel
theorem dX4_takeEntry_10 : decode cX4_takeEntry 10 = .ok (.dup2, 1) := by decide +kernel
theorem dX4_takeEntry_11 : decode cX4_takeEntry 11 = .ok (.iaload, 1) := by decide +kernel
theorem dX4_takeEntry_12 : decode cX4_takeEntry 12 = .ok (.iconst 1, 1) := by decide +kernel
theorem dX4_takeEntry_13 : decode cX4_takeEntry 13 = .ok (.iadd, 1) := by decide +kernel
theorem dX4_takeEntry_14 : decode cX4_takeEntry 14 = .ok (.iastore, 1) := by decide +kernel
theorem dX4_takeEntry_15 : decode cX4_takeEntry 15 = .ok (.aload_n 0, 1) := by decide +kernel
theorem dX4_takeEntry_16 : decode cX4_takeEntry 16 = .ok (.getfield 72, 3) := by decide +kernel
theorem dX4_takeEntry_19 : decode cX4_takeEntry 19 = .ok (.iload_n 1, 1) := by decide +kernel
theorem dX4_takeEntry_20 : decode cX4_takeEntry 20 = .ok (.aload_n 0, 1) := by decide +kernel
theorem dX4_takeEntry_21 : decode cX4_takeEntry 21 = .ok (.getfield 42, 3) := by decide +kernel
theorem dX4_takeEntry_24 : decode cX4_takeEntry 24 = .ok (.iconst 4, 1) := by decide +kernel
theorem dX4_takeEntry_25 : decode cX4_takeEntry 25 = .ok (.iload_n 1, 1) := by decide +kernel
theorem dX4_takeEntry_26 : decode cX4_takeEntry 26 = .ok (.imul, 1) := by decide +kernel
theorem dX4_takeEntry_27 : decode cX4_takeEntry 27 = .ok (.iaload, 1) := by decide +kernel
theorem dX4_takeEntry_28 : decode cX4_takeEntry 28 = .ok (.iastore, 1) := by decide +kernel
theorem dX4_takeEntry_29 : decode cX4_takeEntry 29 = .ok (.aload_n 0, 1) := by decide +kernel
theorem dX4_takeEntry_30 : decode cX4_takeEntry 30 = .ok (.getfield 75, 3) := by decide +kernel
theorem dX4_takeEntry_33 : decode cX4_takeEntry 33 = .ok (.iload_n 1, 1) := by decide +kernel
theorem dX4_takeEntry_34 : decode cX4_takeEntry 34 = .ok (.aload_n 0, 1) := by decide +kernel
theorem dX4_takeEntry_35 : decode cX4_takeEntry 35 = .ok (.getfield 93, 3) := by decide +kernel
theorem dX4_takeEntry_38 : decode cX4_takeEntry 38 = .ok (.iload_n 2, 1) := by decide +kernel
theorem dX4_takeEntry_39 : decode cX4_takeEntry 39 = .ok (.iaload, 1) := by decide +kernel
theorem dX4_takeEntry_40 : decode cX4_takeEntry 40 = .ok (.iastore, 1) := by decide +kernel
theorem dX4_takeEntry_41 : decode cX4_takeEntry 41 = .ok (.aload_n 0, 1) := by decide +kernel
theorem dX4_takeEntry_42 : decode cX4_takeEntry 42 = .ok (.getfield 78, 3) := by decide +kernel
theorem dX4_takeEntry_45 : decode cX4_takeEntry 45 = .ok (.iload_n 1, 1) := by decide +kernel
theorem dX4_takeEntry_46 : decode cX4_takeEntry 46 = .ok (.aload_n 0, 1) := by decide +kernel
theorem dX4_takeEntry_47 : decode cX4_takeEntry 47 = .ok (.getfield 96, 3) := by decide +kernel
theorem dX4_takeEntry_50 : decode cX4_takeEntry 50 = .ok (.iload_n 2, 1) := by decide +kernel
theorem dX4_takeEntry_51 : decode cX4_takeEntry 51 = .ok (.laload, 1) := by decide +kernel
theorem dX4_takeEntry_52 : decode cX4_takeEntry 52 = .ok (.lastore, 1) := by decide +kernel
theorem dX4_takeEntry_53 : decode cX4_takeEntry 53 = .ok (.aload_n 0, 1) := by decide +kernel
theorem dX4_takeEntry_54 : decode cX4_takeEntry 54 = .ok (.getfield 81, 3) := by decide +kernel
theorem dX4_takeEntry_57 : decode cX4_takeEntry 57 = .ok (.iload_n 1, 1) := by decide +kernel
theorem dX4_takeEntry_58 : decode cX4_takeEntry 58 = .ok (.aload_n 0, 1) := by decide +kernel
theorem dX4_takeEntry_59 : decode cX4_takeEntry 59 = .ok (.getfield 99, 3) := by decide +kernel
theorem dX4_takeEntry_62 : decode cX4_takeEntry 62 = .ok (.iload_n 2, 1) := by decide +kernel
theorem dX4_takeEntry_63 : decode cX4_takeEntry 63 = .ok (.iaload, 1) := by decide +kernel
theorem dX4_takeEntry_64 : decode cX4_takeEntry 64 = .ok (.iastore, 1) := by decide +kernel
theorem dX4_takeEntry_65 : decode cX4_takeEntry 65 = .ok (.aload_n 0, 1) := by decide +kernel
theorem dX4_takeEntry_66 : decode cX4_takeEntry 66 = .ok (.getfield 84, 3) := by decide +kernel
theorem dX4_takeEntry_69 : decode cX4_takeEntry 69 = .ok (.iload_n 1, 1) := by decide +kernel
theorem dX4_takeEntry_70 : decode cX4_takeEntry 70 = .ok (.aload_n 0, 1) := by decide +kernel
theorem dX4_takeEntry_71 : decode cX4_takeEntry 71 = .ok (.getfield 102, 3) := by decide +kernel
theorem dX4_takeEntry_74 : decode cX4_takeEntry 74 = .ok (.iload_n 2, 1) := by decide +kernel
theorem dX4_takeEntry_75 : decode cX4_takeEntry 75 = .ok (.iaload, 1) := by decide +kernel
theorem dX4_takeEntry_76 : decode cX4_takeEntry 76 = .ok (.iastore, 1) := by decide +kernel
theorem dX4_takeEntry_77 : decode cX4_takeEntry 77 = .ok (.iconst 0, 1) := by decide +kernel
theorem dX4_takeEntry_78 : decode cX4_takeEntry 78 = .ok (.istore_n 3, 1) := by decide +kernel
theorem dX4_takeEntry_79 : decode cX4_takeEntry 79 = .ok (.iload_n 3, 1) := by decide +kernel
theorem dX4_takeEntry_80 : decode cX4_takeEntry 80 = .ok (.bipush 8, 2) := by decide +kernel
theorem dX4_takeEntry_82 : decode cX4_takeEntry 82 = .ok (.if_icmp .ge 31, 3) := by decide +kernel
theorem dX4_takeEntry_85 : decode cX4_takeEntry 85 = .ok (.aload_n 0, 1) := by decide +kernel
theorem dX4_takeEntry_86 : decode cX4_takeEntry 86 = .ok (.getfield 87, 3) := by decide +kernel
theorem dX4_takeEntry_89 : decode cX4_takeEntry 89 = .ok (.bipush 8, 2) := by decide +kernel
theorem dX4_takeEntry_91 : decode cX4_takeEntry 91 = .ok (.iload_n 1, 1) := by decide +kernel
theorem dX4_takeEntry_92 : decode cX4_takeEntry 92 = .ok (.imul, 1) := by decide +kernel
theorem dX4_takeEntry_93 : decode cX4_takeEntry 93 = .ok (.iload_n 3, 1) := by decide +kernel
theorem dX4_takeEntry_94 : decode cX4_takeEntry 94 = .ok (.iadd, 1) := by decide +kernel
theorem dX4_takeEntry_95 : decode cX4_takeEntry 95 = .ok (.aload_n 0, 1) := by decide +kernel
theorem dX4_takeEntry_96 : decode cX4_takeEntry 96 = .ok (.getfield 105, 3) := by decide +kernel
theorem dX4_takeEntry_99 : decode cX4_takeEntry 99 = .ok (.bipush 8, 2) := by decide +kernel
theorem dX4_takeEntry_101 : decode cX4_takeEntry 101 = .ok (.iload_n 2, 1) := by decide +kernel
theorem dX4_takeEntry_102 : decode cX4_takeEntry 102 = .ok (.imul, 1) := by decide +kernel
theorem dX4_takeEntry_103 : decode cX4_takeEntry 103 = .ok (.iload_n 3, 1) := by decide +kernel
theorem dX4_takeEntry_104 : decode cX4_takeEntry 104 = .ok (.iadd, 1) := by decide +kernel
theorem dX4_takeEntry_105 : decode cX4_takeEntry 105 = .ok (.laload, 1) := by decide +kernel
theorem dX4_takeEntry_106 : decode cX4_takeEntry 106 = .ok (.lastore, 1) := by decide +kernel
theorem dX4_takeEntry_107 : decode cX4_takeEntry 107 = .ok (.iinc 3 1, 3) := by decide +kernel
theorem dX4_takeEntry_110 : decode cX4_takeEntry 110 = .ok (.goto (-31), 3) := by decide +kernel
theorem dX4_takeEntry_113 : decode cX4_takeEntry 113 = .ok (.aload_n 0, 1) := by decide +kernel
theorem dX4_takeEntry_114 : decode cX4_takeEntry 114 = .ok (.getfield 90, 3) := by decide +kernel
theorem dX4_takeEntry_117 : decode cX4_takeEntry 117 = .ok (.iload_n 1, 1) := by decide +kernel
theorem dX4_takeEntry_118 : decode cX4_takeEntry 118 = .ok (.dup2, 1) := by decide +kernel
theorem dX4_takeEntry_119 : decode cX4_takeEntry 119 = .ok (.iaload, 1) := by decide +kernel
theorem dX4_takeEntry_120 : decode cX4_takeEntry 120 = .ok (.iconst 1, 1) := by decide +kernel
theorem dX4_takeEntry_121 : decode cX4_takeEntry 121 = .ok (.isub, 1) := by decide +kernel
theorem dX4_takeEntry_122 : decode cX4_takeEntry 122 = .ok (.iastore, 1) := by decide +kernel
theorem dX4_takeEntry_123 : decode cX4_takeEntry 123 = .ok (.iload_n 2, 1) := by decide +kernel
theorem dX4_takeEntry_124 : decode cX4_takeEntry 124 = .ok (.istore_n 3, 1) := by decide +kernel
theorem dX4_takeEntry_125 : decode cX4_takeEntry 125 = .ok (.iload_n 3, 1) := by decide +kernel
theorem dX4_takeEntry_126 : decode cX4_takeEntry 126 = .ok (.iload_n 2, 1) := by decide +kernel
theorem dX4_takeEntry_127 : decode cX4_takeEntry 127 = .ok (.aload_n 0, 1) := by decide +kernel
theorem dX4_takeEntry_128 : decode cX4_takeEntry 128 = .ok (.getfield 90, 3) := by decide +kernel
theorem dX4_takeEntry_131 : decode cX4_takeEntry 131 = .ok (.iload_n 1, 1) := by decide +kernel
theorem dX4_takeEntry_132 : decode cX4_takeEntry 132 = .ok (.iaload, 1) := by decide +kernel
theorem dX4_takeEntry_133 : decode cX4_takeEntry 133 = .ok (.iadd, 1) := by decide +kernel
theorem dX4_takeEntry_134 : decode cX4_takeEntry 134 = .ok (.if_icmp .ge 108, 3) := by decide +kernel
theorem dX4_takeEntry_137 : decode cX4_takeEntry 137 = .ok (.aload_n 0, 1) := by decide +kernel
theorem dX4_takeEntry_138 : decode cX4_takeEntry 138 = .ok (.getfield 93, 3) := by decide +kernel
theorem dX4_takeEntry_141 : decode cX4_takeEntry 141 = .ok (.iload_n 3, 1) := by decide +kernel
theorem dX4_takeEntry_142 : decode cX4_takeEntry 142 = .ok (.aload_n 0, 1) := by decide +kernel
theorem dX4_takeEntry_143 : decode cX4_takeEntry 143 = .ok (.getfield 93, 3) := by decide +kernel
theorem dX4_takeEntry_146 : decode cX4_takeEntry 146 = .ok (.iload_n 3, 1) := by decide +kernel
theorem dX4_takeEntry_147 : decode cX4_takeEntry 147 = .ok (.iconst 1, 1) := by decide +kernel
theorem dX4_takeEntry_148 : decode cX4_takeEntry 148 = .ok (.iadd, 1) := by decide +kernel
theorem dX4_takeEntry_149 : decode cX4_takeEntry 149 = .ok (.iaload, 1) := by decide +kernel
theorem dX4_takeEntry_150 : decode cX4_takeEntry 150 = .ok (.iastore, 1) := by decide +kernel
theorem dX4_takeEntry_151 : decode cX4_takeEntry 151 = .ok (.aload_n 0, 1) := by decide +kernel
theorem dX4_takeEntry_152 : decode cX4_takeEntry 152 = .ok (.getfield 96, 3) := by decide +kernel
theorem dX4_takeEntry_155 : decode cX4_takeEntry 155 = .ok (.iload_n 3, 1) := by decide +kernel
theorem dX4_takeEntry_156 : decode cX4_takeEntry 156 = .ok (.aload_n 0, 1) := by decide +kernel
theorem dX4_takeEntry_157 : decode cX4_takeEntry 157 = .ok (.getfield 96, 3) := by decide +kernel
theorem dX4_takeEntry_160 : decode cX4_takeEntry 160 = .ok (.iload_n 3, 1) := by decide +kernel
theorem dX4_takeEntry_161 : decode cX4_takeEntry 161 = .ok (.iconst 1, 1) := by decide +kernel
theorem dX4_takeEntry_162 : decode cX4_takeEntry 162 = .ok (.iadd, 1) := by decide +kernel
theorem dX4_takeEntry_163 : decode cX4_takeEntry 163 = .ok (.laload, 1) := by decide +kernel
theorem dX4_takeEntry_164 : decode cX4_takeEntry 164 = .ok (.lastore, 1) := by decide +kernel
theorem dX4_takeEntry_165 : decode cX4_takeEntry 165 = .ok (.aload_n 0, 1) := by decide +kernel
theorem dX4_takeEntry_166 : decode cX4_takeEntry 166 = .ok (.getfield 99, 3) := by decide +kernel
theorem dX4_takeEntry_169 : decode cX4_takeEntry 169 = .ok (.iload_n 3, 1) := by decide +kernel
theorem dX4_takeEntry_170 : decode cX4_takeEntry 170 = .ok (.aload_n 0, 1) := by decide +kernel
theorem dX4_takeEntry_171 : decode cX4_takeEntry 171 = .ok (.getfield 99, 3) := by decide +kernel
theorem dX4_takeEntry_174 : decode cX4_takeEntry 174 = .ok (.iload_n 3, 1) := by decide +kernel
theorem dX4_takeEntry_175 : decode cX4_takeEntry 175 = .ok (.iconst 1, 1) := by decide +kernel
theorem dX4_takeEntry_176 : decode cX4_takeEntry 176 = .ok (.iadd, 1) := by decide +kernel
theorem dX4_takeEntry_177 : decode cX4_takeEntry 177 = .ok (.iaload, 1) := by decide +kernel
theorem dX4_takeEntry_178 : decode cX4_takeEntry 178 = .ok (.iastore, 1) := by decide +kernel
theorem dX4_takeEntry_179 : decode cX4_takeEntry 179 = .ok (.aload_n 0, 1) := by decide +kernel
theorem dX4_takeEntry_180 : decode cX4_takeEntry 180 = .ok (.getfield 102, 3) := by decide +kernel
theorem dX4_takeEntry_183 : decode cX4_takeEntry 183 = .ok (.iload_n 3, 1) := by decide +kernel
theorem dX4_takeEntry_184 : decode cX4_takeEntry 184 = .ok (.aload_n 0, 1) := by decide +kernel
theorem dX4_takeEntry_185 : decode cX4_takeEntry 185 = .ok (.getfield 102, 3) := by decide +kernel
theorem dX4_takeEntry_188 : decode cX4_takeEntry 188 = .ok (.iload_n 3, 1) := by decide +kernel
theorem dX4_takeEntry_189 : decode cX4_takeEntry 189 = .ok (.iconst 1, 1) := by decide +kernel
theorem dX4_takeEntry_190 : decode cX4_takeEntry 190 = .ok (.iadd, 1) := by decide +kernel
theorem dX4_takeEntry_191 : decode cX4_takeEntry 191 = .ok (.iaload, 1) := by decide +kernel
theorem dX4_takeEntry_192 : decode cX4_takeEntry 192 = .ok (.iastore, 1) := by decide +kernel
theorem dX4_takeEntry_193 : decode cX4_takeEntry 193 = .ok (.iconst 0, 1) := by decide +kernel
theorem dX4_takeEntry_194 : decode cX4_takeEntry 194 = .ok (.istore 4, 2) := by decide +kernel
theorem dX4_takeEntry_196 : decode cX4_takeEntry 196 = .ok (.iload 4, 2) := by decide +kernel
theorem dX4_takeEntry_198 : decode cX4_takeEntry 198 = .ok (.bipush 8, 2) := by decide +kernel
theorem dX4_takeEntry_200 : decode cX4_takeEntry 200 = .ok (.if_icmp .ge 36, 3) := by decide +kernel
theorem dX4_takeEntry_203 : decode cX4_takeEntry 203 = .ok (.aload_n 0, 1) := by decide +kernel
theorem dX4_takeEntry_204 : decode cX4_takeEntry 204 = .ok (.getfield 105, 3) := by decide +kernel
theorem dX4_takeEntry_207 : decode cX4_takeEntry 207 = .ok (.bipush 8, 2) := by decide +kernel
theorem dX4_takeEntry_209 : decode cX4_takeEntry 209 = .ok (.iload_n 3, 1) := by decide +kernel
theorem dX4_takeEntry_210 : decode cX4_takeEntry 210 = .ok (.imul, 1) := by decide +kernel
theorem dX4_takeEntry_211 : decode cX4_takeEntry 211 = .ok (.iload 4, 2) := by decide +kernel
theorem dX4_takeEntry_213 : decode cX4_takeEntry 213 = .ok (.iadd, 1) := by decide +kernel
theorem dX4_takeEntry_214 : decode cX4_takeEntry 214 = .ok (.aload_n 0, 1) := by decide +kernel
theorem dX4_takeEntry_215 : decode cX4_takeEntry 215 = .ok (.getfield 105, 3) := by decide +kernel
theorem dX4_takeEntry_218 : decode cX4_takeEntry 218 = .ok (.bipush 8, 2) := by decide +kernel
theorem dX4_takeEntry_220 : decode cX4_takeEntry 220 = .ok (.iload_n 3, 1) := by decide +kernel
theorem dX4_takeEntry_221 : decode cX4_takeEntry 221 = .ok (.imul, 1) := by decide +kernel
theorem dX4_takeEntry_222 : decode cX4_takeEntry 222 = .ok (.bipush 8, 2) := by decide +kernel
theorem dX4_takeEntry_224 : decode cX4_takeEntry 224 = .ok (.iadd, 1) := by decide +kernel
theorem dX4_takeEntry_225 : decode cX4_takeEntry 225 = .ok (.iload 4, 2) := by decide +kernel
theorem dX4_takeEntry_227 : decode cX4_takeEntry 227 = .ok (.iadd, 1) := by decide +kernel
theorem dX4_takeEntry_228 : decode cX4_takeEntry 228 = .ok (.laload, 1) := by decide +kernel
theorem dX4_takeEntry_229 : decode cX4_takeEntry 229 = .ok (.lastore, 1) := by decide +kernel
theorem dX4_takeEntry_230 : decode cX4_takeEntry 230 = .ok (.iinc 4 1, 3) := by decide +kernel
theorem dX4_takeEntry_233 : decode cX4_takeEntry 233 = .ok (.goto (-37), 3) := by decide +kernel
theorem dX4_takeEntry_236 : decode cX4_takeEntry 236 = .ok (.iinc 3 1, 3) := by decide +kernel
theorem dX4_takeEntry_239 : decode cX4_takeEntry 239 = .ok (.goto (-114), 3) := by decide +kernel
theorem dX4_takeEntry_242 : decode cX4_takeEntry 242 = .ok (.return_, 1) := by decide +kernel
theorem dX4_echo_0 : decode cX4_echo 0 = .ok (.aload_n 0, 1) := by decide +kernel
theorem dX4_echo_1 : decode cX4_echo 1 = .ok (.getfield 57, 3) := by decide +kernel
theorem dX4_echo_4 : decode cX4_echo 4 = .ok (.iload_n 1, 1) := by decide +kernel
theorem dX4_echo_5 : decode cX4_echo 5 = .ok (.iaload, 1) := by decide +kernel
theorem dX4_echo_6 : decode cX4_echo 6 = .ok (.istore_n 2, 1) := by decide +kernel
theorem dX4_echo_7 : decode cX4_echo 7 = .ok (.aload_n 0, 1) := by decide +kernel
theorem dX4_echo_8 : decode cX4_echo 8 = .ok (.getfield 78, 3) := by decide +kernel
theorem dX4_echo_11 : decode cX4_echo 11 = .ok (.iload_n 1, 1) := by decide +kernel
theorem dX4_echo_12 : decode cX4_echo 12 = .ok (.laload, 1) := by decide +kernel
theorem dX4_echo_13 : decode cX4_echo 13 = .ok (.lstore_n 3, 1) := by decide +kernel
theorem dX4_echo_14 : decode cX4_echo 14 = .ok (.aload_n 0, 1) := by decide +kernel
theorem dX4_echo_15 : decode cX4_echo 15 = .ok (.iload_n 2, 1) := by decide +kernel
theorem dX4_echo_16 : decode cX4_echo 16 = .ok (.aload_n 0, 1) := by decide +kernel
theorem dX4_echo_17 : decode cX4_echo 17 = .ok (.getfield 13, 3) := by decide +kernel
theorem dX4_echo_20 : decode cX4_echo 20 = .ok (.iload_n 2, 1) := by decide +kernel
theorem dX4_echo_21 : decode cX4_echo 21 = .ok (.iaload, 1) := by decide +kernel
theorem dX4_echo_22 : decode cX4_echo 22 = .ok (.ifCond .le 23, 3) := by decide +kernel
theorem dX4_echo_25 : decode cX4_echo 25 = .ok (.lload_n 3, 1) := by decide +kernel
theorem dX4_echo_26 : decode cX4_echo 26 = .ok (.aload_n 0, 1) := by decide +kernel
theorem dX4_echo_27 : decode cX4_echo 27 = .ok (.getfield 19, 3) := by decide +kernel
theorem dX4_echo_30 : decode cX4_echo 30 = .ok (.iload_n 2, 1) := by decide +kernel
theorem dX4_echo_31 : decode cX4_echo 31 = .ok (.laload, 1) := by decide +kernel
theorem dX4_echo_32 : decode cX4_echo 32 = .ok (.lcmp, 1) := by decide +kernel
theorem dX4_echo_33 : decode cX4_echo 33 = .ok (.ifCond .ge 12, 3) := by decide +kernel
theorem dX4_echo_36 : decode cX4_echo 36 = .ok (.aload_n 0, 1) := by decide +kernel
theorem dX4_echo_37 : decode cX4_echo 37 = .ok (.getfield 19, 3) := by decide +kernel
theorem dX4_echo_40 : decode cX4_echo 40 = .ok (.iload_n 2, 1) := by decide +kernel
theorem dX4_echo_41 : decode cX4_echo 41 = .ok (.laload, 1) := by decide +kernel
theorem dX4_echo_42 : decode cX4_echo 42 = .ok (.goto 4, 3) := by decide +kernel
theorem dX4_echo_45 : decode cX4_echo 45 = .ok (.lload_n 3, 1) := by decide +kernel
theorem dX4_echo_46 : decode cX4_echo 46 = .ok (.invokevirtual 196, 3) := by decide +kernel
theorem dX4_echo_49 : decode cX4_echo 49 = .ok (.aload_n 0, 1) := by decide +kernel
theorem dX4_echo_50 : decode cX4_echo 50 = .ok (.getfield 13, 3) := by decide +kernel
theorem dX4_echo_53 : decode cX4_echo 53 = .ok (.iload_n 2, 1) := by decide +kernel
theorem dX4_echo_54 : decode cX4_echo 54 = .ok (.iaload, 1) := by decide +kernel
theorem dX4_echo_55 : decode cX4_echo 55 = .ok (.iconst 1, 1) := by decide +kernel
theorem dX4_echo_56 : decode cX4_echo 56 = .ok (.isub, 1) := by decide +kernel
theorem dX4_echo_57 : decode cX4_echo 57 = .ok (.istore 5, 2) := by decide +kernel
theorem dX4_echo_59 : decode cX4_echo 59 = .ok (.aload_n 0, 1) := by decide +kernel
theorem dX4_echo_60 : decode cX4_echo 60 = .ok (.iload_n 2, 1) := by decide +kernel
theorem dX4_echo_61 : decode cX4_echo 61 = .ok (.iload 5, 2) := by decide +kernel
theorem dX4_echo_63 : decode cX4_echo 63 = .ok (.invokevirtual 171, 3) := by decide +kernel
theorem dX4_echo_66 : decode cX4_echo 66 = .ok (.istore 6, 2) := by decide +kernel
theorem dX4_echo_68 : decode cX4_echo 68 = .ok (.aload_n 0, 1) := by decide +kernel
theorem dX4_echo_69 : decode cX4_echo 69 = .ok (.getfield 23, 3) := by decide +kernel
theorem dX4_echo_72 : decode cX4_echo 72 = .ok (.iload 6, 2) := by decide +kernel
theorem dX4_echo_74 : decode cX4_echo 74 = .ok (.iconst 0, 1) := by decide +kernel
theorem dX4_echo_75 : decode cX4_echo 75 = .ok (.bastore, 1) := by decide +kernel
theorem dX4_echo_76 : decode cX4_echo 76 = .ok (.aload_n 0, 1) := by decide +kernel
theorem dX4_echo_77 : decode cX4_echo 77 = .ok (.getfield 30, 3) := by decide +kernel
theorem dX4_echo_80 : decode cX4_echo 80 = .ok (.iload 6, 2) := by decide +kernel
theorem dX4_echo_82 : decode cX4_echo 82 = .ok (.aload_n 0, 1) := by decide +kernel
theorem dX4_echo_83 : decode cX4_echo 83 = .ok (.getfield 81, 3) := by decide +kernel
theorem dX4_echo_86 : decode cX4_echo 86 = .ok (.iload_n 1, 1) := by decide +kernel
theorem dX4_echo_87 : decode cX4_echo 87 = .ok (.iaload, 1) := by decide +kernel
theorem dX4_echo_88 : decode cX4_echo 88 = .ok (.iastore, 1) := by decide +kernel
theorem dX4_echo_89 : decode cX4_echo 89 = .ok (.aload_n 0, 1) := by decide +kernel
theorem dX4_echo_90 : decode cX4_echo 90 = .ok (.getfield 33, 3) := by decide +kernel
theorem dX4_echo_93 : decode cX4_echo 93 = .ok (.iload 6, 2) := by decide +kernel
theorem dX4_echo_95 : decode cX4_echo 95 = .ok (.aload_n 0, 1) := by decide +kernel
theorem dX4_echo_96 : decode cX4_echo 96 = .ok (.getfield 84, 3) := by decide +kernel
theorem dX4_echo_99 : decode cX4_echo 99 = .ok (.iload_n 1, 1) := by decide +kernel
theorem dX4_echo_100 : decode cX4_echo 100 = .ok (.iaload, 1) := by decide +kernel
theorem dX4_echo_101 : decode cX4_echo 101 = .ok (.iastore, 1) := by decide +kernel
theorem dX4_echo_102 : decode cX4_echo 102 = .ok (.iconst 0, 1) := by decide +kernel
theorem dX4_echo_103 : decode cX4_echo 103 = .ok (.istore 7, 2) := by decide +kernel
theorem dX4_echo_105 : decode cX4_echo 105 = .ok (.iload 7, 2) := by decide +kernel
theorem dX4_echo_107 : decode cX4_echo 107 = .ok (.bipush 8, 2) := by decide +kernel
theorem dX4_echo_109 : decode cX4_echo 109 = .ok (.if_icmp .ge 34, 3) := by decide +kernel
theorem dX4_echo_112 : decode cX4_echo 112 = .ok (.aload_n 0, 1) := by decide +kernel
theorem dX4_echo_113 : decode cX4_echo 113 = .ok (.getfield 36, 3) := by decide +kernel
theorem dX4_echo_116 : decode cX4_echo 116 = .ok (.bipush 8, 2) := by decide +kernel
theorem dX4_echo_118 : decode cX4_echo 118 = .ok (.iload 6, 2) := by decide +kernel
theorem dX4_echo_120 : decode cX4_echo 120 = .ok (.imul, 1) := by decide +kernel
theorem dX4_echo_121 : decode cX4_echo 121 = .ok (.iload 7, 2) := by decide +kernel
theorem dX4_echo_123 : decode cX4_echo 123 = .ok (.iadd, 1) := by decide +kernel
theorem dX4_echo_124 : decode cX4_echo 124 = .ok (.aload_n 0, 1) := by decide +kernel
theorem dX4_echo_125 : decode cX4_echo 125 = .ok (.getfield 87, 3) := by decide +kernel
theorem dX4_echo_128 : decode cX4_echo 128 = .ok (.bipush 8, 2) := by decide +kernel
theorem dX4_echo_130 : decode cX4_echo 130 = .ok (.iload_n 1, 1) := by decide +kernel
theorem dX4_echo_131 : decode cX4_echo 131 = .ok (.imul, 1) := by decide +kernel
theorem dX4_echo_132 : decode cX4_echo 132 = .ok (.iload 7, 2) := by decide +kernel
theorem dX4_echo_134 : decode cX4_echo 134 = .ok (.iadd, 1) := by decide +kernel
theorem dX4_echo_135 : decode cX4_echo 135 = .ok (.laload, 1) := by decide +kernel
theorem dX4_echo_136 : decode cX4_echo 136 = .ok (.lastore, 1) := by decide +kernel
theorem dX4_echo_137 : decode cX4_echo 137 = .ok (.iinc 7 1, 3) := by decide +kernel
theorem dX4_echo_140 : decode cX4_echo 140 = .ok (.goto (-35), 3) := by decide +kernel
theorem dX4_echo_143 : decode cX4_echo 143 = .ok (.aload_n 0, 1) := by decide +kernel
theorem dX4_echo_144 : decode cX4_echo 144 = .ok (.iload_n 2, 1) := by decide +kernel
theorem dX4_echo_145 : decode cX4_echo 145 = .ok (.iload 5, 2) := by decide +kernel
theorem dX4_echo_147 : decode cX4_echo 147 = .ok (.invokevirtual 207, 3) := by decide +kernel
theorem dX4_echo_150 : decode cX4_echo 150 = .ok (.return_, 1) := by decide +kernel
theorem dX4_miss_0 : decode cX4_miss 0 = .ok (.aload_n 0, 1) := by decide +kernel
theorem dX4_miss_1 : decode cX4_miss 1 = .ok (.getfield 45, 3) := by decide +kernel
theorem dX4_miss_4 : decode cX4_miss 4 = .ok (.iconst 4, 1) := by decide +kernel
theorem dX4_miss_5 : decode cX4_miss 5 = .ok (.iload_n 1, 1) := by decide +kernel
theorem dX4_miss_6 : decode cX4_miss 6 = .ok (.imul, 1) := by decide +kernel
theorem dX4_miss_7 : decode cX4_miss 7 = .ok (.iaload, 1) := by decide +kernel
theorem dX4_miss_8 : decode cX4_miss 8 = .ok (.istore_n 3, 1) := by decide +kernel
theorem dX4_miss_9 : decode cX4_miss 9 = .ok (.iload_n 2, 1) := by decide +kernel
theorem dX4_miss_10 : decode cX4_miss 10 = .ok (.iload_n 3, 1) := by decide +kernel
theorem dX4_miss_11 : decode cX4_miss 11 = .ok (.if_icmp .le 40, 3) := by decide +kernel
theorem dX4_miss_14 : decode cX4_miss 14 = .ok (.aload_n 0, 1) := by decide +kernel
theorem dX4_miss_15 : decode cX4_miss 15 = .ok (.getfield 60, 3) := by decide +kernel
theorem dX4_miss_18 : decode cX4_miss 18 = .ok (.iload_n 1, 1) := by decide +kernel
theorem dX4_miss_19 : decode cX4_miss 19 = .ok (.dup2, 1) := by decide +kernel
theorem dX4_miss_20 : decode cX4_miss 20 = .ok (.iaload, 1) := by decide +kernel
theorem dX4_miss_21 : decode cX4_miss 21 = .ok (.iload_n 2, 1) := by decide +kernel
theorem dX4_miss_22 : decode cX4_miss 22 = .ok (.iload_n 3, 1) := by decide +kernel
theorem dX4_miss_23 : decode cX4_miss 23 = .ok (.isub, 1) := by decide +kernel
theorem dX4_miss_24 : decode cX4_miss 24 = .ok (.iadd, 1) := by decide +kernel
theorem dX4_miss_25 : decode cX4_miss 25 = .ok (.iastore, 1) := by decide +kernel
theorem dX4_miss_26 : decode cX4_miss 26 = .ok (.aload_n 0, 1) := by decide +kernel
theorem dX4_miss_27 : decode cX4_miss 27 = .ok (.getfield 63, 3) := by decide +kernel
theorem dX4_miss_30 : decode cX4_miss 30 = .ok (.iload_n 1, 1) := by decide +kernel
theorem dX4_miss_31 : decode cX4_miss 31 = .ok (.iload_n 3, 1) := by decide +kernel
theorem dX4_miss_32 : decode cX4_miss 32 = .ok (.iastore, 1) := by decide +kernel
theorem dX4_miss_33 : decode cX4_miss 33 = .ok (.aload_n 0, 1) := by decide +kernel
theorem dX4_miss_34 : decode cX4_miss 34 = .ok (.getfield 66, 3) := by decide +kernel
theorem dX4_miss_37 : decode cX4_miss 37 = .ok (.iload_n 1, 1) := by decide +kernel
theorem dX4_miss_38 : decode cX4_miss 38 = .ok (.iload_n 2, 1) := by decide +kernel
theorem dX4_miss_39 : decode cX4_miss 39 = .ok (.iconst 1, 1) := by decide +kernel
theorem dX4_miss_40 : decode cX4_miss 40 = .ok (.isub, 1) := by decide +kernel
theorem dX4_miss_41 : decode cX4_miss 41 = .ok (.iastore, 1) := by decide +kernel
theorem dX4_miss_42 : decode cX4_miss 42 = .ok (.aload_n 0, 1) := by decide +kernel
theorem dX4_miss_43 : decode cX4_miss 43 = .ok (.getfield 45, 3) := by decide +kernel
theorem dX4_miss_46 : decode cX4_miss 46 = .ok (.iconst 4, 1) := by decide +kernel
theorem dX4_miss_47 : decode cX4_miss 47 = .ok (.iload_n 1, 1) := by decide +kernel
theorem dX4_miss_48 : decode cX4_miss 48 = .ok (.imul, 1) := by decide +kernel
theorem dX4_miss_49 : decode cX4_miss 49 = .ok (.iload_n 2, 1) := by decide +kernel
theorem dX4_miss_50 : decode cX4_miss 50 = .ok (.iastore, 1) := by decide +kernel
theorem dX4_miss_51 : decode cX4_miss 51 = .ok (.return_, 1) := by decide +kernel
theorem dX4_takeLeast_0 : decode cX4_takeLeast 0 = .ok (.iconst (-1), 1) := by decide +kernel
theorem dX4_takeLeast_1 : decode cX4_takeLeast 1 = .ok (.istore_n 2, 1) := by decide +kernel
theorem dX4_takeLeast_2 : decode cX4_takeLeast 2 = .ok (.iconst 0, 1) := by decide +kernel
theorem dX4_takeLeast_3 : decode cX4_takeLeast 3 = .ok (.istore_n 3, 1) := by decide +kernel
theorem dX4_takeLeast_4 : decode cX4_takeLeast 4 = .ok (.iload_n 3, 1) := by decide +kernel
theorem dX4_takeLeast_5 : decode cX4_takeLeast 5 = .ok (.aload_n 0, 1) := by decide +kernel
theorem dX4_takeLeast_6 : decode cX4_takeLeast 6 = .ok (.getfield 48, 3) := by decide +kernel
theorem dX4_takeLeast_9 : decode cX4_takeLeast 9 = .ok (.iload_n 1, 1) := by decide +kernel
theorem dX4_takeLeast_10 : decode cX4_takeLeast 10 = .ok (.iaload, 1) := by decide +kernel
theorem dX4_takeLeast_11 : decode cX4_takeLeast 11 = .ok (.if_icmp .ge 137, 3) := by decide +kernel
theorem dX4_takeLeast_14 : decode cX4_takeLeast 14 = .ok (.aload_n 0, 1) := by decide +kernel
theorem dX4_takeLeast_15 : decode cX4_takeLeast 15 = .ok (.iload_n 1, 1) := by decide +kernel
theorem dX4_takeLeast_16 : decode cX4_takeLeast 16 = .ok (.iload_n 3, 1) := by decide +kernel
theorem dX4_takeLeast_17 : decode cX4_takeLeast 17 = .ok (.invokevirtual 225, 3) := by decide +kernel
theorem dX4_takeLeast_20 : decode cX4_takeLeast 20 = .ok (.ifCond .ne 122, 3) := by decide +kernel
theorem dX4_takeLeast_23 : decode cX4_takeLeast 23 = .ok (.aload_n 0, 1) := by decide +kernel
theorem dX4_takeLeast_24 : decode cX4_takeLeast 24 = .ok (.getfield 42, 3) := by decide +kernel
theorem dX4_takeLeast_27 : decode cX4_takeLeast 27 = .ok (.iconst 4, 1) := by decide +kernel
theorem dX4_takeLeast_28 : decode cX4_takeLeast 28 = .ok (.iload_n 1, 1) := by decide +kernel
theorem dX4_takeLeast_29 : decode cX4_takeLeast 29 = .ok (.imul, 1) := by decide +kernel
theorem dX4_takeLeast_30 : decode cX4_takeLeast 30 = .ok (.iload_n 3, 1) := by decide +kernel
theorem dX4_takeLeast_31 : decode cX4_takeLeast 31 = .ok (.iadd, 1) := by decide +kernel
theorem dX4_takeLeast_32 : decode cX4_takeLeast 32 = .ok (.iaload, 1) := by decide +kernel
theorem dX4_takeLeast_33 : decode cX4_takeLeast 33 = .ok (.istore 4, 2) := by decide +kernel
theorem dX4_takeLeast_35 : decode cX4_takeLeast 35 = .ok (.aload_n 0, 1) := by decide +kernel
theorem dX4_takeLeast_36 : decode cX4_takeLeast 36 = .ok (.getfield 27, 3) := by decide +kernel
theorem dX4_takeLeast_39 : decode cX4_takeLeast 39 = .ok (.aload_n 0, 1) := by decide +kernel
theorem dX4_takeLeast_40 : decode cX4_takeLeast 40 = .ok (.iload 4, 2) := by decide +kernel
theorem dX4_takeLeast_42 : decode cX4_takeLeast 42 = .ok (.aload_n 0, 1) := by decide +kernel
theorem dX4_takeLeast_43 : decode cX4_takeLeast 43 = .ok (.getfield 45, 3) := by decide +kernel
theorem dX4_takeLeast_46 : decode cX4_takeLeast 46 = .ok (.iconst 4, 1) := by decide +kernel
theorem dX4_takeLeast_47 : decode cX4_takeLeast 47 = .ok (.iload_n 1, 1) := by decide +kernel
theorem dX4_takeLeast_48 : decode cX4_takeLeast 48 = .ok (.imul, 1) := by decide +kernel
theorem dX4_takeLeast_49 : decode cX4_takeLeast 49 = .ok (.iload_n 3, 1) := by decide +kernel
theorem dX4_takeLeast_50 : decode cX4_takeLeast 50 = .ok (.iadd, 1) := by decide +kernel
theorem dX4_takeLeast_51 : decode cX4_takeLeast 51 = .ok (.iaload, 1) := by decide +kernel
theorem dX4_takeLeast_52 : decode cX4_takeLeast 52 = .ok (.invokevirtual 171, 3) := by decide +kernel
theorem dX4_takeLeast_55 : decode cX4_takeLeast 55 = .ok (.laload, 1) := by decide +kernel
theorem dX4_takeLeast_56 : decode cX4_takeLeast 56 = .ok (.lstore 5, 2) := by decide +kernel
theorem dX4_takeLeast_58 : decode cX4_takeLeast 58 = .ok (.iload_n 2, 1) := by decide +kernel
theorem dX4_takeLeast_59 : decode cX4_takeLeast 59 = .ok (.ifCond .ge 7, 3) := by decide +kernel
theorem dX4_takeLeast_62 : decode cX4_takeLeast 62 = .ok (.iconst 0, 1) := by decide +kernel
theorem dX4_takeLeast_63 : decode cX4_takeLeast 63 = .ok (.goto 13, 3) := by decide +kernel
theorem dX4_takeLeast_66 : decode cX4_takeLeast 66 = .ok (.aload_n 0, 1) := by decide +kernel
theorem dX4_takeLeast_67 : decode cX4_takeLeast 67 = .ok (.getfield 42, 3) := by decide +kernel
theorem dX4_takeLeast_70 : decode cX4_takeLeast 70 = .ok (.iconst 4, 1) := by decide +kernel
theorem dX4_takeLeast_71 : decode cX4_takeLeast 71 = .ok (.iload_n 1, 1) := by decide +kernel
theorem dX4_takeLeast_72 : decode cX4_takeLeast 72 = .ok (.imul, 1) := by decide +kernel
theorem dX4_takeLeast_73 : decode cX4_takeLeast 73 = .ok (.iload_n 2, 1) := by decide +kernel
theorem dX4_takeLeast_74 : decode cX4_takeLeast 74 = .ok (.iadd, 1) := by decide +kernel
theorem dX4_takeLeast_75 : decode cX4_takeLeast 75 = .ok (.iaload, 1) := by decide +kernel
theorem dX4_takeLeast_76 : decode cX4_takeLeast 76 = .ok (.istore 7, 2) := by decide +kernel
theorem dX4_takeLeast_78 : decode cX4_takeLeast 78 = .ok (.iload_n 2, 1) := by decide +kernel
theorem dX4_takeLeast_79 : decode cX4_takeLeast 79 = .ok (.ifCond .ge 7, 3) := by decide +kernel
theorem dX4_takeLeast_82 : decode cX4_takeLeast 82 = .ok (.lconst 0, 1) := by decide +kernel
theorem dX4_takeLeast_83 : decode cX4_takeLeast 83 = .ok (.goto 24, 3) := by decide +kernel
theorem dX4_takeLeast_86 : decode cX4_takeLeast 86 = .ok (.aload_n 0, 1) := by decide +kernel
theorem dX4_takeLeast_87 : decode cX4_takeLeast 87 = .ok (.getfield 27, 3) := by decide +kernel
theorem dX4_takeLeast_90 : decode cX4_takeLeast 90 = .ok (.aload_n 0, 1) := by decide +kernel
theorem dX4_takeLeast_91 : decode cX4_takeLeast 91 = .ok (.iload 7, 2) := by decide +kernel
theorem dX4_takeLeast_93 : decode cX4_takeLeast 93 = .ok (.aload_n 0, 1) := by decide +kernel
theorem dX4_takeLeast_94 : decode cX4_takeLeast 94 = .ok (.getfield 45, 3) := by decide +kernel
theorem dX4_takeLeast_97 : decode cX4_takeLeast 97 = .ok (.iconst 4, 1) := by decide +kernel
theorem dX4_takeLeast_98 : decode cX4_takeLeast 98 = .ok (.iload_n 1, 1) := by decide +kernel
theorem dX4_takeLeast_99 : decode cX4_takeLeast 99 = .ok (.imul, 1) := by decide +kernel
theorem dX4_takeLeast_100 : decode cX4_takeLeast 100 = .ok (.iload_n 2, 1) := by decide +kernel
theorem dX4_takeLeast_101 : decode cX4_takeLeast 101 = .ok (.iadd, 1) := by decide +kernel
theorem dX4_takeLeast_102 : decode cX4_takeLeast 102 = .ok (.iaload, 1) := by decide +kernel
theorem dX4_takeLeast_103 : decode cX4_takeLeast 103 = .ok (.invokevirtual 171, 3) := by decide +kernel
theorem dX4_takeLeast_106 : decode cX4_takeLeast 106 = .ok (.laload, 1) := by decide +kernel
theorem dX4_takeLeast_107 : decode cX4_takeLeast 107 = .ok (.lstore 8, 2) := by decide +kernel
theorem dX4_takeLeast_109 : decode cX4_takeLeast 109 = .ok (.iload_n 2, 1) := by decide +kernel
theorem dX4_takeLeast_110 : decode cX4_takeLeast 110 = .ok (.ifCond .lt 26, 3) := by decide +kernel
theorem dX4_takeLeast_113 : decode cX4_takeLeast 113 = .ok (.lload 5, 2) := by decide +kernel
theorem dX4_takeLeast_115 : decode cX4_takeLeast 115 = .ok (.lload 8, 2) := by decide +kernel
theorem dX4_takeLeast_117 : decode cX4_takeLeast 117 = .ok (.lcmp, 1) := by decide +kernel
theorem dX4_takeLeast_118 : decode cX4_takeLeast 118 = .ok (.ifCond .lt 18, 3) := by decide +kernel
theorem dX4_takeLeast_121 : decode cX4_takeLeast 121 = .ok (.lload 5, 2) := by decide +kernel
theorem dX4_takeLeast_123 : decode cX4_takeLeast 123 = .ok (.lload 8, 2) := by decide +kernel
theorem dX4_takeLeast_125 : decode cX4_takeLeast 125 = .ok (.lcmp, 1) := by decide +kernel
theorem dX4_takeLeast_126 : decode cX4_takeLeast 126 = .ok (.ifCond .ne 14, 3) := by decide +kernel
theorem dX4_takeLeast_129 : decode cX4_takeLeast 129 = .ok (.iload 4, 2) := by decide +kernel
theorem dX4_takeLeast_131 : decode cX4_takeLeast 131 = .ok (.iload 7, 2) := by decide +kernel
theorem dX4_takeLeast_133 : decode cX4_takeLeast 133 = .ok (.if_icmp .ge 7, 3) := by decide +kernel
theorem dX4_takeLeast_136 : decode cX4_takeLeast 136 = .ok (.iload_n 3, 1) := by decide +kernel
theorem dX4_takeLeast_137 : decode cX4_takeLeast 137 = .ok (.goto 4, 3) := by decide +kernel
theorem dX4_takeLeast_140 : decode cX4_takeLeast 140 = .ok (.iload_n 2, 1) := by decide +kernel
theorem dX4_takeLeast_141 : decode cX4_takeLeast 141 = .ok (.istore_n 2, 1) := by decide +kernel
theorem dX4_takeLeast_142 : decode cX4_takeLeast 142 = .ok (.iinc 3 1, 3) := by decide +kernel
theorem dX4_takeLeast_145 : decode cX4_takeLeast 145 = .ok (.goto (-141), 3) := by decide +kernel
theorem dX4_takeLeast_148 : decode cX4_takeLeast 148 = .ok (.aload_n 0, 1) := by decide +kernel
theorem dX4_takeLeast_149 : decode cX4_takeLeast 149 = .ok (.iload_n 1, 1) := by decide +kernel
theorem dX4_takeLeast_150 : decode cX4_takeLeast 150 = .ok (.aload_n 0, 1) := by decide +kernel
theorem dX4_takeLeast_151 : decode cX4_takeLeast 151 = .ok (.getfield 42, 3) := by decide +kernel
theorem dX4_takeLeast_154 : decode cX4_takeLeast 154 = .ok (.iconst 4, 1) := by decide +kernel
theorem dX4_takeLeast_155 : decode cX4_takeLeast 155 = .ok (.iload_n 1, 1) := by decide +kernel
theorem dX4_takeLeast_156 : decode cX4_takeLeast 156 = .ok (.imul, 1) := by decide +kernel
theorem dX4_takeLeast_157 : decode cX4_takeLeast 157 = .ok (.iload_n 2, 1) := by decide +kernel
theorem dX4_takeLeast_158 : decode cX4_takeLeast 158 = .ok (.iadd, 1) := by decide +kernel
theorem dX4_takeLeast_159 : decode cX4_takeLeast 159 = .ok (.iaload, 1) := by decide +kernel
theorem dX4_takeLeast_160 : decode cX4_takeLeast 160 = .ok (.aload_n 0, 1) := by decide +kernel
theorem dX4_takeLeast_161 : decode cX4_takeLeast 161 = .ok (.getfield 45, 3) := by decide +kernel
theorem dX4_takeLeast_164 : decode cX4_takeLeast 164 = .ok (.iconst 4, 1) := by decide +kernel
theorem dX4_takeLeast_165 : decode cX4_takeLeast 165 = .ok (.iload_n 1, 1) := by decide +kernel
theorem dX4_takeLeast_166 : decode cX4_takeLeast 166 = .ok (.imul, 1) := by decide +kernel
theorem dX4_takeLeast_167 : decode cX4_takeLeast 167 = .ok (.iload_n 2, 1) := by decide +kernel
theorem dX4_takeLeast_168 : decode cX4_takeLeast 168 = .ok (.iadd, 1) := by decide +kernel
theorem dX4_takeLeast_169 : decode cX4_takeLeast 169 = .ok (.iaload, 1) := by decide +kernel
theorem dX4_takeLeast_170 : decode cX4_takeLeast 170 = .ok (.invokevirtual 246, 3) := by decide +kernel
theorem dX4_takeLeast_173 : decode cX4_takeLeast 173 = .ok (.aload_n 0, 1) := by decide +kernel
theorem dX4_takeLeast_174 : decode cX4_takeLeast 174 = .ok (.getfield 45, 3) := by decide +kernel
theorem dX4_takeLeast_177 : decode cX4_takeLeast 177 = .ok (.iconst 4, 1) := by decide +kernel
theorem dX4_takeLeast_178 : decode cX4_takeLeast 178 = .ok (.iload_n 1, 1) := by decide +kernel
theorem dX4_takeLeast_179 : decode cX4_takeLeast 179 = .ok (.imul, 1) := by decide +kernel
theorem dX4_takeLeast_180 : decode cX4_takeLeast 180 = .ok (.iload_n 2, 1) := by decide +kernel
theorem dX4_takeLeast_181 : decode cX4_takeLeast 181 = .ok (.iadd, 1) := by decide +kernel
theorem dX4_takeLeast_182 : decode cX4_takeLeast 182 = .ok (.dup2, 1) := by decide +kernel
theorem dX4_takeLeast_183 : decode cX4_takeLeast 183 = .ok (.iaload, 1) := by decide +kernel
theorem dX4_takeLeast_184 : decode cX4_takeLeast 184 = .ok (.iconst 1, 1) := by decide +kernel
theorem dX4_takeLeast_185 : decode cX4_takeLeast 185 = .ok (.iadd, 1) := by decide +kernel
theorem dX4_takeLeast_186 : decode cX4_takeLeast 186 = .ok (.iastore, 1) := by decide +kernel
theorem dX4_takeLeast_187 : decode cX4_takeLeast 187 = .ok (.return_, 1) := by decide +kernel
theorem dX4_read_0 : decode cX4_read 0 = .ok (.aload_n 0, 1) := by decide +kernel
theorem dX4_read_1 : decode cX4_read 1 = .ok (.getfield 135, 3) := by decide +kernel
theorem dX4_read_4 : decode cX4_read 4 = .ok (.ifCond .ne 6, 3) := by decide +kernel
theorem dX4_read_7 : decode cX4_read 7 = .ok (.bipush (-2), 2) := by decide +kernel
theorem dX4_read_9 : decode cX4_read 9 = .ok (.ireturn, 1) := by decide +kernel
theorem dX4_read_10 : decode cX4_read 10 = .ok (.aload_n 0, 1) := by decide +kernel
theorem dX4_read_11 : decode cX4_read 11 = .ok (.iload_n 1, 1) := by decide +kernel
theorem dX4_read_12 : decode cX4_read 12 = .ok (.invokevirtual 146, 3) := by decide +kernel
theorem dX4_read_15 : decode cX4_read 15 = .ok (.ifCond .ne 9, 3) := by decide +kernel
theorem dX4_read_18 : decode cX4_read 18 = .ok (.aload_n 0, 1) := by decide +kernel
theorem dX4_read_19 : decode cX4_read 19 = .ok (.iconst 2, 1) := by decide +kernel
theorem dX4_read_20 : decode cX4_read 20 = .ok (.invokevirtual 131, 3) := by decide +kernel
theorem dX4_read_23 : decode cX4_read 23 = .ok (.ireturn, 1) := by decide +kernel
theorem dX4_read_24 : decode cX4_read 24 = .ok (.aload_n 0, 1) := by decide +kernel
theorem dX4_read_25 : decode cX4_read 25 = .ok (.getfield 39, 3) := by decide +kernel
theorem dX4_read_28 : decode cX4_read 28 = .ok (.iload_n 1, 1) := by decide +kernel
theorem dX4_read_29 : decode cX4_read 29 = .ok (.iaload, 1) := by decide +kernel
theorem dX4_read_30 : decode cX4_read 30 = .ok (.istore_n 2, 1) := by decide +kernel
theorem dX4_read_31 : decode cX4_read 31 = .ok (.aload_n 0, 1) := by decide +kernel
theorem dX4_read_32 : decode cX4_read 32 = .ok (.getfield 42, 3) := by decide +kernel
theorem dX4_read_35 : decode cX4_read 35 = .ok (.iconst 4, 1) := by decide +kernel
theorem dX4_read_36 : decode cX4_read 36 = .ok (.iload_n 1, 1) := by decide +kernel
theorem dX4_read_37 : decode cX4_read 37 = .ok (.imul, 1) := by decide +kernel
theorem dX4_read_38 : decode cX4_read 38 = .ok (.iaload, 1) := by decide +kernel
theorem dX4_read_39 : decode cX4_read 39 = .ok (.istore_n 3, 1) := by decide +kernel
theorem dX4_read_40 : decode cX4_read 40 = .ok (.aload_n 0, 1) := by decide +kernel
theorem dX4_read_41 : decode cX4_read 41 = .ok (.iload_n 1, 1) := by decide +kernel
theorem dX4_read_42 : decode cX4_read 42 = .ok (.invokevirtual 240, 3) := by decide +kernel
theorem dX4_read_45 : decode cX4_read 45 = .ok (.istore 4, 2) := by decide +kernel
theorem dX4_read_47 : decode cX4_read 47 = .ok (.iload_n 2, 1) := by decide +kernel
theorem dX4_read_48 : decode cX4_read 48 = .ok (.iconst 3, 1) := by decide +kernel
theorem dX4_read_49 : decode cX4_read 49 = .ok (.if_icmp .ne 40, 3) := by decide +kernel
theorem dX4_read_52 : decode cX4_read 52 = .ok (.aload_n 0, 1) := by decide +kernel
theorem dX4_read_53 : decode cX4_read 53 = .ok (.iload_n 1, 1) := by decide +kernel
theorem dX4_read_54 : decode cX4_read 54 = .ok (.aload_n 0, 1) := by decide +kernel
theorem dX4_read_55 : decode cX4_read 55 = .ok (.getfield 16, 3) := by decide +kernel
theorem dX4_read_58 : decode cX4_read 58 = .ok (.iload_n 3, 1) := by decide +kernel
theorem dX4_read_59 : decode cX4_read 59 = .ok (.iaload, 1) := by decide +kernel
theorem dX4_read_60 : decode cX4_read 60 = .ok (.iconst 2, 1) := by decide +kernel
theorem dX4_read_61 : decode cX4_read 61 = .ok (.if_icmp .ne 12, 3) := by decide +kernel
theorem dX4_read_64 : decode cX4_read 64 = .ok (.aload_n 0, 1) := by decide +kernel
theorem dX4_read_65 : decode cX4_read 65 = .ok (.getfield 13, 3) := by decide +kernel
theorem dX4_read_68 : decode cX4_read 68 = .ok (.iload_n 3, 1) := by decide +kernel
theorem dX4_read_69 : decode cX4_read 69 = .ok (.iaload, 1) := by decide +kernel
theorem dX4_read_70 : decode cX4_read 70 = .ok (.goto 16, 3) := by decide +kernel
theorem dX4_read_73 : decode cX4_read 73 = .ok (.aload_n 0, 1) := by decide +kernel
theorem dX4_read_74 : decode cX4_read 74 = .ok (.getfield 13, 3) := by decide +kernel
theorem dX4_read_77 : decode cX4_read 77 = .ok (.iload_n 3, 1) := by decide +kernel
theorem dX4_read_78 : decode cX4_read 78 = .ok (.iaload, 1) := by decide +kernel
theorem dX4_read_79 : decode cX4_read 79 = .ok (.aload_n 0, 1) := by decide +kernel
theorem dX4_read_80 : decode cX4_read 80 = .ok (.getfield 7, 3) := by decide +kernel
theorem dX4_read_83 : decode cX4_read 83 = .ok (.iload_n 3, 1) := by decide +kernel
theorem dX4_read_84 : decode cX4_read 84 = .ok (.iaload, 1) := by decide +kernel
theorem dX4_read_85 : decode cX4_read 85 = .ok (.isub, 1) := by decide +kernel
theorem dX4_read_86 : decode cX4_read 86 = .ok (.invokevirtual 250, 3) := by decide +kernel
theorem dX4_read_89 : decode cX4_read 89 = .ok (.iload 4, 2) := by decide +kernel
theorem dX4_read_91 : decode cX4_read 91 = .ok (.ifCond .le 19, 3) := by decide +kernel
theorem dX4_read_94 : decode cX4_read 94 = .ok (.iload 4, 2) := by decide +kernel
theorem dX4_read_96 : decode cX4_read 96 = .ok (.iconst 1, 1) := by decide +kernel
theorem dX4_read_97 : decode cX4_read 97 = .ok (.if_icmp .ne 11, 3) := by decide +kernel
theorem dX4_read_100 : decode cX4_read 100 = .ok (.aload_n 0, 1) := by decide +kernel
theorem dX4_read_101 : decode cX4_read 101 = .ok (.iconst 1, 1) := by decide +kernel
theorem dX4_read_102 : decode cX4_read 102 = .ok (.invokevirtual 131, 3) := by decide +kernel
theorem dX4_read_105 : decode cX4_read 105 = .ok (.goto 4, 3) := by decide +kernel
theorem dX4_read_108 : decode cX4_read 108 = .ok (.iconst 0, 1) := by decide +kernel
theorem dX4_read_109 : decode cX4_read 109 = .ok (.ireturn, 1) := by decide +kernel
theorem dX4_read_110 : decode cX4_read 110 = .ok (.iload_n 2, 1) := by decide +kernel
theorem dX4_read_111 : decode cX4_read 111 = .ok (.iconst 4, 1) := by decide +kernel
theorem dX4_read_112 : decode cX4_read 112 = .ok (.if_icmp .ne 11, 3) := by decide +kernel
theorem dX4_read_115 : decode cX4_read 115 = .ok (.aload_n 0, 1) := by decide +kernel
theorem dX4_read_116 : decode cX4_read 116 = .ok (.iload_n 1, 1) := by decide +kernel
theorem dX4_read_117 : decode cX4_read 117 = .ok (.invokevirtual 253, 3) := by decide +kernel
theorem dX4_read_120 : decode cX4_read 120 = .ok (.goto 61, 3) := by decide +kernel
theorem dX4_read_123 : decode cX4_read 123 = .ok (.iload_n 2, 1) := by decide +kernel
theorem dX4_read_124 : decode cX4_read 124 = .ok (.iconst 5, 1) := by decide +kernel
theorem dX4_read_125 : decode cX4_read 125 = .ok (.if_icmp .ne 11, 3) := by decide +kernel
theorem dX4_read_128 : decode cX4_read 128 = .ok (.aload_n 0, 1) := by decide +kernel
theorem dX4_read_129 : decode cX4_read 129 = .ok (.iload_n 1, 1) := by decide +kernel
theorem dX4_read_130 : decode cX4_read 130 = .ok (.invokevirtual 256, 3) := by decide +kernel
theorem dX4_read_133 : decode cX4_read 133 = .ok (.goto 48, 3) := by decide +kernel
theorem dX4_read_136 : decode cX4_read 136 = .ok (.iload_n 2, 1) := by decide +kernel
theorem dX4_read_137 : decode cX4_read 137 = .ok (.iconst 1, 1) := by decide +kernel
theorem dX4_read_138 : decode cX4_read 138 = .ok (.if_icmp .ne 17, 3) := by decide +kernel
theorem dX4_read_141 : decode cX4_read 141 = .ok (.aload_n 0, 1) := by decide +kernel
theorem dX4_read_142 : decode cX4_read 142 = .ok (.iload_n 1, 1) := by decide +kernel
theorem dX4_read_143 : decode cX4_read 143 = .ok (.iload_n 3, 1) := by decide +kernel
theorem dX4_read_144 : decode cX4_read 144 = .ok (.aload_n 0, 1) := by decide +kernel
theorem dX4_read_145 : decode cX4_read 145 = .ok (.iload_n 3, 1) := by decide +kernel
theorem dX4_read_146 : decode cX4_read 146 = .ok (.invokevirtual 231, 3) := by decide +kernel
theorem dX4_read_149 : decode cX4_read 149 = .ok (.invokevirtual 246, 3) := by decide +kernel
theorem dX4_read_152 : decode cX4_read 152 = .ok (.goto 29, 3) := by decide +kernel
theorem dX4_read_155 : decode cX4_read 155 = .ok (.aload_n 0, 1) := by decide +kernel
theorem dX4_read_156 : decode cX4_read 156 = .ok (.iload_n 1, 1) := by decide +kernel
theorem dX4_read_157 : decode cX4_read 157 = .ok (.iload_n 3, 1) := by decide +kernel
theorem dX4_read_158 : decode cX4_read 158 = .ok (.aload_n 0, 1) := by decide +kernel
theorem dX4_read_159 : decode cX4_read 159 = .ok (.getfield 45, 3) := by decide +kernel
theorem dX4_read_162 : decode cX4_read 162 = .ok (.iconst 4, 1) := by decide +kernel
theorem dX4_read_163 : decode cX4_read 163 = .ok (.iload_n 1, 1) := by decide +kernel
theorem dX4_read_164 : decode cX4_read 164 = .ok (.imul, 1) := by decide +kernel
theorem dX4_read_165 : decode cX4_read 165 = .ok (.iaload, 1) := by decide +kernel
theorem dX4_read_166 : decode cX4_read 166 = .ok (.invokevirtual 246, 3) := by decide +kernel
theorem dX4_read_169 : decode cX4_read 169 = .ok (.aload_n 0, 1) := by decide +kernel
theorem dX4_read_170 : decode cX4_read 170 = .ok (.getfield 45, 3) := by decide +kernel
theorem dX4_read_173 : decode cX4_read 173 = .ok (.iconst 4, 1) := by decide +kernel
theorem dX4_read_174 : decode cX4_read 174 = .ok (.iload_n 1, 1) := by decide +kernel
theorem dX4_read_175 : decode cX4_read 175 = .ok (.imul, 1) := by decide +kernel
theorem dX4_read_176 : decode cX4_read 176 = .ok (.dup2, 1) := by decide +kernel
theorem dX4_read_177 : decode cX4_read 177 = .ok (.iaload, 1) := by decide +kernel
theorem dX4_read_178 : decode cX4_read 178 = .ok (.iconst 1, 1) := by decide +kernel
theorem dX4_read_179 : decode cX4_read 179 = .ok (.iadd, 1) := by decide +kernel
theorem dX4_read_180 : decode cX4_read 180 = .ok (.iastore, 1) := by decide +kernel
theorem dX4_read_181 : decode cX4_read 181 = .ok (.iload_n 2, 1) := by decide +kernel
theorem dX4_read_182 : decode cX4_read 182 = .ok (.bipush 7, 2) := by decide +kernel
theorem dX4_read_184 : decode cX4_read 184 = .ok (.if_icmp .ne 8, 3) := by decide +kernel
theorem dX4_read_187 : decode cX4_read 187 = .ok (.aload_n 0, 1) := by decide +kernel
theorem dX4_read_188 : decode cX4_read 188 = .ok (.iload_n 1, 1) := by decide +kernel
theorem dX4_read_189 : decode cX4_read 189 = .ok (.invokevirtual 259, 3) := by decide +kernel
theorem dX4_read_192 : decode cX4_read 192 = .ok (.iconst 1, 1) := by decide +kernel
theorem dX4_read_193 : decode cX4_read 193 = .ok (.ireturn, 1) := by decide +kernel
theorem dX4_round_0 : decode cX4_round 0 = .ok (.aload_n 0, 1) := by decide +kernel
theorem dX4_round_1 : decode cX4_round 1 = .ok (.getfield 135, 3) := by decide +kernel
theorem dX4_round_4 : decode cX4_round 4 = .ok (.ifCond .ne 6, 3) := by decide +kernel
theorem dX4_round_7 : decode cX4_round 7 = .ok (.bipush (-2), 2) := by decide +kernel
theorem dX4_round_9 : decode cX4_round 9 = .ok (.ireturn, 1) := by decide +kernel
theorem dX4_round_10 : decode cX4_round 10 = .ok (.iconst 0, 1) := by decide +kernel
theorem dX4_round_11 : decode cX4_round 11 = .ok (.istore_n 1, 1) := by decide +kernel
theorem dX4_round_12 : decode cX4_round 12 = .ok (.iconst 0, 1) := by decide +kernel
theorem dX4_round_13 : decode cX4_round 13 = .ok (.istore_n 2, 1) := by decide +kernel
theorem dX4_round_14 : decode cX4_round 14 = .ok (.iload_n 2, 1) := by decide +kernel
theorem dX4_round_15 : decode cX4_round 15 = .ok (.aload_n 0, 1) := by decide +kernel
theorem dX4_round_16 : decode cX4_round 16 = .ok (.getfield 124, 3) := by decide +kernel
theorem dX4_round_19 : decode cX4_round 19 = .ok (.if_icmp .ge 26, 3) := by decide +kernel
theorem dX4_round_22 : decode cX4_round 22 = .ok (.iload_n 1, 1) := by decide +kernel
theorem dX4_round_23 : decode cX4_round 23 = .ok (.aload_n 0, 1) := by decide +kernel
theorem dX4_round_24 : decode cX4_round 24 = .ok (.iload_n 2, 1) := by decide +kernel
theorem dX4_round_25 : decode cX4_round 25 = .ok (.invokevirtual 262, 3) := by decide +kernel
theorem dX4_round_28 : decode cX4_round 28 = .ok (.iconst 1, 1) := by decide +kernel
theorem dX4_round_29 : decode cX4_round 29 = .ok (.if_icmp .ne 7, 3) := by decide +kernel
theorem dX4_round_32 : decode cX4_round 32 = .ok (.iconst 1, 1) := by decide +kernel
theorem dX4_round_33 : decode cX4_round 33 = .ok (.goto 4, 3) := by decide +kernel
theorem dX4_round_36 : decode cX4_round 36 = .ok (.iconst 0, 1) := by decide +kernel
theorem dX4_round_37 : decode cX4_round 37 = .ok (.iadd, 1) := by decide +kernel
theorem dX4_round_38 : decode cX4_round 38 = .ok (.istore_n 1, 1) := by decide +kernel
theorem dX4_round_39 : decode cX4_round 39 = .ok (.iinc 2 1, 3) := by decide +kernel
theorem dX4_round_42 : decode cX4_round 42 = .ok (.goto (-28), 3) := by decide +kernel
theorem dX4_round_45 : decode cX4_round 45 = .ok (.iload_n 1, 1) := by decide +kernel
theorem dX4_round_46 : decode cX4_round 46 = .ok (.ireturn, 1) := by decide +kernel
theorem dX4_got_0 : decode cX4_got 0 = .ok (.aload_n 0, 1) := by decide +kernel
theorem dX4_got_1 : decode cX4_got 1 = .ok (.iload_n 1, 1) := by decide +kernel
theorem dX4_got_2 : decode cX4_got 2 = .ok (.invokevirtual 146, 3) := by decide +kernel
theorem dX4_got_5 : decode cX4_got 5 = .ok (.ifCond .eq 12, 3) := by decide +kernel
theorem dX4_got_8 : decode cX4_got 8 = .ok (.aload_n 0, 1) := by decide +kernel
theorem dX4_got_9 : decode cX4_got 9 = .ok (.getfield 69, 3) := by decide +kernel
theorem dX4_got_12 : decode cX4_got 12 = .ok (.iload_n 1, 1) := by decide +kernel
theorem dX4_got_13 : decode cX4_got 13 = .ok (.iaload, 1) := by decide +kernel
theorem dX4_got_14 : decode cX4_got 14 = .ok (.ifCond .ne 7, 3) := by decide +kernel
theorem dX4_got_17 : decode cX4_got 17 = .ok (.ldc2_w 265, 3) := by decide +kernel
theorem dX4_got_20 : decode cX4_got 20 = .ok (.lreturn, 1) := by decide +kernel
theorem dX4_got_21 : decode cX4_got 21 = .ok (.iload_n 2, 1) := by decide +kernel
theorem dX4_got_22 : decode cX4_got 22 = .ok (.tableswitch 73 0 4 #[34, 42, 50, 57, 65], 34) := by decide +kernel
theorem dX4_got_56 : decode cX4_got 56 = .ok (.aload_n 0, 1) := by decide +kernel
theorem dX4_got_57 : decode cX4_got 57 = .ok (.getfield 72, 3) := by decide +kernel
theorem dX4_got_60 : decode cX4_got 60 = .ok (.iload_n 1, 1) := by decide +kernel
theorem dX4_got_61 : decode cX4_got 61 = .ok (.iaload, 1) := by decide +kernel
theorem dX4_got_62 : decode cX4_got 62 = .ok (.i2l, 1) := by decide +kernel
theorem dX4_got_63 : decode cX4_got 63 = .ok (.lreturn, 1) := by decide +kernel
theorem dX4_got_64 : decode cX4_got 64 = .ok (.aload_n 0, 1) := by decide +kernel
theorem dX4_got_65 : decode cX4_got 65 = .ok (.getfield 75, 3) := by decide +kernel
theorem dX4_got_68 : decode cX4_got 68 = .ok (.iload_n 1, 1) := by decide +kernel
theorem dX4_got_69 : decode cX4_got 69 = .ok (.iaload, 1) := by decide +kernel
theorem dX4_got_70 : decode cX4_got 70 = .ok (.i2l, 1) := by decide +kernel
theorem dX4_got_71 : decode cX4_got 71 = .ok (.lreturn, 1) := by decide +kernel
theorem dX4_got_72 : decode cX4_got 72 = .ok (.aload_n 0, 1) := by decide +kernel
theorem dX4_got_73 : decode cX4_got 73 = .ok (.getfield 78, 3) := by decide +kernel
theorem dX4_got_76 : decode cX4_got 76 = .ok (.iload_n 1, 1) := by decide +kernel
theorem dX4_got_77 : decode cX4_got 77 = .ok (.laload, 1) := by decide +kernel
theorem dX4_got_78 : decode cX4_got 78 = .ok (.lreturn, 1) := by decide +kernel
theorem dX4_got_79 : decode cX4_got 79 = .ok (.aload_n 0, 1) := by decide +kernel
theorem dX4_got_80 : decode cX4_got 80 = .ok (.getfield 81, 3) := by decide +kernel
theorem dX4_got_83 : decode cX4_got 83 = .ok (.iload_n 1, 1) := by decide +kernel
theorem dX4_got_84 : decode cX4_got 84 = .ok (.iaload, 1) := by decide +kernel
theorem dX4_got_85 : decode cX4_got 85 = .ok (.i2l, 1) := by decide +kernel
theorem dX4_got_86 : decode cX4_got 86 = .ok (.lreturn, 1) := by decide +kernel
theorem dX4_got_87 : decode cX4_got 87 = .ok (.aload_n 0, 1) := by decide +kernel
theorem dX4_got_88 : decode cX4_got 88 = .ok (.getfield 84, 3) := by decide +kernel
theorem dX4_got_91 : decode cX4_got 91 = .ok (.iload_n 1, 1) := by decide +kernel
theorem dX4_got_92 : decode cX4_got 92 = .ok (.iaload, 1) := by decide +kernel
theorem dX4_got_93 : decode cX4_got 93 = .ok (.i2l, 1) := by decide +kernel
theorem dX4_got_94 : decode cX4_got 94 = .ok (.lreturn, 1) := by decide +kernel
theorem dX4_got_95 : decode cX4_got 95 = .ok (.ldc2_w 265, 3) := by decide +kernel
theorem dX4_got_98 : decode cX4_got 98 = .ok (.lreturn, 1) := by decide +kernel
theorem dX4_word_0 : decode cX4_word 0 = .ok (.aload_n 0, 1) := by decide +kernel
theorem dX4_word_1 : decode cX4_word 1 = .ok (.iload_n 1, 1) := by decide +kernel
theorem dX4_word_2 : decode cX4_word 2 = .ok (.invokevirtual 146, 3) := by decide +kernel
theorem dX4_word_5 : decode cX4_word 5 = .ok (.ifCond .eq 27, 3) := by decide +kernel
theorem dX4_word_8 : decode cX4_word 8 = .ok (.iload_n 2, 1) := by decide +kernel
theorem dX4_word_9 : decode cX4_word 9 = .ok (.ifCond .lt 23, 3) := by decide +kernel
theorem dX4_word_12 : decode cX4_word 12 = .ok (.iload_n 2, 1) := by decide +kernel
theorem dX4_word_13 : decode cX4_word 13 = .ok (.bipush 8, 2) := by decide +kernel
theorem dX4_word_15 : decode cX4_word 15 = .ok (.if_icmp .ge 17, 3) := by decide +kernel
theorem dX4_word_18 : decode cX4_word 18 = .ok (.aload_n 0, 1) := by decide +kernel
theorem dX4_word_19 : decode cX4_word 19 = .ok (.getfield 87, 3) := by decide +kernel
theorem dX4_word_22 : decode cX4_word 22 = .ok (.bipush 8, 2) := by decide +kernel
theorem dX4_word_24 : decode cX4_word 24 = .ok (.iload_n 1, 1) := by decide +kernel
theorem dX4_word_25 : decode cX4_word 25 = .ok (.imul, 1) := by decide +kernel
theorem dX4_word_26 : decode cX4_word 26 = .ok (.iload_n 2, 1) := by decide +kernel
theorem dX4_word_27 : decode cX4_word 27 = .ok (.iadd, 1) := by decide +kernel
theorem dX4_word_28 : decode cX4_word 28 = .ok (.laload, 1) := by decide +kernel
theorem dX4_word_29 : decode cX4_word 29 = .ok (.goto 4, 3) := by decide +kernel
theorem dX4_word_32 : decode cX4_word 32 = .ok (.lconst 0, 1) := by decide +kernel
theorem dX4_word_33 : decode cX4_word 33 = .ok (.lreturn, 1) := by decide +kernel
theorem dX4_of_0 : decode cX4_of 0 = .ok (.iload_n 2, 1) := by decide +kernel
theorem dX4_of_1 : decode cX4_of 1 = .ok (.ifCond .lt 9, 3) := by decide +kernel
theorem dX4_of_4 : decode cX4_of 4 = .ok (.iload_n 2, 1) := by decide +kernel
theorem dX4_of_5 : decode cX4_of 5 = .ok (.bipush 8, 2) := by decide +kernel
theorem dX4_of_7 : decode cX4_of 7 = .ok (.if_icmp .le 5, 3) := by decide +kernel
theorem dX4_of_10 : decode cX4_of 10 = .ok (.iconst (-1), 1) := by decide +kernel
theorem dX4_of_11 : decode cX4_of 11 = .ok (.ireturn, 1) := by decide +kernel
theorem dX4_of_12 : decode cX4_of 12 = .ok (.aload_n 0, 1) := by decide +kernel
theorem dX4_of_13 : decode cX4_of 13 = .ok (.iload_n 1, 1) := by decide +kernel
theorem dX4_of_14 : decode cX4_of 14 = .ok (.invokevirtual 146, 3) := by decide +kernel
theorem dX4_of_17 : decode cX4_of 17 = .ok (.ifCond .ne 9, 3) := by decide +kernel
theorem dX4_of_20 : decode cX4_of 20 = .ok (.aload_n 0, 1) := by decide +kernel
theorem dX4_of_21 : decode cX4_of 21 = .ok (.iconst 2, 1) := by decide +kernel
theorem dX4_of_22 : decode cX4_of 22 = .ok (.invokevirtual 131, 3) := by decide +kernel
theorem dX4_of_25 : decode cX4_of 25 = .ok (.ireturn, 1) := by decide +kernel
theorem dX4_of_26 : decode cX4_of 26 = .ok (.iload_n 2, 1) := by decide +kernel
theorem dX4_of_27 : decode cX4_of 27 = .ok (.tableswitch 110 0 7 #[45, 52, 61, 75, 82, 89, 96, 103], 45) := by decide +kernel
theorem dX4_of_72 : decode cX4_of 72 = .ok (.aload_n 0, 1) := by decide +kernel
theorem dX4_of_73 : decode cX4_of 73 = .ok (.getfield 39, 3) := by decide +kernel
theorem dX4_of_76 : decode cX4_of 76 = .ok (.iload_n 1, 1) := by decide +kernel
theorem dX4_of_77 : decode cX4_of 77 = .ok (.iaload, 1) := by decide +kernel
theorem dX4_of_78 : decode cX4_of 78 = .ok (.ireturn, 1) := by decide +kernel
theorem dX4_of_79 : decode cX4_of 79 = .ok (.aload_n 0, 1) := by decide +kernel
theorem dX4_of_80 : decode cX4_of 80 = .ok (.getfield 42, 3) := by decide +kernel
theorem dX4_of_83 : decode cX4_of 83 = .ok (.iconst 4, 1) := by decide +kernel
theorem dX4_of_84 : decode cX4_of 84 = .ok (.iload_n 1, 1) := by decide +kernel
theorem dX4_of_85 : decode cX4_of 85 = .ok (.imul, 1) := by decide +kernel
theorem dX4_of_86 : decode cX4_of 86 = .ok (.iaload, 1) := by decide +kernel
theorem dX4_of_87 : decode cX4_of 87 = .ok (.ireturn, 1) := by decide +kernel
theorem dX4_of_88 : decode cX4_of 88 = .ok (.aload_n 0, 1) := by decide +kernel
theorem dX4_of_89 : decode cX4_of 89 = .ok (.iload_n 1, 1) := by decide +kernel
theorem dX4_of_90 : decode cX4_of 90 = .ok (.aload_n 0, 1) := by decide +kernel
theorem dX4_of_91 : decode cX4_of 91 = .ok (.getfield 42, 3) := by decide +kernel
theorem dX4_of_94 : decode cX4_of 94 = .ok (.iconst 4, 1) := by decide +kernel
theorem dX4_of_95 : decode cX4_of 95 = .ok (.iload_n 1, 1) := by decide +kernel
theorem dX4_of_96 : decode cX4_of 96 = .ok (.imul, 1) := by decide +kernel
theorem dX4_of_97 : decode cX4_of 97 = .ok (.iaload, 1) := by decide +kernel
theorem dX4_of_98 : decode cX4_of 98 = .ok (.invokevirtual 177, 3) := by decide +kernel
theorem dX4_of_101 : decode cX4_of 101 = .ok (.ireturn, 1) := by decide +kernel
theorem dX4_of_102 : decode cX4_of 102 = .ok (.aload_n 0, 1) := by decide +kernel
theorem dX4_of_103 : decode cX4_of 103 = .ok (.getfield 60, 3) := by decide +kernel
theorem dX4_of_106 : decode cX4_of 106 = .ok (.iload_n 1, 1) := by decide +kernel
theorem dX4_of_107 : decode cX4_of 107 = .ok (.iaload, 1) := by decide +kernel
theorem dX4_of_108 : decode cX4_of 108 = .ok (.ireturn, 1) := by decide +kernel
theorem dX4_of_109 : decode cX4_of 109 = .ok (.aload_n 0, 1) := by decide +kernel
theorem dX4_of_110 : decode cX4_of 110 = .ok (.getfield 63, 3) := by decide +kernel
theorem dX4_of_113 : decode cX4_of 113 = .ok (.iload_n 1, 1) := by decide +kernel
theorem dX4_of_114 : decode cX4_of 114 = .ok (.iaload, 1) := by decide +kernel
theorem dX4_of_115 : decode cX4_of 115 = .ok (.ireturn, 1) := by decide +kernel
theorem dX4_of_116 : decode cX4_of 116 = .ok (.aload_n 0, 1) := by decide +kernel
theorem dX4_of_117 : decode cX4_of 117 = .ok (.getfield 66, 3) := by decide +kernel
theorem dX4_of_120 : decode cX4_of 120 = .ok (.iload_n 1, 1) := by decide +kernel
theorem dX4_of_121 : decode cX4_of 121 = .ok (.iaload, 1) := by decide +kernel
theorem dX4_of_122 : decode cX4_of 122 = .ok (.ireturn, 1) := by decide +kernel
theorem dX4_of_123 : decode cX4_of 123 = .ok (.aload_n 0, 1) := by decide +kernel
theorem dX4_of_124 : decode cX4_of 124 = .ok (.getfield 90, 3) := by decide +kernel
theorem dX4_of_127 : decode cX4_of 127 = .ok (.iload_n 1, 1) := by decide +kernel
theorem dX4_of_128 : decode cX4_of 128 = .ok (.iaload, 1) := by decide +kernel
theorem dX4_of_129 : decode cX4_of 129 = .ok (.ireturn, 1) := by decide +kernel
theorem dX4_of_130 : decode cX4_of 130 = .ok (.aload_n 0, 1) := by decide +kernel
theorem dX4_of_131 : decode cX4_of 131 = .ok (.getfield 54, 3) := by decide +kernel
theorem dX4_of_134 : decode cX4_of 134 = .ok (.iload_n 1, 1) := by decide +kernel
theorem dX4_of_135 : decode cX4_of 135 = .ok (.iaload, 1) := by decide +kernel
theorem dX4_of_136 : decode cX4_of 136 = .ok (.ireturn, 1) := by decide +kernel
theorem dX4_of_137 : decode cX4_of 137 = .ok (.aload_n 0, 1) := by decide +kernel
theorem dX4_of_138 : decode cX4_of 138 = .ok (.getfield 69, 3) := by decide +kernel
theorem dX4_of_141 : decode cX4_of 141 = .ok (.iload_n 1, 1) := by decide +kernel
theorem dX4_of_142 : decode cX4_of 142 = .ok (.iaload, 1) := by decide +kernel
theorem dX4_of_143 : decode cX4_of 143 = .ok (.ireturn, 1) := by decide +kernel
theorem dX4_place_0 : decode cX4_place 0 = .ok (.aload_n 0, 1) := by decide +kernel
theorem dX4_place_1 : decode cX4_place 1 = .ok (.iload_n 1, 1) := by decide +kernel
theorem dX4_place_2 : decode cX4_place 2 = .ok (.invokevirtual 146, 3) := by decide +kernel
theorem dX4_place_5 : decode cX4_place 5 = .ok (.ifCond .eq 20, 3) := by decide +kernel
theorem dX4_place_8 : decode cX4_place 8 = .ok (.aload_n 0, 1) := by decide +kernel
theorem dX4_place_9 : decode cX4_place 9 = .ok (.iload_n 2, 1) := by decide +kernel
theorem dX4_place_10 : decode cX4_place 10 = .ok (.invokevirtual 142, 3) := by decide +kernel
theorem dX4_place_13 : decode cX4_place 13 = .ok (.ifCond .eq 12, 3) := by decide +kernel
theorem dX4_place_16 : decode cX4_place 16 = .ok (.aload_n 0, 1) := by decide +kernel
theorem dX4_place_17 : decode cX4_place 17 = .ok (.iload_n 1, 1) := by decide +kernel
theorem dX4_place_18 : decode cX4_place 18 = .ok (.iload_n 2, 1) := by decide +kernel
theorem dX4_place_19 : decode cX4_place 19 = .ok (.invokevirtual 177, 3) := by decide +kernel
theorem dX4_place_22 : decode cX4_place 22 = .ok (.goto 4, 3) := by decide +kernel
theorem dX4_place_25 : decode cX4_place 25 = .ok (.iconst (-1), 1) := by decide +kernel
theorem dX4_place_26 : decode cX4_place 26 = .ok (.ireturn, 1) := by decide +kernel
theorem dX4_named_0 : decode cX4_named 0 = .ok (.aload_n 0, 1) := by decide +kernel
theorem dX4_named_1 : decode cX4_named 1 = .ok (.iload_n 1, 1) := by decide +kernel
theorem dX4_named_2 : decode cX4_named 2 = .ok (.invokevirtual 146, 3) := by decide +kernel
theorem dX4_named_5 : decode cX4_named 5 = .ok (.ifCond .ne 9, 3) := by decide +kernel
theorem dX4_named_8 : decode cX4_named 8 = .ok (.aload_n 0, 1) := by decide +kernel
theorem dX4_named_9 : decode cX4_named 9 = .ok (.iconst 2, 1) := by decide +kernel
theorem dX4_named_10 : decode cX4_named 10 = .ok (.invokevirtual 131, 3) := by decide +kernel
theorem dX4_named_13 : decode cX4_named 13 = .ok (.ireturn, 1) := by decide +kernel
theorem dX4_named_14 : decode cX4_named 14 = .ok (.aload_n 0, 1) := by decide +kernel
theorem dX4_named_15 : decode cX4_named 15 = .ok (.getfield 39, 3) := by decide +kernel
theorem dX4_named_18 : decode cX4_named 18 = .ok (.iload_n 1, 1) := by decide +kernel
theorem dX4_named_19 : decode cX4_named 19 = .ok (.iaload, 1) := by decide +kernel
theorem dX4_named_20 : decode cX4_named 20 = .ok (.bipush 6, 2) := by decide +kernel
theorem dX4_named_22 : decode cX4_named 22 = .ok (.if_icmp .eq 20, 3) := by decide +kernel
theorem dX4_named_25 : decode cX4_named 25 = .ok (.aload_n 0, 1) := by decide +kernel
theorem dX4_named_26 : decode cX4_named 26 = .ok (.getfield 39, 3) := by decide +kernel
theorem dX4_named_29 : decode cX4_named 29 = .ok (.iload_n 1, 1) := by decide +kernel
theorem dX4_named_30 : decode cX4_named 30 = .ok (.iaload, 1) := by decide +kernel
theorem dX4_named_31 : decode cX4_named 31 = .ok (.bipush 7, 2) := by decide +kernel
theorem dX4_named_33 : decode cX4_named 33 = .ok (.if_icmp .eq 9, 3) := by decide +kernel
theorem dX4_named_36 : decode cX4_named 36 = .ok (.aload_n 0, 1) := by decide +kernel
theorem dX4_named_37 : decode cX4_named 37 = .ok (.iconst 4, 1) := by decide +kernel
theorem dX4_named_38 : decode cX4_named 38 = .ok (.invokevirtual 131, 3) := by decide +kernel
theorem dX4_named_41 : decode cX4_named 41 = .ok (.ireturn, 1) := by decide +kernel
theorem dX4_named_42 : decode cX4_named 42 = .ok (.iload_n 2, 1) := by decide +kernel
theorem dX4_named_43 : decode cX4_named 43 = .ok (.ifCond .lt 13, 3) := by decide +kernel
theorem dX4_named_46 : decode cX4_named 46 = .ok (.iload_n 2, 1) := by decide +kernel
theorem dX4_named_47 : decode cX4_named 47 = .ok (.aload_n 0, 1) := by decide +kernel
theorem dX4_named_48 : decode cX4_named 48 = .ok (.getfield 54, 3) := by decide +kernel
theorem dX4_named_51 : decode cX4_named 51 = .ok (.iload_n 1, 1) := by decide +kernel
theorem dX4_named_52 : decode cX4_named 52 = .ok (.iaload, 1) := by decide +kernel
theorem dX4_named_53 : decode cX4_named 53 = .ok (.if_icmp .lt 7, 3) := by decide +kernel
theorem dX4_named_56 : decode cX4_named 56 = .ok (.iconst (-1), 1) := by decide +kernel
theorem dX4_named_57 : decode cX4_named 57 = .ok (.goto 13, 3) := by decide +kernel
theorem dX4_named_60 : decode cX4_named 60 = .ok (.aload_n 0, 1) := by decide +kernel
theorem dX4_named_61 : decode cX4_named 61 = .ok (.getfield 51, 3) := by decide +kernel
theorem dX4_named_64 : decode cX4_named 64 = .ok (.iconst 4, 1) := by decide +kernel
theorem dX4_named_65 : decode cX4_named 65 = .ok (.iload_n 1, 1) := by decide +kernel
theorem dX4_named_66 : decode cX4_named 66 = .ok (.imul, 1) := by decide +kernel
theorem dX4_named_67 : decode cX4_named 67 = .ok (.iload_n 2, 1) := by decide +kernel
theorem dX4_named_68 : decode cX4_named 68 = .ok (.iadd, 1) := by decide +kernel
theorem dX4_named_69 : decode cX4_named 69 = .ok (.iaload, 1) := by decide +kernel
theorem dX4_named_70 : decode cX4_named 70 = .ok (.ireturn, 1) := by decide +kernel
theorem dX4_entry_0 : decode cX4_entry 0 = .ok (.aload_n 0, 1) := by decide +kernel
theorem dX4_entry_1 : decode cX4_entry 1 = .ok (.iload_n 1, 1) := by decide +kernel
theorem dX4_entry_2 : decode cX4_entry 2 = .ok (.invokevirtual 146, 3) := by decide +kernel
theorem dX4_entry_5 : decode cX4_entry 5 = .ok (.ifCond .ne 9, 3) := by decide +kernel
theorem dX4_entry_8 : decode cX4_entry 8 = .ok (.aload_n 0, 1) := by decide +kernel
theorem dX4_entry_9 : decode cX4_entry 9 = .ok (.iconst 2, 1) := by decide +kernel
theorem dX4_entry_10 : decode cX4_entry 10 = .ok (.invokevirtual 131, 3) := by decide +kernel
theorem dX4_entry_13 : decode cX4_entry 13 = .ok (.ireturn, 1) := by decide +kernel
theorem dX4_entry_14 : decode cX4_entry 14 = .ok (.aload_n 0, 1) := by decide +kernel
theorem dX4_entry_15 : decode cX4_entry 15 = .ok (.getfield 39, 3) := by decide +kernel
theorem dX4_entry_18 : decode cX4_entry 18 = .ok (.iload_n 1, 1) := by decide +kernel
theorem dX4_entry_19 : decode cX4_entry 19 = .ok (.iaload, 1) := by decide +kernel
theorem dX4_entry_20 : decode cX4_entry 20 = .ok (.iconst 4, 1) := by decide +kernel
theorem dX4_entry_21 : decode cX4_entry 21 = .ok (.if_icmp .eq 9, 3) := by decide +kernel
theorem dX4_entry_24 : decode cX4_entry 24 = .ok (.aload_n 0, 1) := by decide +kernel
theorem dX4_entry_25 : decode cX4_entry 25 = .ok (.iconst 4, 1) := by decide +kernel
theorem dX4_entry_26 : decode cX4_entry 26 = .ok (.invokevirtual 131, 3) := by decide +kernel
theorem dX4_entry_29 : decode cX4_entry 29 = .ok (.ireturn, 1) := by decide +kernel
theorem dX4_entry_30 : decode cX4_entry 30 = .ok (.iload_n 2, 1) := by decide +kernel
theorem dX4_entry_31 : decode cX4_entry 31 = .ok (.ifCond .lt 13, 3) := by decide +kernel
theorem dX4_entry_34 : decode cX4_entry 34 = .ok (.iload_n 2, 1) := by decide +kernel
theorem dX4_entry_35 : decode cX4_entry 35 = .ok (.aload_n 0, 1) := by decide +kernel
theorem dX4_entry_36 : decode cX4_entry 36 = .ok (.getfield 90, 3) := by decide +kernel
theorem dX4_entry_39 : decode cX4_entry 39 = .ok (.iload_n 1, 1) := by decide +kernel
theorem dX4_entry_40 : decode cX4_entry 40 = .ok (.iaload, 1) := by decide +kernel
theorem dX4_entry_41 : decode cX4_entry 41 = .ok (.if_icmp .lt 7, 3) := by decide +kernel
theorem dX4_entry_44 : decode cX4_entry 44 = .ok (.iconst (-1), 1) := by decide +kernel
theorem dX4_entry_45 : decode cX4_entry 45 = .ok (.goto 14, 3) := by decide +kernel
theorem dX4_entry_48 : decode cX4_entry 48 = .ok (.aload_n 0, 1) := by decide +kernel
theorem dX4_entry_49 : decode cX4_entry 49 = .ok (.getfield 99, 3) := by decide +kernel
theorem dX4_entry_52 : decode cX4_entry 52 = .ok (.bipush 32, 2) := by decide +kernel
theorem dX4_entry_54 : decode cX4_entry 54 = .ok (.iload_n 1, 1) := by decide +kernel
theorem dX4_entry_55 : decode cX4_entry 55 = .ok (.imul, 1) := by decide +kernel
theorem dX4_entry_56 : decode cX4_entry 56 = .ok (.iload_n 2, 1) := by decide +kernel
theorem dX4_entry_57 : decode cX4_entry 57 = .ok (.iadd, 1) := by decide +kernel
theorem dX4_entry_58 : decode cX4_entry 58 = .ok (.iaload, 1) := by decide +kernel
theorem dX4_entry_59 : decode cX4_entry 59 = .ok (.ireturn, 1) := by decide +kernel
theorem dX4_target_0 : decode cX4_target 0 = .ok (.aload_n 0, 1) := by decide +kernel
theorem dX4_target_1 : decode cX4_target 1 = .ok (.iload_n 1, 1) := by decide +kernel
theorem dX4_target_2 : decode cX4_target 2 = .ok (.invokevirtual 146, 3) := by decide +kernel
theorem dX4_target_5 : decode cX4_target 5 = .ok (.ifCond .ne 9, 3) := by decide +kernel
theorem dX4_target_8 : decode cX4_target 8 = .ok (.aload_n 0, 1) := by decide +kernel
theorem dX4_target_9 : decode cX4_target 9 = .ok (.iconst 2, 1) := by decide +kernel
theorem dX4_target_10 : decode cX4_target 10 = .ok (.invokevirtual 131, 3) := by decide +kernel
theorem dX4_target_13 : decode cX4_target 13 = .ok (.ireturn, 1) := by decide +kernel
theorem dX4_target_14 : decode cX4_target 14 = .ok (.aload_n 0, 1) := by decide +kernel
theorem dX4_target_15 : decode cX4_target 15 = .ok (.getfield 39, 3) := by decide +kernel
theorem dX4_target_18 : decode cX4_target 18 = .ok (.iload_n 1, 1) := by decide +kernel
theorem dX4_target_19 : decode cX4_target 19 = .ok (.iaload, 1) := by decide +kernel
theorem dX4_target_20 : decode cX4_target 20 = .ok (.bipush 7, 2) := by decide +kernel
theorem dX4_target_22 : decode cX4_target 22 = .ok (.if_icmp .ne 12, 3) := by decide +kernel
theorem dX4_target_25 : decode cX4_target 25 = .ok (.aload_n 0, 1) := by decide +kernel
theorem dX4_target_26 : decode cX4_target 26 = .ok (.getfield 57, 3) := by decide +kernel
theorem dX4_target_29 : decode cX4_target 29 = .ok (.iload_n 1, 1) := by decide +kernel
theorem dX4_target_30 : decode cX4_target 30 = .ok (.iaload, 1) := by decide +kernel
theorem dX4_target_31 : decode cX4_target 31 = .ok (.goto 8, 3) := by decide +kernel
theorem dX4_target_34 : decode cX4_target 34 = .ok (.aload_n 0, 1) := by decide +kernel
theorem dX4_target_35 : decode cX4_target 35 = .ok (.iconst 4, 1) := by decide +kernel
theorem dX4_target_36 : decode cX4_target 36 = .ok (.invokevirtual 131, 3) := by decide +kernel
theorem dX4_target_39 : decode cX4_target 39 = .ok (.ireturn, 1) := by decide +kernel
theorem dX4_found_0 : decode cX4_found 0 = .ok (.iload_n 1, 1) := by decide +kernel
theorem dX4_found_1 : decode cX4_found 1 = .ok (.ifCond .lt 9, 3) := by decide +kernel
theorem dX4_found_4 : decode cX4_found 4 = .ok (.iload_n 1, 1) := by decide +kernel
theorem dX4_found_5 : decode cX4_found 5 = .ok (.bipush 6, 2) := by decide +kernel
theorem dX4_found_7 : decode cX4_found 7 = .ok (.if_icmp .le 7, 3) := by decide +kernel
theorem dX4_found_10 : decode cX4_found 10 = .ok (.iconst (-1), 1) := by decide +kernel
theorem dX4_found_11 : decode cX4_found 11 = .ok (.goto 9, 3) := by decide +kernel
theorem dX4_found_14 : decode cX4_found 14 = .ok (.aload_n 0, 1) := by decide +kernel
theorem dX4_found_15 : decode cX4_found 15 = .ok (.getfield 112, 3) := by decide +kernel
theorem dX4_found_18 : decode cX4_found 18 = .ok (.iload_n 1, 1) := by decide +kernel
theorem dX4_found_19 : decode cX4_found 19 = .ok (.iaload, 1) := by decide +kernel
theorem dX4_found_20 : decode cX4_found 20 = .ok (.ireturn, 1) := by decide +kernel
end
section
theorem dL_law_0 : decode cL_law 0 = .ok (.new 7, 3) := by decide +kernel
theorem dL_law_3 : decode cL_law 3 = .ok (.dup, 1) := by decide +kernel
theorem dL_law_4 : decode cL_law 4 = .ok (.invokespecial 9, 3) := by decide +kernel
theorem dL_law_7 : decode cL_law 7 = .ok (.astore_n 1, 1) := by decide +kernel
theorem dL_law_8 : decode cL_law 8 = .ok (.new 10, 3) := by decide +kernel
theorem dL_law_11 : decode cL_law 11 = .ok (.dup, 1) := by decide +kernel
theorem dL_law_12 : decode cL_law 12 = .ok (.invokespecial 12, 3) := by decide +kernel
theorem dL_law_15 : decode cL_law 15 = .ok (.astore_n 2, 1) := by decide +kernel
theorem dL_law_16 : decode cL_law 16 = .ok (.iconst 0, 1) := by decide +kernel
theorem dL_law_17 : decode cL_law 17 = .ok (.istore_n 3, 1) := by decide +kernel
theorem dL_law_18 : decode cL_law 18 = .ok (.iload_n 3, 1) := by decide +kernel
theorem dL_law_19 : decode cL_law 19 = .ok (.aload_n 0, 1) := by decide +kernel
theorem dL_law_20 : decode cL_law 20 = .ok (.arraylength, 1) := by decide +kernel
theorem dL_law_21 : decode cL_law 21 = .ok (.bipush 6, 2) := by decide +kernel
theorem dL_law_23 : decode cL_law 23 = .ok (.isub, 1) := by decide +kernel
theorem dL_law_24 : decode cL_law 24 = .ok (.if_icmp .gt 1140, 3) := by decide +kernel
theorem dL_law_27 : decode cL_law 27 = .ok (.aload_n 0, 1) := by decide +kernel
theorem dL_law_28 : decode cL_law 28 = .ok (.iload_n 3, 1) := by decide +kernel
theorem dL_law_29 : decode cL_law 29 = .ok (.iaload, 1) := by decide +kernel
theorem dL_law_30 : decode cL_law 30 = .ok (.bipush 31, 2) := by decide +kernel
theorem dL_law_32 : decode cL_law 32 = .ok (.iand, 1) := by decide +kernel
theorem dL_law_33 : decode cL_law 33 = .ok (.tableswitch 1125 0 30 #[139, 162, 205, 238, 271, 294, 307, 320, 383, 456, 469, 482, 565, 628, 681, 704, 727, 760, 784, 807, 820, 854, 888, 921, 954, 987, 1020, 1043, 1066, 1089, 1102], 139) := by decide +kernel
theorem dL_law_172 : decode cL_law 172 = .ok (.aload_n 1, 1) := by decide +kernel
theorem dL_law_173 : decode cL_law 173 = .ok (.aload_n 0, 1) := by decide +kernel
theorem dL_law_174 : decode cL_law 174 = .ok (.iload_n 3, 1) := by decide +kernel
theorem dL_law_175 : decode cL_law 175 = .ok (.iconst 1, 1) := by decide +kernel
theorem dL_law_176 : decode cL_law 176 = .ok (.iadd, 1) := by decide +kernel
theorem dL_law_177 : decode cL_law 177 = .ok (.iaload, 1) := by decide +kernel
theorem dL_law_178 : decode cL_law 178 = .ok (.invokevirtual 13, 3) := by decide +kernel
theorem dL_law_181 : decode cL_law 181 = .ok (.aload_n 2, 1) := by decide +kernel
theorem dL_law_182 : decode cL_law 182 = .ok (.aload_n 0, 1) := by decide +kernel
theorem dL_law_183 : decode cL_law 183 = .ok (.iload_n 3, 1) := by decide +kernel
theorem dL_law_184 : decode cL_law 184 = .ok (.iconst 1, 1) := by decide +kernel
theorem dL_law_185 : decode cL_law 185 = .ok (.iadd, 1) := by decide +kernel
theorem dL_law_186 : decode cL_law 186 = .ok (.iaload, 1) := by decide +kernel
theorem dL_law_187 : decode cL_law 187 = .ok (.invokevirtual 17, 3) := by decide +kernel
theorem dL_law_190 : decode cL_law 190 = .ok (.if_icmp .eq 968, 3) := by decide +kernel
theorem dL_law_193 : decode cL_law 193 = .ok (.iconst 0, 1) := by decide +kernel
theorem dL_law_194 : decode cL_law 194 = .ok (.ireturn, 1) := by decide +kernel
theorem dL_law_195 : decode cL_law 195 = .ok (.aload_n 1, 1) := by decide +kernel
theorem dL_law_196 : decode cL_law 196 = .ok (.aload_n 0, 1) := by decide +kernel
theorem dL_law_197 : decode cL_law 197 = .ok (.iload_n 3, 1) := by decide +kernel
theorem dL_law_198 : decode cL_law 198 = .ok (.iconst 1, 1) := by decide +kernel
theorem dL_law_199 : decode cL_law 199 = .ok (.iadd, 1) := by decide +kernel
theorem dL_law_200 : decode cL_law 200 = .ok (.iaload, 1) := by decide +kernel
theorem dL_law_201 : decode cL_law 201 = .ok (.aload_n 0, 1) := by decide +kernel
theorem dL_law_202 : decode cL_law 202 = .ok (.iload_n 3, 1) := by decide +kernel
theorem dL_law_203 : decode cL_law 203 = .ok (.iconst 2, 1) := by decide +kernel
theorem dL_law_204 : decode cL_law 204 = .ok (.iadd, 1) := by decide +kernel
theorem dL_law_205 : decode cL_law 205 = .ok (.iaload, 1) := by decide +kernel
theorem dL_law_206 : decode cL_law 206 = .ok (.aload_n 0, 1) := by decide +kernel
theorem dL_law_207 : decode cL_law 207 = .ok (.iload_n 3, 1) := by decide +kernel
theorem dL_law_208 : decode cL_law 208 = .ok (.iconst 3, 1) := by decide +kernel
theorem dL_law_209 : decode cL_law 209 = .ok (.iadd, 1) := by decide +kernel
theorem dL_law_210 : decode cL_law 210 = .ok (.iaload, 1) := by decide +kernel
theorem dL_law_211 : decode cL_law 211 = .ok (.invokevirtual 18, 3) := by decide +kernel
theorem dL_law_214 : decode cL_law 214 = .ok (.aload_n 2, 1) := by decide +kernel
theorem dL_law_215 : decode cL_law 215 = .ok (.aload_n 0, 1) := by decide +kernel
theorem dL_law_216 : decode cL_law 216 = .ok (.iload_n 3, 1) := by decide +kernel
theorem dL_law_217 : decode cL_law 217 = .ok (.iconst 1, 1) := by decide +kernel
theorem dL_law_218 : decode cL_law 218 = .ok (.iadd, 1) := by decide +kernel
theorem dL_law_219 : decode cL_law 219 = .ok (.iaload, 1) := by decide +kernel
theorem dL_law_220 : decode cL_law 220 = .ok (.aload_n 0, 1) := by decide +kernel
theorem dL_law_221 : decode cL_law 221 = .ok (.iload_n 3, 1) := by decide +kernel
theorem dL_law_222 : decode cL_law 222 = .ok (.iconst 2, 1) := by decide +kernel
theorem dL_law_223 : decode cL_law 223 = .ok (.iadd, 1) := by decide +kernel
theorem dL_law_224 : decode cL_law 224 = .ok (.iaload, 1) := by decide +kernel
theorem dL_law_225 : decode cL_law 225 = .ok (.aload_n 0, 1) := by decide +kernel
theorem dL_law_226 : decode cL_law 226 = .ok (.iload_n 3, 1) := by decide +kernel
theorem dL_law_227 : decode cL_law 227 = .ok (.iconst 3, 1) := by decide +kernel
theorem dL_law_228 : decode cL_law 228 = .ok (.iadd, 1) := by decide +kernel
theorem dL_law_229 : decode cL_law 229 = .ok (.iaload, 1) := by decide +kernel
theorem dL_law_230 : decode cL_law 230 = .ok (.invokevirtual 22, 3) := by decide +kernel
theorem dL_law_233 : decode cL_law 233 = .ok (.if_icmp .eq 925, 3) := by decide +kernel
theorem dL_law_236 : decode cL_law 236 = .ok (.iconst 0, 1) := by decide +kernel
theorem dL_law_237 : decode cL_law 237 = .ok (.ireturn, 1) := by decide +kernel
theorem dL_law_238 : decode cL_law 238 = .ok (.aload_n 1, 1) := by decide +kernel
theorem dL_law_239 : decode cL_law 239 = .ok (.aload_n 0, 1) := by decide +kernel
theorem dL_law_240 : decode cL_law 240 = .ok (.iload_n 3, 1) := by decide +kernel
theorem dL_law_241 : decode cL_law 241 = .ok (.iconst 1, 1) := by decide +kernel
theorem dL_law_242 : decode cL_law 242 = .ok (.iadd, 1) := by decide +kernel
theorem dL_law_243 : decode cL_law 243 = .ok (.iaload, 1) := by decide +kernel
theorem dL_law_244 : decode cL_law 244 = .ok (.aload_n 0, 1) := by decide +kernel
theorem dL_law_245 : decode cL_law 245 = .ok (.iload_n 3, 1) := by decide +kernel
theorem dL_law_246 : decode cL_law 246 = .ok (.iconst 2, 1) := by decide +kernel
theorem dL_law_247 : decode cL_law 247 = .ok (.iadd, 1) := by decide +kernel
theorem dL_law_248 : decode cL_law 248 = .ok (.iaload, 1) := by decide +kernel
theorem dL_law_249 : decode cL_law 249 = .ok (.invokevirtual 23, 3) := by decide +kernel
theorem dL_law_252 : decode cL_law 252 = .ok (.aload_n 2, 1) := by decide +kernel
theorem dL_law_253 : decode cL_law 253 = .ok (.aload_n 0, 1) := by decide +kernel
theorem dL_law_254 : decode cL_law 254 = .ok (.iload_n 3, 1) := by decide +kernel
theorem dL_law_255 : decode cL_law 255 = .ok (.iconst 1, 1) := by decide +kernel
theorem dL_law_256 : decode cL_law 256 = .ok (.iadd, 1) := by decide +kernel
theorem dL_law_257 : decode cL_law 257 = .ok (.iaload, 1) := by decide +kernel
theorem dL_law_258 : decode cL_law 258 = .ok (.aload_n 0, 1) := by decide +kernel
theorem dL_law_259 : decode cL_law 259 = .ok (.iload_n 3, 1) := by decide +kernel
theorem dL_law_260 : decode cL_law 260 = .ok (.iconst 2, 1) := by decide +kernel
theorem dL_law_261 : decode cL_law 261 = .ok (.iadd, 1) := by decide +kernel
theorem dL_law_262 : decode cL_law 262 = .ok (.iaload, 1) := by decide +kernel
theorem dL_law_263 : decode cL_law 263 = .ok (.invokevirtual 27, 3) := by decide +kernel
theorem dL_law_266 : decode cL_law 266 = .ok (.if_icmp .eq 892, 3) := by decide +kernel
theorem dL_law_269 : decode cL_law 269 = .ok (.iconst 0, 1) := by decide +kernel
theorem dL_law_270 : decode cL_law 270 = .ok (.ireturn, 1) := by decide +kernel
theorem dL_law_271 : decode cL_law 271 = .ok (.aload_n 1, 1) := by decide +kernel
theorem dL_law_272 : decode cL_law 272 = .ok (.aload_n 0, 1) := by decide +kernel
theorem dL_law_273 : decode cL_law 273 = .ok (.iload_n 3, 1) := by decide +kernel
theorem dL_law_274 : decode cL_law 274 = .ok (.iconst 1, 1) := by decide +kernel
theorem dL_law_275 : decode cL_law 275 = .ok (.iadd, 1) := by decide +kernel
theorem dL_law_276 : decode cL_law 276 = .ok (.iaload, 1) := by decide +kernel
theorem dL_law_277 : decode cL_law 277 = .ok (.aload_n 0, 1) := by decide +kernel
theorem dL_law_278 : decode cL_law 278 = .ok (.iload_n 3, 1) := by decide +kernel
theorem dL_law_279 : decode cL_law 279 = .ok (.iconst 2, 1) := by decide +kernel
theorem dL_law_280 : decode cL_law 280 = .ok (.iadd, 1) := by decide +kernel
theorem dL_law_281 : decode cL_law 281 = .ok (.iaload, 1) := by decide +kernel
theorem dL_law_282 : decode cL_law 282 = .ok (.invokevirtual 28, 3) := by decide +kernel
theorem dL_law_285 : decode cL_law 285 = .ok (.aload_n 2, 1) := by decide +kernel
theorem dL_law_286 : decode cL_law 286 = .ok (.aload_n 0, 1) := by decide +kernel
theorem dL_law_287 : decode cL_law 287 = .ok (.iload_n 3, 1) := by decide +kernel
theorem dL_law_288 : decode cL_law 288 = .ok (.iconst 1, 1) := by decide +kernel
theorem dL_law_289 : decode cL_law 289 = .ok (.iadd, 1) := by decide +kernel
theorem dL_law_290 : decode cL_law 290 = .ok (.iaload, 1) := by decide +kernel
theorem dL_law_291 : decode cL_law 291 = .ok (.aload_n 0, 1) := by decide +kernel
theorem dL_law_292 : decode cL_law 292 = .ok (.iload_n 3, 1) := by decide +kernel
theorem dL_law_293 : decode cL_law 293 = .ok (.iconst 2, 1) := by decide +kernel
theorem dL_law_294 : decode cL_law 294 = .ok (.iadd, 1) := by decide +kernel
theorem dL_law_295 : decode cL_law 295 = .ok (.iaload, 1) := by decide +kernel
theorem dL_law_296 : decode cL_law 296 = .ok (.invokevirtual 31, 3) := by decide +kernel
theorem dL_law_299 : decode cL_law 299 = .ok (.if_icmp .eq 859, 3) := by decide +kernel
theorem dL_law_302 : decode cL_law 302 = .ok (.iconst 0, 1) := by decide +kernel
theorem dL_law_303 : decode cL_law 303 = .ok (.ireturn, 1) := by decide +kernel
theorem dL_law_304 : decode cL_law 304 = .ok (.aload_n 1, 1) := by decide +kernel
theorem dL_law_305 : decode cL_law 305 = .ok (.aload_n 0, 1) := by decide +kernel
theorem dL_law_306 : decode cL_law 306 = .ok (.iload_n 3, 1) := by decide +kernel
theorem dL_law_307 : decode cL_law 307 = .ok (.iconst 1, 1) := by decide +kernel
theorem dL_law_308 : decode cL_law 308 = .ok (.iadd, 1) := by decide +kernel
theorem dL_law_309 : decode cL_law 309 = .ok (.iaload, 1) := by decide +kernel
theorem dL_law_310 : decode cL_law 310 = .ok (.invokevirtual 32, 3) := by decide +kernel
theorem dL_law_313 : decode cL_law 313 = .ok (.aload_n 2, 1) := by decide +kernel
theorem dL_law_314 : decode cL_law 314 = .ok (.aload_n 0, 1) := by decide +kernel
theorem dL_law_315 : decode cL_law 315 = .ok (.iload_n 3, 1) := by decide +kernel
theorem dL_law_316 : decode cL_law 316 = .ok (.iconst 1, 1) := by decide +kernel
theorem dL_law_317 : decode cL_law 317 = .ok (.iadd, 1) := by decide +kernel
theorem dL_law_318 : decode cL_law 318 = .ok (.iaload, 1) := by decide +kernel
theorem dL_law_319 : decode cL_law 319 = .ok (.invokevirtual 35, 3) := by decide +kernel
theorem dL_law_322 : decode cL_law 322 = .ok (.if_icmp .eq 836, 3) := by decide +kernel
theorem dL_law_325 : decode cL_law 325 = .ok (.iconst 0, 1) := by decide +kernel
theorem dL_law_326 : decode cL_law 326 = .ok (.ireturn, 1) := by decide +kernel
theorem dL_law_327 : decode cL_law 327 = .ok (.aload_n 1, 1) := by decide +kernel
theorem dL_law_328 : decode cL_law 328 = .ok (.invokevirtual 36, 3) := by decide +kernel
theorem dL_law_331 : decode cL_law 331 = .ok (.aload_n 2, 1) := by decide +kernel
theorem dL_law_332 : decode cL_law 332 = .ok (.invokevirtual 40, 3) := by decide +kernel
theorem dL_law_335 : decode cL_law 335 = .ok (.if_icmp .eq 823, 3) := by decide +kernel
theorem dL_law_338 : decode cL_law 338 = .ok (.iconst 0, 1) := by decide +kernel
theorem dL_law_339 : decode cL_law 339 = .ok (.ireturn, 1) := by decide +kernel
theorem dL_law_340 : decode cL_law 340 = .ok (.aload_n 1, 1) := by decide +kernel
theorem dL_law_341 : decode cL_law 341 = .ok (.invokevirtual 41, 3) := by decide +kernel
theorem dL_law_344 : decode cL_law 344 = .ok (.aload_n 2, 1) := by decide +kernel
theorem dL_law_345 : decode cL_law 345 = .ok (.invokevirtual 44, 3) := by decide +kernel
theorem dL_law_348 : decode cL_law 348 = .ok (.if_icmp .eq 810, 3) := by decide +kernel
theorem dL_law_351 : decode cL_law 351 = .ok (.iconst 0, 1) := by decide +kernel
theorem dL_law_352 : decode cL_law 352 = .ok (.ireturn, 1) := by decide +kernel
theorem dL_law_353 : decode cL_law 353 = .ok (.aload_n 1, 1) := by decide +kernel
theorem dL_law_354 : decode cL_law 354 = .ok (.aload_n 0, 1) := by decide +kernel
theorem dL_law_355 : decode cL_law 355 = .ok (.iload_n 3, 1) := by decide +kernel
theorem dL_law_356 : decode cL_law 356 = .ok (.iconst 1, 1) := by decide +kernel
theorem dL_law_357 : decode cL_law 357 = .ok (.iadd, 1) := by decide +kernel
theorem dL_law_358 : decode cL_law 358 = .ok (.iaload, 1) := by decide +kernel
theorem dL_law_359 : decode cL_law 359 = .ok (.aload_n 0, 1) := by decide +kernel
theorem dL_law_360 : decode cL_law 360 = .ok (.iload_n 3, 1) := by decide +kernel
theorem dL_law_361 : decode cL_law 361 = .ok (.iconst 2, 1) := by decide +kernel
theorem dL_law_362 : decode cL_law 362 = .ok (.iadd, 1) := by decide +kernel
theorem dL_law_363 : decode cL_law 363 = .ok (.iaload, 1) := by decide +kernel
theorem dL_law_364 : decode cL_law 364 = .ok (.i2l, 1) := by decide +kernel
theorem dL_law_365 : decode cL_law 365 = .ok (.bipush 32, 2) := by decide +kernel
theorem dL_law_367 : decode cL_law 367 = .ok (.lshl, 1) := by decide +kernel
theorem dL_law_368 : decode cL_law 368 = .ok (.aload_n 0, 1) := by decide +kernel
theorem dL_law_369 : decode cL_law 369 = .ok (.iload_n 3, 1) := by decide +kernel
theorem dL_law_370 : decode cL_law 370 = .ok (.iconst 3, 1) := by decide +kernel
theorem dL_law_371 : decode cL_law 371 = .ok (.iadd, 1) := by decide +kernel
theorem dL_law_372 : decode cL_law 372 = .ok (.iaload, 1) := by decide +kernel
theorem dL_law_373 : decode cL_law 373 = .ok (.i2l, 1) := by decide +kernel
theorem dL_law_374 : decode cL_law 374 = .ok (.ldc2_w 45, 3) := by decide +kernel
theorem dL_law_377 : decode cL_law 377 = .ok (.land, 1) := by decide +kernel
theorem dL_law_378 : decode cL_law 378 = .ok (.lor, 1) := by decide +kernel
theorem dL_law_379 : decode cL_law 379 = .ok (.invokevirtual 47, 3) := by decide +kernel
theorem dL_law_382 : decode cL_law 382 = .ok (.aload_n 2, 1) := by decide +kernel
theorem dL_law_383 : decode cL_law 383 = .ok (.aload_n 0, 1) := by decide +kernel
theorem dL_law_384 : decode cL_law 384 = .ok (.iload_n 3, 1) := by decide +kernel
theorem dL_law_385 : decode cL_law 385 = .ok (.iconst 1, 1) := by decide +kernel
theorem dL_law_386 : decode cL_law 386 = .ok (.iadd, 1) := by decide +kernel
theorem dL_law_387 : decode cL_law 387 = .ok (.iaload, 1) := by decide +kernel
theorem dL_law_388 : decode cL_law 388 = .ok (.aload_n 0, 1) := by decide +kernel
theorem dL_law_389 : decode cL_law 389 = .ok (.iload_n 3, 1) := by decide +kernel
theorem dL_law_390 : decode cL_law 390 = .ok (.iconst 2, 1) := by decide +kernel
theorem dL_law_391 : decode cL_law 391 = .ok (.iadd, 1) := by decide +kernel
theorem dL_law_392 : decode cL_law 392 = .ok (.iaload, 1) := by decide +kernel
theorem dL_law_393 : decode cL_law 393 = .ok (.i2l, 1) := by decide +kernel
theorem dL_law_394 : decode cL_law 394 = .ok (.bipush 32, 2) := by decide +kernel
theorem dL_law_396 : decode cL_law 396 = .ok (.lshl, 1) := by decide +kernel
theorem dL_law_397 : decode cL_law 397 = .ok (.aload_n 0, 1) := by decide +kernel
theorem dL_law_398 : decode cL_law 398 = .ok (.iload_n 3, 1) := by decide +kernel
theorem dL_law_399 : decode cL_law 399 = .ok (.iconst 3, 1) := by decide +kernel
theorem dL_law_400 : decode cL_law 400 = .ok (.iadd, 1) := by decide +kernel
theorem dL_law_401 : decode cL_law 401 = .ok (.iaload, 1) := by decide +kernel
theorem dL_law_402 : decode cL_law 402 = .ok (.i2l, 1) := by decide +kernel
theorem dL_law_403 : decode cL_law 403 = .ok (.ldc2_w 45, 3) := by decide +kernel
theorem dL_law_406 : decode cL_law 406 = .ok (.land, 1) := by decide +kernel
theorem dL_law_407 : decode cL_law 407 = .ok (.lor, 1) := by decide +kernel
theorem dL_law_408 : decode cL_law 408 = .ok (.invokevirtual 51, 3) := by decide +kernel
theorem dL_law_411 : decode cL_law 411 = .ok (.if_icmp .eq 747, 3) := by decide +kernel
theorem dL_law_414 : decode cL_law 414 = .ok (.iconst 0, 1) := by decide +kernel
theorem dL_law_415 : decode cL_law 415 = .ok (.ireturn, 1) := by decide +kernel
theorem dL_law_416 : decode cL_law 416 = .ok (.aload_n 1, 1) := by decide +kernel
theorem dL_law_417 : decode cL_law 417 = .ok (.aload_n 0, 1) := by decide +kernel
theorem dL_law_418 : decode cL_law 418 = .ok (.iload_n 3, 1) := by decide +kernel
theorem dL_law_419 : decode cL_law 419 = .ok (.iconst 1, 1) := by decide +kernel
theorem dL_law_420 : decode cL_law 420 = .ok (.iadd, 1) := by decide +kernel
theorem dL_law_421 : decode cL_law 421 = .ok (.iaload, 1) := by decide +kernel
theorem dL_law_422 : decode cL_law 422 = .ok (.aload_n 0, 1) := by decide +kernel
theorem dL_law_423 : decode cL_law 423 = .ok (.iload_n 3, 1) := by decide +kernel
theorem dL_law_424 : decode cL_law 424 = .ok (.iconst 2, 1) := by decide +kernel
theorem dL_law_425 : decode cL_law 425 = .ok (.iadd, 1) := by decide +kernel
theorem dL_law_426 : decode cL_law 426 = .ok (.iaload, 1) := by decide +kernel
theorem dL_law_427 : decode cL_law 427 = .ok (.i2l, 1) := by decide +kernel
theorem dL_law_428 : decode cL_law 428 = .ok (.bipush 32, 2) := by decide +kernel
theorem dL_law_430 : decode cL_law 430 = .ok (.lshl, 1) := by decide +kernel
theorem dL_law_431 : decode cL_law 431 = .ok (.aload_n 0, 1) := by decide +kernel
theorem dL_law_432 : decode cL_law 432 = .ok (.iload_n 3, 1) := by decide +kernel
theorem dL_law_433 : decode cL_law 433 = .ok (.iconst 3, 1) := by decide +kernel
theorem dL_law_434 : decode cL_law 434 = .ok (.iadd, 1) := by decide +kernel
theorem dL_law_435 : decode cL_law 435 = .ok (.iaload, 1) := by decide +kernel
theorem dL_law_436 : decode cL_law 436 = .ok (.i2l, 1) := by decide +kernel
theorem dL_law_437 : decode cL_law 437 = .ok (.ldc2_w 45, 3) := by decide +kernel
theorem dL_law_440 : decode cL_law 440 = .ok (.land, 1) := by decide +kernel
theorem dL_law_441 : decode cL_law 441 = .ok (.lor, 1) := by decide +kernel
theorem dL_law_442 : decode cL_law 442 = .ok (.aload_n 0, 1) := by decide +kernel
theorem dL_law_443 : decode cL_law 443 = .ok (.iload_n 3, 1) := by decide +kernel
theorem dL_law_444 : decode cL_law 444 = .ok (.iconst 4, 1) := by decide +kernel
theorem dL_law_445 : decode cL_law 445 = .ok (.iadd, 1) := by decide +kernel
theorem dL_law_446 : decode cL_law 446 = .ok (.iaload, 1) := by decide +kernel
theorem dL_law_447 : decode cL_law 447 = .ok (.invokevirtual 52, 3) := by decide +kernel
theorem dL_law_450 : decode cL_law 450 = .ok (.aload_n 2, 1) := by decide +kernel
theorem dL_law_451 : decode cL_law 451 = .ok (.aload_n 0, 1) := by decide +kernel
theorem dL_law_452 : decode cL_law 452 = .ok (.iload_n 3, 1) := by decide +kernel
theorem dL_law_453 : decode cL_law 453 = .ok (.iconst 1, 1) := by decide +kernel
theorem dL_law_454 : decode cL_law 454 = .ok (.iadd, 1) := by decide +kernel
theorem dL_law_455 : decode cL_law 455 = .ok (.iaload, 1) := by decide +kernel
theorem dL_law_456 : decode cL_law 456 = .ok (.aload_n 0, 1) := by decide +kernel
theorem dL_law_457 : decode cL_law 457 = .ok (.iload_n 3, 1) := by decide +kernel
theorem dL_law_458 : decode cL_law 458 = .ok (.iconst 2, 1) := by decide +kernel
theorem dL_law_459 : decode cL_law 459 = .ok (.iadd, 1) := by decide +kernel
theorem dL_law_460 : decode cL_law 460 = .ok (.iaload, 1) := by decide +kernel
theorem dL_law_461 : decode cL_law 461 = .ok (.i2l, 1) := by decide +kernel
theorem dL_law_462 : decode cL_law 462 = .ok (.bipush 32, 2) := by decide +kernel
theorem dL_law_464 : decode cL_law 464 = .ok (.lshl, 1) := by decide +kernel
theorem dL_law_465 : decode cL_law 465 = .ok (.aload_n 0, 1) := by decide +kernel
theorem dL_law_466 : decode cL_law 466 = .ok (.iload_n 3, 1) := by decide +kernel
theorem dL_law_467 : decode cL_law 467 = .ok (.iconst 3, 1) := by decide +kernel
theorem dL_law_468 : decode cL_law 468 = .ok (.iadd, 1) := by decide +kernel
theorem dL_law_469 : decode cL_law 469 = .ok (.iaload, 1) := by decide +kernel
theorem dL_law_470 : decode cL_law 470 = .ok (.i2l, 1) := by decide +kernel
theorem dL_law_471 : decode cL_law 471 = .ok (.ldc2_w 45, 3) := by decide +kernel
theorem dL_law_474 : decode cL_law 474 = .ok (.land, 1) := by decide +kernel
theorem dL_law_475 : decode cL_law 475 = .ok (.lor, 1) := by decide +kernel
theorem dL_law_476 : decode cL_law 476 = .ok (.aload_n 0, 1) := by decide +kernel
theorem dL_law_477 : decode cL_law 477 = .ok (.iload_n 3, 1) := by decide +kernel
theorem dL_law_478 : decode cL_law 478 = .ok (.iconst 4, 1) := by decide +kernel
theorem dL_law_479 : decode cL_law 479 = .ok (.iadd, 1) := by decide +kernel
theorem dL_law_480 : decode cL_law 480 = .ok (.iaload, 1) := by decide +kernel
theorem dL_law_481 : decode cL_law 481 = .ok (.invokevirtual 56, 3) := by decide +kernel
theorem dL_law_484 : decode cL_law 484 = .ok (.if_icmp .eq 674, 3) := by decide +kernel
theorem dL_law_487 : decode cL_law 487 = .ok (.iconst 0, 1) := by decide +kernel
theorem dL_law_488 : decode cL_law 488 = .ok (.ireturn, 1) := by decide +kernel
theorem dL_law_489 : decode cL_law 489 = .ok (.aload_n 1, 1) := by decide +kernel
theorem dL_law_490 : decode cL_law 490 = .ok (.invokevirtual 57, 3) := by decide +kernel
theorem dL_law_493 : decode cL_law 493 = .ok (.aload_n 2, 1) := by decide +kernel
theorem dL_law_494 : decode cL_law 494 = .ok (.invokevirtual 60, 3) := by decide +kernel
theorem dL_law_497 : decode cL_law 497 = .ok (.if_icmp .eq 661, 3) := by decide +kernel
theorem dL_law_500 : decode cL_law 500 = .ok (.iconst 0, 1) := by decide +kernel
theorem dL_law_501 : decode cL_law 501 = .ok (.ireturn, 1) := by decide +kernel
theorem dL_law_502 : decode cL_law 502 = .ok (.aload_n 1, 1) := by decide +kernel
theorem dL_law_503 : decode cL_law 503 = .ok (.invokevirtual 61, 3) := by decide +kernel
theorem dL_law_506 : decode cL_law 506 = .ok (.aload_n 2, 1) := by decide +kernel
theorem dL_law_507 : decode cL_law 507 = .ok (.invokevirtual 64, 3) := by decide +kernel
theorem dL_law_510 : decode cL_law 510 = .ok (.if_icmp .eq 648, 3) := by decide +kernel
theorem dL_law_513 : decode cL_law 513 = .ok (.iconst 0, 1) := by decide +kernel
theorem dL_law_514 : decode cL_law 514 = .ok (.ireturn, 1) := by decide +kernel
theorem dL_law_515 : decode cL_law 515 = .ok (.aload_n 1, 1) := by decide +kernel
theorem dL_law_516 : decode cL_law 516 = .ok (.aload_n 0, 1) := by decide +kernel
theorem dL_law_517 : decode cL_law 517 = .ok (.iload_n 3, 1) := by decide +kernel
theorem dL_law_518 : decode cL_law 518 = .ok (.iconst 1, 1) := by decide +kernel
theorem dL_law_519 : decode cL_law 519 = .ok (.iadd, 1) := by decide +kernel
theorem dL_law_520 : decode cL_law 520 = .ok (.iaload, 1) := by decide +kernel
theorem dL_law_521 : decode cL_law 521 = .ok (.aload_n 0, 1) := by decide +kernel
theorem dL_law_522 : decode cL_law 522 = .ok (.iload_n 3, 1) := by decide +kernel
theorem dL_law_523 : decode cL_law 523 = .ok (.iconst 2, 1) := by decide +kernel
theorem dL_law_524 : decode cL_law 524 = .ok (.iadd, 1) := by decide +kernel
theorem dL_law_525 : decode cL_law 525 = .ok (.iaload, 1) := by decide +kernel
theorem dL_law_526 : decode cL_law 526 = .ok (.aload_n 0, 1) := by decide +kernel
theorem dL_law_527 : decode cL_law 527 = .ok (.iload_n 3, 1) := by decide +kernel
theorem dL_law_528 : decode cL_law 528 = .ok (.iconst 3, 1) := by decide +kernel
theorem dL_law_529 : decode cL_law 529 = .ok (.iadd, 1) := by decide +kernel
theorem dL_law_530 : decode cL_law 530 = .ok (.iaload, 1) := by decide +kernel
theorem dL_law_531 : decode cL_law 531 = .ok (.aload_n 0, 1) := by decide +kernel
theorem dL_law_532 : decode cL_law 532 = .ok (.iload_n 3, 1) := by decide +kernel
theorem dL_law_533 : decode cL_law 533 = .ok (.iconst 4, 1) := by decide +kernel
theorem dL_law_534 : decode cL_law 534 = .ok (.iadd, 1) := by decide +kernel
theorem dL_law_535 : decode cL_law 535 = .ok (.iaload, 1) := by decide +kernel
theorem dL_law_536 : decode cL_law 536 = .ok (.i2l, 1) := by decide +kernel
theorem dL_law_537 : decode cL_law 537 = .ok (.bipush 32, 2) := by decide +kernel
theorem dL_law_539 : decode cL_law 539 = .ok (.lshl, 1) := by decide +kernel
theorem dL_law_540 : decode cL_law 540 = .ok (.aload_n 0, 1) := by decide +kernel
theorem dL_law_541 : decode cL_law 541 = .ok (.iload_n 3, 1) := by decide +kernel
theorem dL_law_542 : decode cL_law 542 = .ok (.iconst 5, 1) := by decide +kernel
theorem dL_law_543 : decode cL_law 543 = .ok (.iadd, 1) := by decide +kernel
theorem dL_law_544 : decode cL_law 544 = .ok (.iaload, 1) := by decide +kernel
theorem dL_law_545 : decode cL_law 545 = .ok (.i2l, 1) := by decide +kernel
theorem dL_law_546 : decode cL_law 546 = .ok (.ldc2_w 45, 3) := by decide +kernel
theorem dL_law_549 : decode cL_law 549 = .ok (.land, 1) := by decide +kernel
theorem dL_law_550 : decode cL_law 550 = .ok (.lor, 1) := by decide +kernel
theorem dL_law_551 : decode cL_law 551 = .ok (.invokevirtual 65, 3) := by decide +kernel
theorem dL_law_554 : decode cL_law 554 = .ok (.aload_n 2, 1) := by decide +kernel
theorem dL_law_555 : decode cL_law 555 = .ok (.aload_n 0, 1) := by decide +kernel
theorem dL_law_556 : decode cL_law 556 = .ok (.iload_n 3, 1) := by decide +kernel
theorem dL_law_557 : decode cL_law 557 = .ok (.iconst 1, 1) := by decide +kernel
theorem dL_law_558 : decode cL_law 558 = .ok (.iadd, 1) := by decide +kernel
theorem dL_law_559 : decode cL_law 559 = .ok (.iaload, 1) := by decide +kernel
theorem dL_law_560 : decode cL_law 560 = .ok (.aload_n 0, 1) := by decide +kernel
theorem dL_law_561 : decode cL_law 561 = .ok (.iload_n 3, 1) := by decide +kernel
theorem dL_law_562 : decode cL_law 562 = .ok (.iconst 2, 1) := by decide +kernel
theorem dL_law_563 : decode cL_law 563 = .ok (.iadd, 1) := by decide +kernel
theorem dL_law_564 : decode cL_law 564 = .ok (.iaload, 1) := by decide +kernel
theorem dL_law_565 : decode cL_law 565 = .ok (.aload_n 0, 1) := by decide +kernel
theorem dL_law_566 : decode cL_law 566 = .ok (.iload_n 3, 1) := by decide +kernel
theorem dL_law_567 : decode cL_law 567 = .ok (.iconst 3, 1) := by decide +kernel
theorem dL_law_568 : decode cL_law 568 = .ok (.iadd, 1) := by decide +kernel
theorem dL_law_569 : decode cL_law 569 = .ok (.iaload, 1) := by decide +kernel
theorem dL_law_570 : decode cL_law 570 = .ok (.aload_n 0, 1) := by decide +kernel
theorem dL_law_571 : decode cL_law 571 = .ok (.iload_n 3, 1) := by decide +kernel
theorem dL_law_572 : decode cL_law 572 = .ok (.iconst 4, 1) := by decide +kernel
theorem dL_law_573 : decode cL_law 573 = .ok (.iadd, 1) := by decide +kernel
theorem dL_law_574 : decode cL_law 574 = .ok (.iaload, 1) := by decide +kernel
theorem dL_law_575 : decode cL_law 575 = .ok (.i2l, 1) := by decide +kernel
theorem dL_law_576 : decode cL_law 576 = .ok (.bipush 32, 2) := by decide +kernel
theorem dL_law_578 : decode cL_law 578 = .ok (.lshl, 1) := by decide +kernel
theorem dL_law_579 : decode cL_law 579 = .ok (.aload_n 0, 1) := by decide +kernel
theorem dL_law_580 : decode cL_law 580 = .ok (.iload_n 3, 1) := by decide +kernel
theorem dL_law_581 : decode cL_law 581 = .ok (.iconst 5, 1) := by decide +kernel
theorem dL_law_582 : decode cL_law 582 = .ok (.iadd, 1) := by decide +kernel
theorem dL_law_583 : decode cL_law 583 = .ok (.iaload, 1) := by decide +kernel
theorem dL_law_584 : decode cL_law 584 = .ok (.i2l, 1) := by decide +kernel
theorem dL_law_585 : decode cL_law 585 = .ok (.ldc2_w 45, 3) := by decide +kernel
theorem dL_law_588 : decode cL_law 588 = .ok (.land, 1) := by decide +kernel
theorem dL_law_589 : decode cL_law 589 = .ok (.lor, 1) := by decide +kernel
theorem dL_law_590 : decode cL_law 590 = .ok (.invokevirtual 69, 3) := by decide +kernel
theorem dL_law_593 : decode cL_law 593 = .ok (.if_icmp .eq 565, 3) := by decide +kernel
theorem dL_law_596 : decode cL_law 596 = .ok (.iconst 0, 1) := by decide +kernel
theorem dL_law_597 : decode cL_law 597 = .ok (.ireturn, 1) := by decide +kernel
theorem dL_law_598 : decode cL_law 598 = .ok (.aload_n 1, 1) := by decide +kernel
theorem dL_law_599 : decode cL_law 599 = .ok (.aload_n 0, 1) := by decide +kernel
theorem dL_law_600 : decode cL_law 600 = .ok (.iload_n 3, 1) := by decide +kernel
theorem dL_law_601 : decode cL_law 601 = .ok (.iconst 1, 1) := by decide +kernel
theorem dL_law_602 : decode cL_law 602 = .ok (.iadd, 1) := by decide +kernel
theorem dL_law_603 : decode cL_law 603 = .ok (.iaload, 1) := by decide +kernel
theorem dL_law_604 : decode cL_law 604 = .ok (.aload_n 0, 1) := by decide +kernel
theorem dL_law_605 : decode cL_law 605 = .ok (.iload_n 3, 1) := by decide +kernel
theorem dL_law_606 : decode cL_law 606 = .ok (.iconst 2, 1) := by decide +kernel
theorem dL_law_607 : decode cL_law 607 = .ok (.iadd, 1) := by decide +kernel
theorem dL_law_608 : decode cL_law 608 = .ok (.iaload, 1) := by decide +kernel
theorem dL_law_609 : decode cL_law 609 = .ok (.aload_n 0, 1) := by decide +kernel
theorem dL_law_610 : decode cL_law 610 = .ok (.iload_n 3, 1) := by decide +kernel
theorem dL_law_611 : decode cL_law 611 = .ok (.iconst 3, 1) := by decide +kernel
theorem dL_law_612 : decode cL_law 612 = .ok (.iadd, 1) := by decide +kernel
theorem dL_law_613 : decode cL_law 613 = .ok (.iaload, 1) := by decide +kernel
theorem dL_law_614 : decode cL_law 614 = .ok (.aload_n 0, 1) := by decide +kernel
theorem dL_law_615 : decode cL_law 615 = .ok (.iload_n 3, 1) := by decide +kernel
theorem dL_law_616 : decode cL_law 616 = .ok (.iconst 4, 1) := by decide +kernel
theorem dL_law_617 : decode cL_law 617 = .ok (.iadd, 1) := by decide +kernel
theorem dL_law_618 : decode cL_law 618 = .ok (.iaload, 1) := by decide +kernel
theorem dL_law_619 : decode cL_law 619 = .ok (.aload_n 0, 1) := by decide +kernel
theorem dL_law_620 : decode cL_law 620 = .ok (.iload_n 3, 1) := by decide +kernel
theorem dL_law_621 : decode cL_law 621 = .ok (.iconst 5, 1) := by decide +kernel
theorem dL_law_622 : decode cL_law 622 = .ok (.iadd, 1) := by decide +kernel
theorem dL_law_623 : decode cL_law 623 = .ok (.iaload, 1) := by decide +kernel
theorem dL_law_624 : decode cL_law 624 = .ok (.invokevirtual 70, 3) := by decide +kernel
theorem dL_law_627 : decode cL_law 627 = .ok (.aload_n 2, 1) := by decide +kernel
theorem dL_law_628 : decode cL_law 628 = .ok (.aload_n 0, 1) := by decide +kernel
theorem dL_law_629 : decode cL_law 629 = .ok (.iload_n 3, 1) := by decide +kernel
theorem dL_law_630 : decode cL_law 630 = .ok (.iconst 1, 1) := by decide +kernel
theorem dL_law_631 : decode cL_law 631 = .ok (.iadd, 1) := by decide +kernel
theorem dL_law_632 : decode cL_law 632 = .ok (.iaload, 1) := by decide +kernel
theorem dL_law_633 : decode cL_law 633 = .ok (.aload_n 0, 1) := by decide +kernel
theorem dL_law_634 : decode cL_law 634 = .ok (.iload_n 3, 1) := by decide +kernel
theorem dL_law_635 : decode cL_law 635 = .ok (.iconst 2, 1) := by decide +kernel
theorem dL_law_636 : decode cL_law 636 = .ok (.iadd, 1) := by decide +kernel
theorem dL_law_637 : decode cL_law 637 = .ok (.iaload, 1) := by decide +kernel
theorem dL_law_638 : decode cL_law 638 = .ok (.aload_n 0, 1) := by decide +kernel
theorem dL_law_639 : decode cL_law 639 = .ok (.iload_n 3, 1) := by decide +kernel
theorem dL_law_640 : decode cL_law 640 = .ok (.iconst 3, 1) := by decide +kernel
theorem dL_law_641 : decode cL_law 641 = .ok (.iadd, 1) := by decide +kernel
theorem dL_law_642 : decode cL_law 642 = .ok (.iaload, 1) := by decide +kernel
theorem dL_law_643 : decode cL_law 643 = .ok (.aload_n 0, 1) := by decide +kernel
theorem dL_law_644 : decode cL_law 644 = .ok (.iload_n 3, 1) := by decide +kernel
theorem dL_law_645 : decode cL_law 645 = .ok (.iconst 4, 1) := by decide +kernel
theorem dL_law_646 : decode cL_law 646 = .ok (.iadd, 1) := by decide +kernel
theorem dL_law_647 : decode cL_law 647 = .ok (.iaload, 1) := by decide +kernel
theorem dL_law_648 : decode cL_law 648 = .ok (.aload_n 0, 1) := by decide +kernel
theorem dL_law_649 : decode cL_law 649 = .ok (.iload_n 3, 1) := by decide +kernel
theorem dL_law_650 : decode cL_law 650 = .ok (.iconst 5, 1) := by decide +kernel
theorem dL_law_651 : decode cL_law 651 = .ok (.iadd, 1) := by decide +kernel
theorem dL_law_652 : decode cL_law 652 = .ok (.iaload, 1) := by decide +kernel
theorem dL_law_653 : decode cL_law 653 = .ok (.invokevirtual 74, 3) := by decide +kernel
theorem dL_law_656 : decode cL_law 656 = .ok (.if_icmp .eq 502, 3) := by decide +kernel
theorem dL_law_659 : decode cL_law 659 = .ok (.iconst 0, 1) := by decide +kernel
theorem dL_law_660 : decode cL_law 660 = .ok (.ireturn, 1) := by decide +kernel
theorem dL_law_661 : decode cL_law 661 = .ok (.aload_n 1, 1) := by decide +kernel
theorem dL_law_662 : decode cL_law 662 = .ok (.aload_n 0, 1) := by decide +kernel
theorem dL_law_663 : decode cL_law 663 = .ok (.iload_n 3, 1) := by decide +kernel
theorem dL_law_664 : decode cL_law 664 = .ok (.iconst 1, 1) := by decide +kernel
theorem dL_law_665 : decode cL_law 665 = .ok (.iadd, 1) := by decide +kernel
theorem dL_law_666 : decode cL_law 666 = .ok (.iaload, 1) := by decide +kernel
theorem dL_law_667 : decode cL_law 667 = .ok (.aload_n 0, 1) := by decide +kernel
theorem dL_law_668 : decode cL_law 668 = .ok (.iload_n 3, 1) := by decide +kernel
theorem dL_law_669 : decode cL_law 669 = .ok (.iconst 2, 1) := by decide +kernel
theorem dL_law_670 : decode cL_law 670 = .ok (.iadd, 1) := by decide +kernel
theorem dL_law_671 : decode cL_law 671 = .ok (.iaload, 1) := by decide +kernel
theorem dL_law_672 : decode cL_law 672 = .ok (.aload_n 0, 1) := by decide +kernel
theorem dL_law_673 : decode cL_law 673 = .ok (.iload_n 3, 1) := by decide +kernel
theorem dL_law_674 : decode cL_law 674 = .ok (.iconst 3, 1) := by decide +kernel
theorem dL_law_675 : decode cL_law 675 = .ok (.iadd, 1) := by decide +kernel
theorem dL_law_676 : decode cL_law 676 = .ok (.iaload, 1) := by decide +kernel
theorem dL_law_677 : decode cL_law 677 = .ok (.aload_n 0, 1) := by decide +kernel
theorem dL_law_678 : decode cL_law 678 = .ok (.iload_n 3, 1) := by decide +kernel
theorem dL_law_679 : decode cL_law 679 = .ok (.iconst 4, 1) := by decide +kernel
theorem dL_law_680 : decode cL_law 680 = .ok (.iadd, 1) := by decide +kernel
theorem dL_law_681 : decode cL_law 681 = .ok (.iaload, 1) := by decide +kernel
theorem dL_law_682 : decode cL_law 682 = .ok (.invokevirtual 75, 3) := by decide +kernel
theorem dL_law_685 : decode cL_law 685 = .ok (.aload_n 2, 1) := by decide +kernel
theorem dL_law_686 : decode cL_law 686 = .ok (.aload_n 0, 1) := by decide +kernel
theorem dL_law_687 : decode cL_law 687 = .ok (.iload_n 3, 1) := by decide +kernel
theorem dL_law_688 : decode cL_law 688 = .ok (.iconst 1, 1) := by decide +kernel
theorem dL_law_689 : decode cL_law 689 = .ok (.iadd, 1) := by decide +kernel
theorem dL_law_690 : decode cL_law 690 = .ok (.iaload, 1) := by decide +kernel
theorem dL_law_691 : decode cL_law 691 = .ok (.aload_n 0, 1) := by decide +kernel
theorem dL_law_692 : decode cL_law 692 = .ok (.iload_n 3, 1) := by decide +kernel
theorem dL_law_693 : decode cL_law 693 = .ok (.iconst 2, 1) := by decide +kernel
theorem dL_law_694 : decode cL_law 694 = .ok (.iadd, 1) := by decide +kernel
theorem dL_law_695 : decode cL_law 695 = .ok (.iaload, 1) := by decide +kernel
theorem dL_law_696 : decode cL_law 696 = .ok (.aload_n 0, 1) := by decide +kernel
theorem dL_law_697 : decode cL_law 697 = .ok (.iload_n 3, 1) := by decide +kernel
theorem dL_law_698 : decode cL_law 698 = .ok (.iconst 3, 1) := by decide +kernel
theorem dL_law_699 : decode cL_law 699 = .ok (.iadd, 1) := by decide +kernel
theorem dL_law_700 : decode cL_law 700 = .ok (.iaload, 1) := by decide +kernel
theorem dL_law_701 : decode cL_law 701 = .ok (.aload_n 0, 1) := by decide +kernel
theorem dL_law_702 : decode cL_law 702 = .ok (.iload_n 3, 1) := by decide +kernel
theorem dL_law_703 : decode cL_law 703 = .ok (.iconst 4, 1) := by decide +kernel
theorem dL_law_704 : decode cL_law 704 = .ok (.iadd, 1) := by decide +kernel
theorem dL_law_705 : decode cL_law 705 = .ok (.iaload, 1) := by decide +kernel
theorem dL_law_706 : decode cL_law 706 = .ok (.invokevirtual 79, 3) := by decide +kernel
theorem dL_law_709 : decode cL_law 709 = .ok (.if_icmp .eq 449, 3) := by decide +kernel
theorem dL_law_712 : decode cL_law 712 = .ok (.iconst 0, 1) := by decide +kernel
theorem dL_law_713 : decode cL_law 713 = .ok (.ireturn, 1) := by decide +kernel
theorem dL_law_714 : decode cL_law 714 = .ok (.aload_n 1, 1) := by decide +kernel
theorem dL_law_715 : decode cL_law 715 = .ok (.aload_n 0, 1) := by decide +kernel
theorem dL_law_716 : decode cL_law 716 = .ok (.iload_n 3, 1) := by decide +kernel
theorem dL_law_717 : decode cL_law 717 = .ok (.iconst 1, 1) := by decide +kernel
theorem dL_law_718 : decode cL_law 718 = .ok (.iadd, 1) := by decide +kernel
theorem dL_law_719 : decode cL_law 719 = .ok (.iaload, 1) := by decide +kernel
theorem dL_law_720 : decode cL_law 720 = .ok (.invokevirtual 80, 3) := by decide +kernel
theorem dL_law_723 : decode cL_law 723 = .ok (.aload_n 2, 1) := by decide +kernel
theorem dL_law_724 : decode cL_law 724 = .ok (.aload_n 0, 1) := by decide +kernel
theorem dL_law_725 : decode cL_law 725 = .ok (.iload_n 3, 1) := by decide +kernel
theorem dL_law_726 : decode cL_law 726 = .ok (.iconst 1, 1) := by decide +kernel
theorem dL_law_727 : decode cL_law 727 = .ok (.iadd, 1) := by decide +kernel
theorem dL_law_728 : decode cL_law 728 = .ok (.iaload, 1) := by decide +kernel
theorem dL_law_729 : decode cL_law 729 = .ok (.invokevirtual 83, 3) := by decide +kernel
theorem dL_law_732 : decode cL_law 732 = .ok (.if_icmp .eq 426, 3) := by decide +kernel
theorem dL_law_735 : decode cL_law 735 = .ok (.iconst 0, 1) := by decide +kernel
theorem dL_law_736 : decode cL_law 736 = .ok (.ireturn, 1) := by decide +kernel
theorem dL_law_737 : decode cL_law 737 = .ok (.aload_n 1, 1) := by decide +kernel
theorem dL_law_738 : decode cL_law 738 = .ok (.aload_n 0, 1) := by decide +kernel
theorem dL_law_739 : decode cL_law 739 = .ok (.iload_n 3, 1) := by decide +kernel
theorem dL_law_740 : decode cL_law 740 = .ok (.iconst 1, 1) := by decide +kernel
theorem dL_law_741 : decode cL_law 741 = .ok (.iadd, 1) := by decide +kernel
theorem dL_law_742 : decode cL_law 742 = .ok (.iaload, 1) := by decide +kernel
theorem dL_law_743 : decode cL_law 743 = .ok (.invokevirtual 84, 3) := by decide +kernel
theorem dL_law_746 : decode cL_law 746 = .ok (.aload_n 2, 1) := by decide +kernel
theorem dL_law_747 : decode cL_law 747 = .ok (.aload_n 0, 1) := by decide +kernel
theorem dL_law_748 : decode cL_law 748 = .ok (.iload_n 3, 1) := by decide +kernel
theorem dL_law_749 : decode cL_law 749 = .ok (.iconst 1, 1) := by decide +kernel
theorem dL_law_750 : decode cL_law 750 = .ok (.iadd, 1) := by decide +kernel
theorem dL_law_751 : decode cL_law 751 = .ok (.iaload, 1) := by decide +kernel
theorem dL_law_752 : decode cL_law 752 = .ok (.invokevirtual 87, 3) := by decide +kernel
theorem dL_law_755 : decode cL_law 755 = .ok (.if_icmp .eq 403, 3) := by decide +kernel
theorem dL_law_758 : decode cL_law 758 = .ok (.iconst 0, 1) := by decide +kernel
theorem dL_law_759 : decode cL_law 759 = .ok (.ireturn, 1) := by decide +kernel
theorem dL_law_760 : decode cL_law 760 = .ok (.aload_n 1, 1) := by decide +kernel
theorem dL_law_761 : decode cL_law 761 = .ok (.aload_n 0, 1) := by decide +kernel
theorem dL_law_762 : decode cL_law 762 = .ok (.iload_n 3, 1) := by decide +kernel
theorem dL_law_763 : decode cL_law 763 = .ok (.iconst 1, 1) := by decide +kernel
theorem dL_law_764 : decode cL_law 764 = .ok (.iadd, 1) := by decide +kernel
theorem dL_law_765 : decode cL_law 765 = .ok (.iaload, 1) := by decide +kernel
theorem dL_law_766 : decode cL_law 766 = .ok (.aload_n 0, 1) := by decide +kernel
theorem dL_law_767 : decode cL_law 767 = .ok (.iload_n 3, 1) := by decide +kernel
theorem dL_law_768 : decode cL_law 768 = .ok (.iconst 2, 1) := by decide +kernel
theorem dL_law_769 : decode cL_law 769 = .ok (.iadd, 1) := by decide +kernel
theorem dL_law_770 : decode cL_law 770 = .ok (.iaload, 1) := by decide +kernel
theorem dL_law_771 : decode cL_law 771 = .ok (.invokevirtual 88, 3) := by decide +kernel
theorem dL_law_774 : decode cL_law 774 = .ok (.aload_n 2, 1) := by decide +kernel
theorem dL_law_775 : decode cL_law 775 = .ok (.aload_n 0, 1) := by decide +kernel
theorem dL_law_776 : decode cL_law 776 = .ok (.iload_n 3, 1) := by decide +kernel
theorem dL_law_777 : decode cL_law 777 = .ok (.iconst 1, 1) := by decide +kernel
theorem dL_law_778 : decode cL_law 778 = .ok (.iadd, 1) := by decide +kernel
theorem dL_law_779 : decode cL_law 779 = .ok (.iaload, 1) := by decide +kernel
theorem dL_law_780 : decode cL_law 780 = .ok (.aload_n 0, 1) := by decide +kernel
theorem dL_law_781 : decode cL_law 781 = .ok (.iload_n 3, 1) := by decide +kernel
theorem dL_law_782 : decode cL_law 782 = .ok (.iconst 2, 1) := by decide +kernel
theorem dL_law_783 : decode cL_law 783 = .ok (.iadd, 1) := by decide +kernel
theorem dL_law_784 : decode cL_law 784 = .ok (.iaload, 1) := by decide +kernel
theorem dL_law_785 : decode cL_law 785 = .ok (.invokevirtual 91, 3) := by decide +kernel
theorem dL_law_788 : decode cL_law 788 = .ok (.if_icmp .eq 370, 3) := by decide +kernel
theorem dL_law_791 : decode cL_law 791 = .ok (.iconst 0, 1) := by decide +kernel
theorem dL_law_792 : decode cL_law 792 = .ok (.ireturn, 1) := by decide +kernel
theorem dL_law_793 : decode cL_law 793 = .ok (.aload_n 1, 1) := by decide +kernel
theorem dL_law_794 : decode cL_law 794 = .ok (.aload_n 0, 1) := by decide +kernel
theorem dL_law_795 : decode cL_law 795 = .ok (.iload_n 3, 1) := by decide +kernel
theorem dL_law_796 : decode cL_law 796 = .ok (.iconst 1, 1) := by decide +kernel
theorem dL_law_797 : decode cL_law 797 = .ok (.iadd, 1) := by decide +kernel
theorem dL_law_798 : decode cL_law 798 = .ok (.iaload, 1) := by decide +kernel
theorem dL_law_799 : decode cL_law 799 = .ok (.invokevirtual 92, 3) := by decide +kernel
theorem dL_law_802 : decode cL_law 802 = .ok (.aload_n 2, 1) := by decide +kernel
theorem dL_law_803 : decode cL_law 803 = .ok (.aload_n 0, 1) := by decide +kernel
theorem dL_law_804 : decode cL_law 804 = .ok (.iload_n 3, 1) := by decide +kernel
theorem dL_law_805 : decode cL_law 805 = .ok (.iconst 1, 1) := by decide +kernel
theorem dL_law_806 : decode cL_law 806 = .ok (.iadd, 1) := by decide +kernel
theorem dL_law_807 : decode cL_law 807 = .ok (.iaload, 1) := by decide +kernel
theorem dL_law_808 : decode cL_law 808 = .ok (.invokevirtual 96, 3) := by decide +kernel
theorem dL_law_811 : decode cL_law 811 = .ok (.lcmp, 1) := by decide +kernel
theorem dL_law_812 : decode cL_law 812 = .ok (.ifCond .eq 346, 3) := by decide +kernel
theorem dL_law_815 : decode cL_law 815 = .ok (.iconst 0, 1) := by decide +kernel
theorem dL_law_816 : decode cL_law 816 = .ok (.ireturn, 1) := by decide +kernel
theorem dL_law_817 : decode cL_law 817 = .ok (.aload_n 1, 1) := by decide +kernel
theorem dL_law_818 : decode cL_law 818 = .ok (.aload_n 0, 1) := by decide +kernel
theorem dL_law_819 : decode cL_law 819 = .ok (.iload_n 3, 1) := by decide +kernel
theorem dL_law_820 : decode cL_law 820 = .ok (.iconst 1, 1) := by decide +kernel
theorem dL_law_821 : decode cL_law 821 = .ok (.iadd, 1) := by decide +kernel
theorem dL_law_822 : decode cL_law 822 = .ok (.iaload, 1) := by decide +kernel
theorem dL_law_823 : decode cL_law 823 = .ok (.invokevirtual 97, 3) := by decide +kernel
theorem dL_law_826 : decode cL_law 826 = .ok (.aload_n 2, 1) := by decide +kernel
theorem dL_law_827 : decode cL_law 827 = .ok (.aload_n 0, 1) := by decide +kernel
theorem dL_law_828 : decode cL_law 828 = .ok (.iload_n 3, 1) := by decide +kernel
theorem dL_law_829 : decode cL_law 829 = .ok (.iconst 1, 1) := by decide +kernel
theorem dL_law_830 : decode cL_law 830 = .ok (.iadd, 1) := by decide +kernel
theorem dL_law_831 : decode cL_law 831 = .ok (.iaload, 1) := by decide +kernel
theorem dL_law_832 : decode cL_law 832 = .ok (.invokevirtual 100, 3) := by decide +kernel
theorem dL_law_835 : decode cL_law 835 = .ok (.if_icmp .eq 323, 3) := by decide +kernel
theorem dL_law_838 : decode cL_law 838 = .ok (.iconst 0, 1) := by decide +kernel
theorem dL_law_839 : decode cL_law 839 = .ok (.ireturn, 1) := by decide +kernel
theorem dL_law_840 : decode cL_law 840 = .ok (.aload_n 1, 1) := by decide +kernel
theorem dL_law_841 : decode cL_law 841 = .ok (.invokevirtual 101, 3) := by decide +kernel
theorem dL_law_844 : decode cL_law 844 = .ok (.aload_n 2, 1) := by decide +kernel
theorem dL_law_845 : decode cL_law 845 = .ok (.invokevirtual 104, 3) := by decide +kernel
theorem dL_law_848 : decode cL_law 848 = .ok (.if_icmp .eq 310, 3) := by decide +kernel
theorem dL_law_851 : decode cL_law 851 = .ok (.iconst 0, 1) := by decide +kernel
theorem dL_law_852 : decode cL_law 852 = .ok (.ireturn, 1) := by decide +kernel
theorem dL_law_853 : decode cL_law 853 = .ok (.aload_n 1, 1) := by decide +kernel
theorem dL_law_854 : decode cL_law 854 = .ok (.aload_n 0, 1) := by decide +kernel
theorem dL_law_855 : decode cL_law 855 = .ok (.iload_n 3, 1) := by decide +kernel
theorem dL_law_856 : decode cL_law 856 = .ok (.iconst 1, 1) := by decide +kernel
theorem dL_law_857 : decode cL_law 857 = .ok (.iadd, 1) := by decide +kernel
theorem dL_law_858 : decode cL_law 858 = .ok (.iaload, 1) := by decide +kernel
theorem dL_law_859 : decode cL_law 859 = .ok (.aload_n 0, 1) := by decide +kernel
theorem dL_law_860 : decode cL_law 860 = .ok (.iload_n 3, 1) := by decide +kernel
theorem dL_law_861 : decode cL_law 861 = .ok (.iconst 2, 1) := by decide +kernel
theorem dL_law_862 : decode cL_law 862 = .ok (.iadd, 1) := by decide +kernel
theorem dL_law_863 : decode cL_law 863 = .ok (.iaload, 1) := by decide +kernel
theorem dL_law_864 : decode cL_law 864 = .ok (.invokevirtual 105, 3) := by decide +kernel
theorem dL_law_867 : decode cL_law 867 = .ok (.aload_n 2, 1) := by decide +kernel
theorem dL_law_868 : decode cL_law 868 = .ok (.aload_n 0, 1) := by decide +kernel
theorem dL_law_869 : decode cL_law 869 = .ok (.iload_n 3, 1) := by decide +kernel
theorem dL_law_870 : decode cL_law 870 = .ok (.iconst 1, 1) := by decide +kernel
theorem dL_law_871 : decode cL_law 871 = .ok (.iadd, 1) := by decide +kernel
theorem dL_law_872 : decode cL_law 872 = .ok (.iaload, 1) := by decide +kernel
theorem dL_law_873 : decode cL_law 873 = .ok (.aload_n 0, 1) := by decide +kernel
theorem dL_law_874 : decode cL_law 874 = .ok (.iload_n 3, 1) := by decide +kernel
theorem dL_law_875 : decode cL_law 875 = .ok (.iconst 2, 1) := by decide +kernel
theorem dL_law_876 : decode cL_law 876 = .ok (.iadd, 1) := by decide +kernel
theorem dL_law_877 : decode cL_law 877 = .ok (.iaload, 1) := by decide +kernel
theorem dL_law_878 : decode cL_law 878 = .ok (.invokevirtual 109, 3) := by decide +kernel
theorem dL_law_881 : decode cL_law 881 = .ok (.lcmp, 1) := by decide +kernel
theorem dL_law_882 : decode cL_law 882 = .ok (.ifCond .eq 276, 3) := by decide +kernel
theorem dL_law_885 : decode cL_law 885 = .ok (.iconst 0, 1) := by decide +kernel
theorem dL_law_886 : decode cL_law 886 = .ok (.ireturn, 1) := by decide +kernel
theorem dL_law_887 : decode cL_law 887 = .ok (.aload_n 1, 1) := by decide +kernel
theorem dL_law_888 : decode cL_law 888 = .ok (.aload_n 0, 1) := by decide +kernel
theorem dL_law_889 : decode cL_law 889 = .ok (.iload_n 3, 1) := by decide +kernel
theorem dL_law_890 : decode cL_law 890 = .ok (.iconst 1, 1) := by decide +kernel
theorem dL_law_891 : decode cL_law 891 = .ok (.iadd, 1) := by decide +kernel
theorem dL_law_892 : decode cL_law 892 = .ok (.iaload, 1) := by decide +kernel
theorem dL_law_893 : decode cL_law 893 = .ok (.aload_n 0, 1) := by decide +kernel
theorem dL_law_894 : decode cL_law 894 = .ok (.iload_n 3, 1) := by decide +kernel
theorem dL_law_895 : decode cL_law 895 = .ok (.iconst 2, 1) := by decide +kernel
theorem dL_law_896 : decode cL_law 896 = .ok (.iadd, 1) := by decide +kernel
theorem dL_law_897 : decode cL_law 897 = .ok (.iaload, 1) := by decide +kernel
theorem dL_law_898 : decode cL_law 898 = .ok (.invokevirtual 110, 3) := by decide +kernel
theorem dL_law_901 : decode cL_law 901 = .ok (.aload_n 2, 1) := by decide +kernel
theorem dL_law_902 : decode cL_law 902 = .ok (.aload_n 0, 1) := by decide +kernel
theorem dL_law_903 : decode cL_law 903 = .ok (.iload_n 3, 1) := by decide +kernel
theorem dL_law_904 : decode cL_law 904 = .ok (.iconst 1, 1) := by decide +kernel
theorem dL_law_905 : decode cL_law 905 = .ok (.iadd, 1) := by decide +kernel
theorem dL_law_906 : decode cL_law 906 = .ok (.iaload, 1) := by decide +kernel
theorem dL_law_907 : decode cL_law 907 = .ok (.aload_n 0, 1) := by decide +kernel
theorem dL_law_908 : decode cL_law 908 = .ok (.iload_n 3, 1) := by decide +kernel
theorem dL_law_909 : decode cL_law 909 = .ok (.iconst 2, 1) := by decide +kernel
theorem dL_law_910 : decode cL_law 910 = .ok (.iadd, 1) := by decide +kernel
theorem dL_law_911 : decode cL_law 911 = .ok (.iaload, 1) := by decide +kernel
theorem dL_law_912 : decode cL_law 912 = .ok (.invokevirtual 113, 3) := by decide +kernel
theorem dL_law_915 : decode cL_law 915 = .ok (.lcmp, 1) := by decide +kernel
theorem dL_law_916 : decode cL_law 916 = .ok (.ifCond .eq 242, 3) := by decide +kernel
theorem dL_law_919 : decode cL_law 919 = .ok (.iconst 0, 1) := by decide +kernel
theorem dL_law_920 : decode cL_law 920 = .ok (.ireturn, 1) := by decide +kernel
theorem dL_law_921 : decode cL_law 921 = .ok (.aload_n 1, 1) := by decide +kernel
theorem dL_law_922 : decode cL_law 922 = .ok (.aload_n 0, 1) := by decide +kernel
theorem dL_law_923 : decode cL_law 923 = .ok (.iload_n 3, 1) := by decide +kernel
theorem dL_law_924 : decode cL_law 924 = .ok (.iconst 1, 1) := by decide +kernel
theorem dL_law_925 : decode cL_law 925 = .ok (.iadd, 1) := by decide +kernel
theorem dL_law_926 : decode cL_law 926 = .ok (.iaload, 1) := by decide +kernel
theorem dL_law_927 : decode cL_law 927 = .ok (.aload_n 0, 1) := by decide +kernel
theorem dL_law_928 : decode cL_law 928 = .ok (.iload_n 3, 1) := by decide +kernel
theorem dL_law_929 : decode cL_law 929 = .ok (.iconst 2, 1) := by decide +kernel
theorem dL_law_930 : decode cL_law 930 = .ok (.iadd, 1) := by decide +kernel
theorem dL_law_931 : decode cL_law 931 = .ok (.iaload, 1) := by decide +kernel
theorem dL_law_932 : decode cL_law 932 = .ok (.invokevirtual 114, 3) := by decide +kernel
theorem dL_law_935 : decode cL_law 935 = .ok (.aload_n 2, 1) := by decide +kernel
theorem dL_law_936 : decode cL_law 936 = .ok (.aload_n 0, 1) := by decide +kernel
theorem dL_law_937 : decode cL_law 937 = .ok (.iload_n 3, 1) := by decide +kernel
theorem dL_law_938 : decode cL_law 938 = .ok (.iconst 1, 1) := by decide +kernel
theorem dL_law_939 : decode cL_law 939 = .ok (.iadd, 1) := by decide +kernel
theorem dL_law_940 : decode cL_law 940 = .ok (.iaload, 1) := by decide +kernel
theorem dL_law_941 : decode cL_law 941 = .ok (.aload_n 0, 1) := by decide +kernel
theorem dL_law_942 : decode cL_law 942 = .ok (.iload_n 3, 1) := by decide +kernel
theorem dL_law_943 : decode cL_law 943 = .ok (.iconst 2, 1) := by decide +kernel
theorem dL_law_944 : decode cL_law 944 = .ok (.iadd, 1) := by decide +kernel
theorem dL_law_945 : decode cL_law 945 = .ok (.iaload, 1) := by decide +kernel
theorem dL_law_946 : decode cL_law 946 = .ok (.invokevirtual 117, 3) := by decide +kernel
theorem dL_law_949 : decode cL_law 949 = .ok (.if_icmp .eq 209, 3) := by decide +kernel
theorem dL_law_952 : decode cL_law 952 = .ok (.iconst 0, 1) := by decide +kernel
theorem dL_law_953 : decode cL_law 953 = .ok (.ireturn, 1) := by decide +kernel
theorem dL_law_954 : decode cL_law 954 = .ok (.aload_n 1, 1) := by decide +kernel
theorem dL_law_955 : decode cL_law 955 = .ok (.aload_n 0, 1) := by decide +kernel
theorem dL_law_956 : decode cL_law 956 = .ok (.iload_n 3, 1) := by decide +kernel
theorem dL_law_957 : decode cL_law 957 = .ok (.iconst 1, 1) := by decide +kernel
theorem dL_law_958 : decode cL_law 958 = .ok (.iadd, 1) := by decide +kernel
theorem dL_law_959 : decode cL_law 959 = .ok (.iaload, 1) := by decide +kernel
theorem dL_law_960 : decode cL_law 960 = .ok (.aload_n 0, 1) := by decide +kernel
theorem dL_law_961 : decode cL_law 961 = .ok (.iload_n 3, 1) := by decide +kernel
theorem dL_law_962 : decode cL_law 962 = .ok (.iconst 2, 1) := by decide +kernel
theorem dL_law_963 : decode cL_law 963 = .ok (.iadd, 1) := by decide +kernel
theorem dL_law_964 : decode cL_law 964 = .ok (.iaload, 1) := by decide +kernel
theorem dL_law_965 : decode cL_law 965 = .ok (.invokevirtual 118, 3) := by decide +kernel
theorem dL_law_968 : decode cL_law 968 = .ok (.aload_n 2, 1) := by decide +kernel
theorem dL_law_969 : decode cL_law 969 = .ok (.aload_n 0, 1) := by decide +kernel
theorem dL_law_970 : decode cL_law 970 = .ok (.iload_n 3, 1) := by decide +kernel
theorem dL_law_971 : decode cL_law 971 = .ok (.iconst 1, 1) := by decide +kernel
theorem dL_law_972 : decode cL_law 972 = .ok (.iadd, 1) := by decide +kernel
theorem dL_law_973 : decode cL_law 973 = .ok (.iaload, 1) := by decide +kernel
theorem dL_law_974 : decode cL_law 974 = .ok (.aload_n 0, 1) := by decide +kernel
theorem dL_law_975 : decode cL_law 975 = .ok (.iload_n 3, 1) := by decide +kernel
theorem dL_law_976 : decode cL_law 976 = .ok (.iconst 2, 1) := by decide +kernel
theorem dL_law_977 : decode cL_law 977 = .ok (.iadd, 1) := by decide +kernel
theorem dL_law_978 : decode cL_law 978 = .ok (.iaload, 1) := by decide +kernel
theorem dL_law_979 : decode cL_law 979 = .ok (.invokevirtual 121, 3) := by decide +kernel
theorem dL_law_982 : decode cL_law 982 = .ok (.if_icmp .eq 176, 3) := by decide +kernel
theorem dL_law_985 : decode cL_law 985 = .ok (.iconst 0, 1) := by decide +kernel
theorem dL_law_986 : decode cL_law 986 = .ok (.ireturn, 1) := by decide +kernel
theorem dL_law_987 : decode cL_law 987 = .ok (.aload_n 1, 1) := by decide +kernel
theorem dL_law_988 : decode cL_law 988 = .ok (.aload_n 0, 1) := by decide +kernel
theorem dL_law_989 : decode cL_law 989 = .ok (.iload_n 3, 1) := by decide +kernel
theorem dL_law_990 : decode cL_law 990 = .ok (.iconst 1, 1) := by decide +kernel
theorem dL_law_991 : decode cL_law 991 = .ok (.iadd, 1) := by decide +kernel
theorem dL_law_992 : decode cL_law 992 = .ok (.iaload, 1) := by decide +kernel
theorem dL_law_993 : decode cL_law 993 = .ok (.aload_n 0, 1) := by decide +kernel
theorem dL_law_994 : decode cL_law 994 = .ok (.iload_n 3, 1) := by decide +kernel
theorem dL_law_995 : decode cL_law 995 = .ok (.iconst 2, 1) := by decide +kernel
theorem dL_law_996 : decode cL_law 996 = .ok (.iadd, 1) := by decide +kernel
theorem dL_law_997 : decode cL_law 997 = .ok (.iaload, 1) := by decide +kernel
theorem dL_law_998 : decode cL_law 998 = .ok (.invokevirtual 122, 3) := by decide +kernel
theorem dL_law_1001 : decode cL_law 1001 = .ok (.aload_n 2, 1) := by decide +kernel
theorem dL_law_1002 : decode cL_law 1002 = .ok (.aload_n 0, 1) := by decide +kernel
theorem dL_law_1003 : decode cL_law 1003 = .ok (.iload_n 3, 1) := by decide +kernel
theorem dL_law_1004 : decode cL_law 1004 = .ok (.iconst 1, 1) := by decide +kernel
theorem dL_law_1005 : decode cL_law 1005 = .ok (.iadd, 1) := by decide +kernel
theorem dL_law_1006 : decode cL_law 1006 = .ok (.iaload, 1) := by decide +kernel
theorem dL_law_1007 : decode cL_law 1007 = .ok (.aload_n 0, 1) := by decide +kernel
theorem dL_law_1008 : decode cL_law 1008 = .ok (.iload_n 3, 1) := by decide +kernel
theorem dL_law_1009 : decode cL_law 1009 = .ok (.iconst 2, 1) := by decide +kernel
theorem dL_law_1010 : decode cL_law 1010 = .ok (.iadd, 1) := by decide +kernel
theorem dL_law_1011 : decode cL_law 1011 = .ok (.iaload, 1) := by decide +kernel
theorem dL_law_1012 : decode cL_law 1012 = .ok (.invokevirtual 125, 3) := by decide +kernel
theorem dL_law_1015 : decode cL_law 1015 = .ok (.if_icmp .eq 143, 3) := by decide +kernel
theorem dL_law_1018 : decode cL_law 1018 = .ok (.iconst 0, 1) := by decide +kernel
theorem dL_law_1019 : decode cL_law 1019 = .ok (.ireturn, 1) := by decide +kernel
theorem dL_law_1020 : decode cL_law 1020 = .ok (.aload_n 1, 1) := by decide +kernel
theorem dL_law_1021 : decode cL_law 1021 = .ok (.aload_n 0, 1) := by decide +kernel
theorem dL_law_1022 : decode cL_law 1022 = .ok (.iload_n 3, 1) := by decide +kernel
theorem dL_law_1023 : decode cL_law 1023 = .ok (.iconst 1, 1) := by decide +kernel
theorem dL_law_1024 : decode cL_law 1024 = .ok (.iadd, 1) := by decide +kernel
theorem dL_law_1025 : decode cL_law 1025 = .ok (.iaload, 1) := by decide +kernel
theorem dL_law_1026 : decode cL_law 1026 = .ok (.aload_n 0, 1) := by decide +kernel
theorem dL_law_1027 : decode cL_law 1027 = .ok (.iload_n 3, 1) := by decide +kernel
theorem dL_law_1028 : decode cL_law 1028 = .ok (.iconst 2, 1) := by decide +kernel
theorem dL_law_1029 : decode cL_law 1029 = .ok (.iadd, 1) := by decide +kernel
theorem dL_law_1030 : decode cL_law 1030 = .ok (.iaload, 1) := by decide +kernel
theorem dL_law_1031 : decode cL_law 1031 = .ok (.invokevirtual 126, 3) := by decide +kernel
theorem dL_law_1034 : decode cL_law 1034 = .ok (.aload_n 2, 1) := by decide +kernel
theorem dL_law_1035 : decode cL_law 1035 = .ok (.aload_n 0, 1) := by decide +kernel
theorem dL_law_1036 : decode cL_law 1036 = .ok (.iload_n 3, 1) := by decide +kernel
theorem dL_law_1037 : decode cL_law 1037 = .ok (.iconst 1, 1) := by decide +kernel
theorem dL_law_1038 : decode cL_law 1038 = .ok (.iadd, 1) := by decide +kernel
theorem dL_law_1039 : decode cL_law 1039 = .ok (.iaload, 1) := by decide +kernel
theorem dL_law_1040 : decode cL_law 1040 = .ok (.aload_n 0, 1) := by decide +kernel
theorem dL_law_1041 : decode cL_law 1041 = .ok (.iload_n 3, 1) := by decide +kernel
theorem dL_law_1042 : decode cL_law 1042 = .ok (.iconst 2, 1) := by decide +kernel
theorem dL_law_1043 : decode cL_law 1043 = .ok (.iadd, 1) := by decide +kernel
theorem dL_law_1044 : decode cL_law 1044 = .ok (.iaload, 1) := by decide +kernel
theorem dL_law_1045 : decode cL_law 1045 = .ok (.invokevirtual 129, 3) := by decide +kernel
theorem dL_law_1048 : decode cL_law 1048 = .ok (.if_icmp .eq 110, 3) := by decide +kernel
theorem dL_law_1051 : decode cL_law 1051 = .ok (.iconst 0, 1) := by decide +kernel
theorem dL_law_1052 : decode cL_law 1052 = .ok (.ireturn, 1) := by decide +kernel
theorem dL_law_1053 : decode cL_law 1053 = .ok (.aload_n 1, 1) := by decide +kernel
theorem dL_law_1054 : decode cL_law 1054 = .ok (.aload_n 0, 1) := by decide +kernel
theorem dL_law_1055 : decode cL_law 1055 = .ok (.iload_n 3, 1) := by decide +kernel
theorem dL_law_1056 : decode cL_law 1056 = .ok (.iconst 1, 1) := by decide +kernel
theorem dL_law_1057 : decode cL_law 1057 = .ok (.iadd, 1) := by decide +kernel
theorem dL_law_1058 : decode cL_law 1058 = .ok (.iaload, 1) := by decide +kernel
theorem dL_law_1059 : decode cL_law 1059 = .ok (.invokevirtual 130, 3) := by decide +kernel
theorem dL_law_1062 : decode cL_law 1062 = .ok (.aload_n 2, 1) := by decide +kernel
theorem dL_law_1063 : decode cL_law 1063 = .ok (.aload_n 0, 1) := by decide +kernel
theorem dL_law_1064 : decode cL_law 1064 = .ok (.iload_n 3, 1) := by decide +kernel
theorem dL_law_1065 : decode cL_law 1065 = .ok (.iconst 1, 1) := by decide +kernel
theorem dL_law_1066 : decode cL_law 1066 = .ok (.iadd, 1) := by decide +kernel
theorem dL_law_1067 : decode cL_law 1067 = .ok (.iaload, 1) := by decide +kernel
theorem dL_law_1068 : decode cL_law 1068 = .ok (.invokevirtual 133, 3) := by decide +kernel
theorem dL_law_1071 : decode cL_law 1071 = .ok (.if_icmp .eq 87, 3) := by decide +kernel
theorem dL_law_1074 : decode cL_law 1074 = .ok (.iconst 0, 1) := by decide +kernel
theorem dL_law_1075 : decode cL_law 1075 = .ok (.ireturn, 1) := by decide +kernel
theorem dL_law_1076 : decode cL_law 1076 = .ok (.aload_n 1, 1) := by decide +kernel
theorem dL_law_1077 : decode cL_law 1077 = .ok (.aload_n 0, 1) := by decide +kernel
theorem dL_law_1078 : decode cL_law 1078 = .ok (.iload_n 3, 1) := by decide +kernel
theorem dL_law_1079 : decode cL_law 1079 = .ok (.iconst 1, 1) := by decide +kernel
theorem dL_law_1080 : decode cL_law 1080 = .ok (.iadd, 1) := by decide +kernel
theorem dL_law_1081 : decode cL_law 1081 = .ok (.iaload, 1) := by decide +kernel
theorem dL_law_1082 : decode cL_law 1082 = .ok (.invokevirtual 134, 3) := by decide +kernel
theorem dL_law_1085 : decode cL_law 1085 = .ok (.aload_n 2, 1) := by decide +kernel
theorem dL_law_1086 : decode cL_law 1086 = .ok (.aload_n 0, 1) := by decide +kernel
theorem dL_law_1087 : decode cL_law 1087 = .ok (.iload_n 3, 1) := by decide +kernel
theorem dL_law_1088 : decode cL_law 1088 = .ok (.iconst 1, 1) := by decide +kernel
theorem dL_law_1089 : decode cL_law 1089 = .ok (.iadd, 1) := by decide +kernel
theorem dL_law_1090 : decode cL_law 1090 = .ok (.iaload, 1) := by decide +kernel
theorem dL_law_1091 : decode cL_law 1091 = .ok (.invokevirtual 137, 3) := by decide +kernel
theorem dL_law_1094 : decode cL_law 1094 = .ok (.if_icmp .eq 64, 3) := by decide +kernel
theorem dL_law_1097 : decode cL_law 1097 = .ok (.iconst 0, 1) := by decide +kernel
theorem dL_law_1098 : decode cL_law 1098 = .ok (.ireturn, 1) := by decide +kernel
theorem dL_law_1099 : decode cL_law 1099 = .ok (.aload_n 1, 1) := by decide +kernel
theorem dL_law_1100 : decode cL_law 1100 = .ok (.aload_n 0, 1) := by decide +kernel
theorem dL_law_1101 : decode cL_law 1101 = .ok (.iload_n 3, 1) := by decide +kernel
theorem dL_law_1102 : decode cL_law 1102 = .ok (.iconst 1, 1) := by decide +kernel
theorem dL_law_1103 : decode cL_law 1103 = .ok (.iadd, 1) := by decide +kernel
theorem dL_law_1104 : decode cL_law 1104 = .ok (.iaload, 1) := by decide +kernel
theorem dL_law_1105 : decode cL_law 1105 = .ok (.invokevirtual 138, 3) := by decide +kernel
theorem dL_law_1108 : decode cL_law 1108 = .ok (.aload_n 2, 1) := by decide +kernel
theorem dL_law_1109 : decode cL_law 1109 = .ok (.aload_n 0, 1) := by decide +kernel
theorem dL_law_1110 : decode cL_law 1110 = .ok (.iload_n 3, 1) := by decide +kernel
theorem dL_law_1111 : decode cL_law 1111 = .ok (.iconst 1, 1) := by decide +kernel
theorem dL_law_1112 : decode cL_law 1112 = .ok (.iadd, 1) := by decide +kernel
theorem dL_law_1113 : decode cL_law 1113 = .ok (.iaload, 1) := by decide +kernel
theorem dL_law_1114 : decode cL_law 1114 = .ok (.invokevirtual 141, 3) := by decide +kernel
theorem dL_law_1117 : decode cL_law 1117 = .ok (.if_icmp .eq 41, 3) := by decide +kernel
theorem dL_law_1120 : decode cL_law 1120 = .ok (.iconst 0, 1) := by decide +kernel
theorem dL_law_1121 : decode cL_law 1121 = .ok (.ireturn, 1) := by decide +kernel
theorem dL_law_1122 : decode cL_law 1122 = .ok (.aload_n 1, 1) := by decide +kernel
theorem dL_law_1123 : decode cL_law 1123 = .ok (.invokevirtual 142, 3) := by decide +kernel
theorem dL_law_1126 : decode cL_law 1126 = .ok (.aload_n 2, 1) := by decide +kernel
theorem dL_law_1127 : decode cL_law 1127 = .ok (.invokevirtual 146, 3) := by decide +kernel
theorem dL_law_1130 : decode cL_law 1130 = .ok (.if_icmp .eq 28, 3) := by decide +kernel
theorem dL_law_1133 : decode cL_law 1133 = .ok (.iconst 0, 1) := by decide +kernel
theorem dL_law_1134 : decode cL_law 1134 = .ok (.ireturn, 1) := by decide +kernel
theorem dL_law_1135 : decode cL_law 1135 = .ok (.aload_n 1, 1) := by decide +kernel
theorem dL_law_1136 : decode cL_law 1136 = .ok (.aload_n 0, 1) := by decide +kernel
theorem dL_law_1137 : decode cL_law 1137 = .ok (.iload_n 3, 1) := by decide +kernel
theorem dL_law_1138 : decode cL_law 1138 = .ok (.iconst 1, 1) := by decide +kernel
theorem dL_law_1139 : decode cL_law 1139 = .ok (.iadd, 1) := by decide +kernel
theorem dL_law_1140 : decode cL_law 1140 = .ok (.iaload, 1) := by decide +kernel
theorem dL_law_1141 : decode cL_law 1141 = .ok (.invokevirtual 147, 3) := by decide +kernel
theorem dL_law_1144 : decode cL_law 1144 = .ok (.aload_n 2, 1) := by decide +kernel
theorem dL_law_1145 : decode cL_law 1145 = .ok (.aload_n 0, 1) := by decide +kernel
theorem dL_law_1146 : decode cL_law 1146 = .ok (.iload_n 3, 1) := by decide +kernel
theorem dL_law_1147 : decode cL_law 1147 = .ok (.iconst 1, 1) := by decide +kernel
theorem dL_law_1148 : decode cL_law 1148 = .ok (.iadd, 1) := by decide +kernel
theorem dL_law_1149 : decode cL_law 1149 = .ok (.iaload, 1) := by decide +kernel
theorem dL_law_1150 : decode cL_law 1150 = .ok (.invokevirtual 150, 3) := by decide +kernel
theorem dL_law_1153 : decode cL_law 1153 = .ok (.if_icmp .eq 5, 3) := by decide +kernel
theorem dL_law_1156 : decode cL_law 1156 = .ok (.iconst 0, 1) := by decide +kernel
theorem dL_law_1157 : decode cL_law 1157 = .ok (.ireturn, 1) := by decide +kernel
theorem dL_law_1158 : decode cL_law 1158 = .ok (.iinc 3 6, 3) := by decide +kernel
theorem dL_law_1161 : decode cL_law 1161 = .ok (.goto (-1143), 3) := by decide +kernel
theorem dL_law_1164 : decode cL_law 1164 = .ok (.iconst 1, 1) := by decide +kernel
theorem dL_law_1165 : decode cL_law 1165 = .ok (.ireturn, 1) := by decide +kernel
end
section
def lw_g : List Cond := lw_tbl.filter goodWord
theorem gd_ {w : Cond} (h : w ∈ lw_tbl) (hg : goodWord w = true) : w ∈ lw_g := List.mem_filter.mpr ⟨h, hg⟩
theorem in_tb {w : Cond} (h : w ∈ tables_1) : w ∈ lw_tbl := List.mem_append_right _ h
theorem in_t1 {w : Cond} (h : w ∈ tables_1_1) : w ∈ lw_tbl := in_tb (List.mem_append_left _ h)
theorem in_t2 {w : Cond} (h : w ∈ tables_1_2) : w ∈ lw_tbl := in_tb (List.mem_append_right _ (List.mem_append_left _ h))
theorem in_t3 {w : Cond} (h : w ∈ tables_1_3) : w ∈ lw_tbl := in_tb (List.mem_append_right _ (List.mem_append_right _ (List.mem_append_left _ h)))
theorem in_t4 {w : Cond} (h : w ∈ tables_1_4) : w ∈ lw_tbl := in_tb (List.mem_append_right _ (List.mem_append_right _ (List.mem_append_right _ (List.mem_append_left _ h))))
theorem in_t5 {w : Cond} (h : w ∈ tables_1_5) : w ∈ lw_tbl := in_tb (List.mem_append_right _ (List.mem_append_right _ (List.mem_append_right _ (List.mem_append_right _ h))))
theorem ini_L : Cond.initialized RL ∈ lw_g := gd_ (in_t1 (List.mem_of_getElem? (i := 0) (by decide +kernel))) rfl
theorem ini_X3 : Cond.initialized RX3 ∈ lw_g := gd_ (in_t1 (List.mem_of_getElem? (i := 1) (by decide +kernel))) rfl
theorem ini_X4 : Cond.initialized RX4 ∈ lw_g := gd_ (in_t1 (List.mem_of_getElem? (i := 2) (by decide +kernel))) rfl
theorem ini_J6 : Cond.initialized RJ6 ∈ lw_g := gd_ (in_t1 (List.mem_of_getElem? (i := 3) (by decide +kernel))) rfl
theorem ini_X2 : Cond.initialized RX2 ∈ lw_g := gd_ (in_t1 (List.mem_of_getElem? (i := 4) (by decide +kernel))) rfl
theorem ini_X0 : Cond.initialized RX0 ∈ lw_g := gd_ (in_t1 (List.mem_of_getElem? (i := 5) (by decide +kernel))) rfl
theorem ini_X1 : Cond.initialized RX1 ∈ lw_g := gd_ (in_t1 (List.mem_of_getElem? (i := 6) (by decide +kernel))) rfl
theorem ini_J7 : Cond.initialized RJ7 ∈ lw_g := gd_ (in_t1 (List.mem_of_getElem? (i := 7) (by decide +kernel))) rfl
theorem ini_J10 : Cond.initialized RJ10 ∈ lw_g := gd_ (in_t1 (List.mem_of_getElem? (i := 8) (by decide +kernel))) rfl
theorem ini_J9 : Cond.initialized RJ9 ∈ lw_g := gd_ (in_t1 (List.mem_of_getElem? (i := 9) (by decide +kernel))) rfl
theorem cl_L_7 : Cond.classLink RL 7 RX3 ∈ lw_g := gd_ (in_t1 (List.mem_of_getElem? (i := 10) (by decide +kernel))) rfl
theorem ib_X3 : Cond.instantiable RX3 12 ∈ lw_g := gd_ (in_t1 (List.mem_of_getElem? (i := 11) (by decide +kernel))) rfl
theorem ml_L_9 : Cond.methodLink RL 9 yX3_init ∈ lw_g := gd_ (in_t1 (List.mem_of_getElem? (i := 12) (by decide +kernel))) rfl
theorem im_X3_init : Cond.instanceMethod yX3_init ∈ lw_g := gd_ (in_t1 (List.mem_of_getElem? (i := 13) (by decide +kernel))) rfl
theorem co_X3_init : Cond.code yX3_init cX3_init 1 (Option.none : Option Jvm.ClassFile.FieldType) ∈ lw_g := gd_ (in_t1 (List.mem_of_getElem? (i := 14) (by decide +kernel))) rfl
theorem ml_X3_1 : Cond.methodLink RX3 1 (⟨"java/lang/Object", "<init>", "()V"⟩ : MethodName) ∈ lw_g := gd_ (in_t1 (List.mem_of_getElem? (i := 15) (by decide +kernel))) rfl
theorem im_java_lang_Object_init_ : Cond.instanceMethod (⟨"java/lang/Object", "<init>", "()V"⟩ : MethodName) ∈ lw_g := gd_ (in_t1 (List.mem_of_getElem? (i := 16) (by decide +kernel))) rfl
theorem co_java_lang_Object_init_ : Cond.code (⟨"java/lang/Object", "<init>", "()V"⟩ : MethodName) object_method_1_code 1 (Option.none : Option Jvm.ClassFile.FieldType) ∈ lw_g := gd_ (in_t1 (List.mem_of_getElem? (i := 17) (by decide +kernel))) rfl
theorem cl_X3_9 : Cond.classLink RX3 9 RX2 ∈ lw_g := gd_ (in_t1 (List.mem_of_getElem? (i := 18) (by decide +kernel))) rfl
theorem aro_Jvm_ClassFile_FieldType_object_RingPost_Ring : Cond.arrayOver (Jvm.ClassFile.FieldType.object "RingPost$Ring") ∈ lw_tbl := in_t1 (List.mem_of_getElem? (i := 19) (by decide +kernel))
theorem cl_X3_15 : Cond.classLink RX3 15 RX1 ∈ lw_g := gd_ (in_t1 (List.mem_of_getElem? (i := 20) (by decide +kernel))) rfl
theorem aro_Jvm_ClassFile_FieldType_object_RingPost_Reader : Cond.arrayOver (Jvm.ClassFile.FieldType.object "RingPost$Reader") ∈ lw_tbl := in_t1 (List.mem_of_getElem? (i := 21) (by decide +kernel))
theorem fl_X3_11 : Cond.fieldLink RX3 11 "RingPost" "rings" "[LRingPost$Ring;" ∈ lw_g := gd_ (in_t1 (List.mem_of_getElem? (i := 22) (by decide +kernel))) rfl
theorem fl_X3_17 : Cond.fieldLink RX3 17 "RingPost" "readers" "[LRingPost$Reader;" ∈ lw_g := gd_ (in_t1 (List.mem_of_getElem? (i := 23) (by decide +kernel))) rfl
theorem fl_X3_21 : Cond.fieldLink RX3 21 "RingPost" "findings" "[I" ∈ lw_g := gd_ (in_t1 (List.mem_of_getElem? (i := 24) (by decide +kernel))) rfl
theorem fl_X3_25 : Cond.fieldLink RX3 25 "RingPost" "chain" "[I" ∈ lw_g := gd_ (in_t1 (List.mem_of_getElem? (i := 25) (by decide +kernel))) rfl
theorem fl_X3_45 : Cond.fieldLink RX3 45 "RingPost" "ringCount" "I" ∈ lw_g := gd_ (in_t1 (List.mem_of_getElem? (i := 26) (by decide +kernel))) rfl
theorem fl_X3_66 : Cond.fieldLink RX3 66 "RingPost" "readerCount" "I" ∈ lw_g := gd_ (in_t1 (List.mem_of_getElem? (i := 27) (by decide +kernel))) rfl
theorem fl_X3_51 : Cond.fieldLink RX3 51 "RingPost" "rowCount" "I" ∈ lw_g := gd_ (in_t1 (List.mem_of_getElem? (i := 28) (by decide +kernel))) rfl
theorem fl_X3_249 : Cond.fieldLink RX3 249 "RingPost" "latestFinding" "I" ∈ lw_g := gd_ (in_t1 (List.mem_of_getElem? (i := 29) (by decide +kernel))) rfl
theorem fl_X3_118 : Cond.fieldLink RX3 118 "RingPost" "chainLength" "I" ∈ lw_g := gd_ (in_t1 (List.mem_of_getElem? (i := 30) (by decide +kernel))) rfl
theorem fl_X3_125 : Cond.fieldLink RX3 125 "RingPost" "latestRefusal" "I" ∈ lw_g := gd_ (in_t1 (List.mem_of_getElem? (i := 31) (by decide +kernel))) rfl
theorem fl_X3_28 : Cond.fieldLink RX3 28 "RingPost" "latestBy" "I" ∈ lw_g := gd_ (in_t1 (List.mem_of_getElem? (i := 32) (by decide +kernel))) rfl
theorem fl_X3_41 : Cond.fieldLink RX3 41 "RingPost" "begun" "Z" ∈ lw_g := gd_ (in_t1 (List.mem_of_getElem? (i := 33) (by decide +kernel))) rfl
theorem arc_Jvm_ClassFile_FieldType_int : Cond.arrayClass Jvm.ClassFile.FieldType.int ∈ lw_g := gd_ (in_t1 (List.mem_of_getElem? (i := 59) (by decide +kernel))) rfl
theorem ml_L_13 : Cond.methodLink RL 13 yX3_ring ∈ lw_g := gd_ (in_t1 (List.mem_of_getElem? (i := 60) (by decide +kernel))) rfl
theorem im_X3_ring : Cond.instanceMethod yX3_ring ∈ lw_g := gd_ (in_t1 (List.mem_of_getElem? (i := 61) (by decide +kernel))) rfl
theorem se_X3_ring : Cond.selects RX3 yX3_ring yX3_ring ∈ lw_g := gd_ (in_t1 (List.mem_of_getElem? (i := 62) (by decide +kernel))) rfl
theorem co_X3_ring : Cond.code yX3_ring cX3_ring 3 (Option.some Jvm.ClassFile.FieldType.int) ∈ lw_g := gd_ (in_t1 (List.mem_of_getElem? (i := 63) (by decide +kernel))) rfl
theorem ml_X3_32 : Cond.methodLink RX3 32 yX3_finding ∈ lw_g := gd_ (in_t1 (List.mem_of_getElem? (i := 64) (by decide +kernel))) rfl
theorem im_X3_finding : Cond.instanceMethod yX3_finding ∈ lw_g := gd_ (in_t1 (List.mem_of_getElem? (i := 66) (by decide +kernel))) rfl
theorem co_X3_finding : Cond.code yX3_finding cX3_finding 2 (Option.some Jvm.ClassFile.FieldType.int) ∈ lw_g := gd_ (in_t1 (List.mem_of_getElem? (i := 67) (by decide +kernel))) rfl
theorem ml_X3_36 : Cond.methodLink RX3 36 yJ6_bitCount_0f7a4 ∈ lw_g := gd_ (in_t1 (List.mem_of_getElem? (i := 68) (by decide +kernel))) rfl
theorem sta_J6_bitCount_0f7a4 : Cond.static yJ6_bitCount_0f7a4 ∈ lw_g := gd_ (in_t1 (List.mem_of_getElem? (i := 69) (by decide +kernel))) rfl
theorem co_J6_bitCount_0f7a4 : Cond.code yJ6_bitCount_0f7a4 cJ6_bitCount_0f7a4 1 (Option.some Jvm.ClassFile.FieldType.int) ∈ lw_g := gd_ (in_t1 (List.mem_of_getElem? (i := 70) (by decide +kernel))) rfl
theorem cn_J6_265 : Cond.constant RJ6 265 (1431655765 : Int32) ∈ lw_g := gd_ (in_t1 (List.mem_of_getElem? (i := 71) (by decide +kernel))) rfl
theorem cn_J6_266 : Cond.constant RJ6 266 (858993459 : Int32) ∈ lw_g := gd_ (in_t1 (List.mem_of_getElem? (i := 72) (by decide +kernel))) rfl
theorem cn_J6_267 : Cond.constant RJ6 267 (252645135 : Int32) ∈ lw_g := gd_ (in_t1 (List.mem_of_getElem? (i := 73) (by decide +kernel))) rfl
theorem ib_X2 : Cond.instantiable RX2 7 ∈ lw_g := gd_ (in_t1 (List.mem_of_getElem? (i := 74) (by decide +kernel))) rfl
theorem ml_X3_48 : Cond.methodLink RX3 48 yX2_init ∈ lw_g := gd_ (in_t1 (List.mem_of_getElem? (i := 75) (by decide +kernel))) rfl
theorem im_X2_init : Cond.instanceMethod yX2_init ∈ lw_g := gd_ (in_t1 (List.mem_of_getElem? (i := 76) (by decide +kernel))) rfl
theorem co_X2_init : Cond.code yX2_init cX2_init 4 (Option.none : Option Jvm.ClassFile.FieldType) ∈ lw_g := gd_ (in_t1 (List.mem_of_getElem? (i := 77) (by decide +kernel))) rfl
theorem ml_X2_1 : Cond.methodLink RX2 1 (⟨"java/lang/Object", "<init>", "()V"⟩ : MethodName) ∈ lw_g := gd_ (in_t1 (List.mem_of_getElem? (i := 78) (by decide +kernel))) rfl
theorem cl_X2_16 : Cond.classLink RX2 16 RX0 ∈ lw_g := gd_ (in_t1 (List.mem_of_getElem? (i := 79) (by decide +kernel))) rfl
theorem aro_Jvm_ClassFile_FieldType_object_RingPost_Message : Cond.arrayOver (Jvm.ClassFile.FieldType.object "RingPost$Message") ∈ lw_tbl := in_t1 (List.mem_of_getElem? (i := 80) (by decide +kernel))
theorem ib_X0 : Cond.instantiable RX0 7 ∈ lw_g := gd_ (in_t1 (List.mem_of_getElem? (i := 81) (by decide +kernel))) rfl
theorem ml_X2_22 : Cond.methodLink RX2 22 yX0_init ∈ lw_g := gd_ (in_t1 (List.mem_of_getElem? (i := 82) (by decide +kernel))) rfl
theorem im_X0_init : Cond.instanceMethod yX0_init ∈ lw_g := gd_ (in_t1 (List.mem_of_getElem? (i := 83) (by decide +kernel))) rfl
theorem co_X0_init : Cond.code yX0_init cX0_init 1 (Option.none : Option Jvm.ClassFile.FieldType) ∈ lw_g := gd_ (in_t1 (List.mem_of_getElem? (i := 84) (by decide +kernel))) rfl
theorem ml_X0_3 : Cond.methodLink RX0 3 (⟨"java/lang/Object", "<init>", "()V"⟩ : MethodName) ∈ lw_g := gd_ (in_t1 (List.mem_of_getElem? (i := 85) (by decide +kernel))) rfl
theorem fl_X0_9 : Cond.fieldLink RX0 9 "RingPost$Message" "longs" "[J" ∈ lw_g := gd_ (in_t1 (List.mem_of_getElem? (i := 86) (by decide +kernel))) rfl
theorem fl_X3_135 : Cond.fieldLink RX3 135 "RingPost$Message" "longs" "[J" ∈ lw_g := gd_ (in_t1 (List.mem_of_getElem? (i := 87) (by decide +kernel))) rfl
theorem fl_X0_19 : Cond.fieldLink RX0 19 "RingPost$Message" "ring" "I" ∈ lw_g := gd_ (in_t1 (List.mem_of_getElem? (i := 88) (by decide +kernel))) rfl
theorem fl_X3_194 : Cond.fieldLink RX3 194 "RingPost$Message" "ring" "I" ∈ lw_g := gd_ (in_t1 (List.mem_of_getElem? (i := 89) (by decide +kernel))) rfl
theorem fl_X0_15 : Cond.fieldLink RX0 15 "RingPost$Message" "number" "I" ∈ lw_g := gd_ (in_t1 (List.mem_of_getElem? (i := 90) (by decide +kernel))) rfl
theorem fl_X1_106 : Cond.fieldLink RX1 106 "RingPost$Message" "number" "I" ∈ lw_g := gd_ (in_t1 (List.mem_of_getElem? (i := 91) (by decide +kernel))) rfl
theorem fl_X3_191 : Cond.fieldLink RX3 191 "RingPost$Message" "number" "I" ∈ lw_g := gd_ (in_t1 (List.mem_of_getElem? (i := 92) (by decide +kernel))) rfl
theorem fl_X0_22 : Cond.fieldLink RX0 22 "RingPost$Message" "stamp" "J" ∈ lw_g := gd_ (in_t1 (List.mem_of_getElem? (i := 93) (by decide +kernel))) rfl
theorem fl_X3_197 : Cond.fieldLink RX3 197 "RingPost$Message" "stamp" "J" ∈ lw_g := gd_ (in_t1 (List.mem_of_getElem? (i := 94) (by decide +kernel))) rfl
theorem fl_X0_26 : Cond.fieldLink RX0 26 "RingPost$Message" "key" "I" ∈ lw_g := gd_ (in_t1 (List.mem_of_getElem? (i := 95) (by decide +kernel))) rfl
theorem fl_X1_103 : Cond.fieldLink RX1 103 "RingPost$Message" "key" "I" ∈ lw_g := gd_ (in_t1 (List.mem_of_getElem? (i := 96) (by decide +kernel))) rfl
theorem fl_X3_200 : Cond.fieldLink RX3 200 "RingPost$Message" "key" "I" ∈ lw_g := gd_ (in_t1 (List.mem_of_getElem? (i := 97) (by decide +kernel))) rfl
theorem fl_X0_29 : Cond.fieldLink RX0 29 "RingPost$Message" "length" "I" ∈ lw_g := gd_ (in_t1 (List.mem_of_getElem? (i := 98) (by decide +kernel))) rfl
theorem fl_X3_203 : Cond.fieldLink RX3 203 "RingPost$Message" "length" "I" ∈ lw_g := gd_ (in_t1 (List.mem_of_getElem? (i := 99) (by decide +kernel))) rfl
theorem fl_X0_32 : Cond.fieldLink RX0 32 "RingPost$Message" "open" "Z" ∈ lw_g := gd_ (in_t1 (List.mem_of_getElem? (i := 100) (by decide +kernel))) rfl
theorem fl_X2_37 : Cond.fieldLink RX2 37 "RingPost$Message" "open" "Z" ∈ lw_g := gd_ (in_t1 (List.mem_of_getElem? (i := 101) (by decide +kernel))) rfl
theorem fl_X3_279 : Cond.fieldLink RX3 279 "RingPost$Message" "open" "Z" ∈ lw_g := gd_ (in_t1 (List.mem_of_getElem? (i := 102) (by decide +kernel))) rfl
theorem arc_Jvm_ClassFile_FieldType_long : Cond.arrayClass Jvm.ClassFile.FieldType.long ∈ lw_g := gd_ (in_t1 (List.mem_of_getElem? (i := 118) (by decide +kernel))) rfl
theorem fl_X2_7 : Cond.fieldLink RX2 7 "RingPost$Ring" "number" "I" ∈ lw_g := gd_ (in_t1 (List.mem_of_getElem? (i := 119) (by decide +kernel))) rfl
theorem fl_X3_98 : Cond.fieldLink RX3 98 "RingPost$Ring" "number" "I" ∈ lw_g := gd_ (in_t1 (List.mem_of_getElem? (i := 120) (by decide +kernel))) rfl
theorem fl_X1_61 : Cond.fieldLink RX1 61 "RingPost$Ring" "number" "I" ∈ lw_g := gd_ (in_t1 (List.mem_of_getElem? (i := 121) (by decide +kernel))) rfl
theorem fl_X2_13 : Cond.fieldLink RX2 13 "RingPost$Ring" "slots" "I" ∈ lw_g := gd_ (in_t1 (List.mem_of_getElem? (i := 122) (by decide +kernel))) rfl
theorem fl_X1_77 : Cond.fieldLink RX1 77 "RingPost$Ring" "slots" "I" ∈ lw_g := gd_ (in_t1 (List.mem_of_getElem? (i := 123) (by decide +kernel))) rfl
theorem fl_X3_169 : Cond.fieldLink RX3 169 "RingPost$Ring" "slots" "I" ∈ lw_g := gd_ (in_t1 (List.mem_of_getElem? (i := 124) (by decide +kernel))) rfl
theorem fl_X2_18 : Cond.fieldLink RX2 18 "RingPost$Ring" "row" "[LRingPost$Message;" ∈ lw_g := gd_ (in_t1 (List.mem_of_getElem? (i := 125) (by decide +kernel))) rfl
theorem fl_X2_30 : Cond.fieldLink RX2 30 "RingPost$Ring" "claimed" "I" ∈ lw_g := gd_ (in_t1 (List.mem_of_getElem? (i := 126) (by decide +kernel))) rfl
theorem fl_X1_74 : Cond.fieldLink RX1 74 "RingPost$Ring" "claimed" "I" ∈ lw_g := gd_ (in_t1 (List.mem_of_getElem? (i := 127) (by decide +kernel))) rfl
theorem fl_X3_162 : Cond.fieldLink RX3 162 "RingPost$Ring" "claimed" "I" ∈ lw_g := gd_ (in_t1 (List.mem_of_getElem? (i := 128) (by decide +kernel))) rfl
theorem fl_X2_48 : Cond.fieldLink RX2 48 "RingPost$Ring" "latestStamp" "J" ∈ lw_g := gd_ (in_t1 (List.mem_of_getElem? (i := 129) (by decide +kernel))) rfl
theorem fl_X3_183 : Cond.fieldLink RX3 183 "RingPost$Ring" "latestStamp" "J" ∈ lw_g := gd_ (in_t1 (List.mem_of_getElem? (i := 130) (by decide +kernel))) rfl
theorem fl_X2_27 : Cond.fieldLink RX2 27 "RingPost$Ring" "closed" "Z" ∈ lw_g := gd_ (in_t1 (List.mem_of_getElem? (i := 131) (by decide +kernel))) rfl
theorem fl_X3_155 : Cond.fieldLink RX3 155 "RingPost$Ring" "closed" "Z" ∈ lw_g := gd_ (in_t1 (List.mem_of_getElem? (i := 132) (by decide +kernel))) rfl
theorem fl_X2_23 : Cond.fieldLink RX2 23 "RingPost$Ring" "given" "Z" ∈ lw_g := gd_ (in_t1 (List.mem_of_getElem? (i := 133) (by decide +kernel))) rfl
theorem fl_X1_70 : Cond.fieldLink RX1 70 "RingPost$Ring" "given" "Z" ∈ lw_g := gd_ (in_t1 (List.mem_of_getElem? (i := 134) (by decide +kernel))) rfl
theorem fl_X3_128 : Cond.fieldLink RX3 128 "RingPost$Ring" "given" "Z" ∈ lw_g := gd_ (in_t1 (List.mem_of_getElem? (i := 135) (by decide +kernel))) rfl
theorem ml_L_18 : Cond.methodLink RL 18 yX3_reader ∈ lw_g := gd_ (in_t1 (List.mem_of_getElem? (i := 151) (by decide +kernel))) rfl
theorem im_X3_reader : Cond.instanceMethod yX3_reader ∈ lw_g := gd_ (in_t1 (List.mem_of_getElem? (i := 152) (by decide +kernel))) rfl
theorem se_X3_reader : Cond.selects RX3 yX3_reader yX3_reader ∈ lw_g := gd_ (in_t1 (List.mem_of_getElem? (i := 153) (by decide +kernel))) rfl
theorem co_X3_reader : Cond.code yX3_reader cX3_reader 6 (Option.some Jvm.ClassFile.FieldType.int) ∈ lw_g := gd_ (in_t1 (List.mem_of_getElem? (i := 154) (by decide +kernel))) rfl
theorem ml_X3_54 : Cond.methodLink RX3 54 yX3_ringAt ∈ lw_g := gd_ (in_t1 (List.mem_of_getElem? (i := 155) (by decide +kernel))) rfl
theorem im_X3_ringAt : Cond.instanceMethod yX3_ringAt ∈ lw_g := gd_ (in_t1 (List.mem_of_getElem? (i := 157) (by decide +kernel))) rfl
theorem co_X3_ringAt : Cond.code yX3_ringAt cX3_ringAt 2 (Option.some (Jvm.ClassFile.FieldType.object "RingPost$Ring")) ∈ lw_g := gd_ (in_t1 (List.mem_of_getElem? (i := 158) (by decide +kernel))) rfl
theorem ml_X3_58 : Cond.methodLink RX3 58 yX3_otherMayBe ∈ lw_g := gd_ (in_t1 (List.mem_of_getElem? (i := 159) (by decide +kernel))) rfl
theorem im_X3_otherMayBe : Cond.instanceMethod yX3_otherMayBe ∈ lw_g := gd_ (in_t1 (List.mem_of_getElem? (i := 161) (by decide +kernel))) rfl
theorem co_X3_otherMayBe : Cond.code yX3_otherMayBe cX3_otherMayBe 4 (Option.some Jvm.ClassFile.FieldType.boolean) ∈ lw_g := gd_ (in_t1 (List.mem_of_getElem? (i := 162) (by decide +kernel))) rfl
theorem ml_X3_73 : Cond.methodLink RX3 73 yX3_readerAt ∈ lw_g := gd_ (in_t1 (List.mem_of_getElem? (i := 163) (by decide +kernel))) rfl
theorem im_X3_readerAt : Cond.instanceMethod yX3_readerAt ∈ lw_g := gd_ (in_t1 (List.mem_of_getElem? (i := 165) (by decide +kernel))) rfl
theorem co_X3_readerAt : Cond.code yX3_readerAt cX3_readerAt 2 (Option.some (Jvm.ClassFile.FieldType.object "RingPost$Reader")) ∈ lw_g := gd_ (in_t1 (List.mem_of_getElem? (i := 166) (by decide +kernel))) rfl
theorem ml_X3_62 : Cond.methodLink RX3 62 yX3_placeOf ∈ lw_g := gd_ (in_t1 (List.mem_of_getElem? (i := 167) (by decide +kernel))) rfl
theorem im_X3_placeOf : Cond.instanceMethod yX3_placeOf ∈ lw_g := gd_ (in_t1 (List.mem_of_getElem? (i := 169) (by decide +kernel))) rfl
theorem co_X3_placeOf : Cond.code yX3_placeOf cX3_placeOf 4 (Option.some Jvm.ClassFile.FieldType.int) ∈ lw_g := gd_ (in_t1 (List.mem_of_getElem? (i := 170) (by decide +kernel))) rfl
theorem ml_X3_80 : Cond.methodLink RX3 80 yX1_placeIn ∈ lw_g := gd_ (in_t1 (List.mem_of_getElem? (i := 171) (by decide +kernel))) rfl
theorem im_X1_placeIn : Cond.instanceMethod yX1_placeIn ∈ lw_g := gd_ (in_t1 (List.mem_of_getElem? (i := 172) (by decide +kernel))) rfl
theorem se_X1_placeIn : Cond.selects RX1 yX1_placeIn yX1_placeIn ∈ lw_g := gd_ (in_t1 (List.mem_of_getElem? (i := 173) (by decide +kernel))) rfl
theorem co_X1_placeIn : Cond.code yX1_placeIn cX1_placeIn 2 (Option.some Jvm.ClassFile.FieldType.int) ∈ lw_g := gd_ (in_t1 (List.mem_of_getElem? (i := 174) (by decide +kernel))) rfl
theorem ml_X3_69 : Cond.methodLink RX3 69 yX3_newReader ∈ lw_g := gd_ (in_t1 (List.mem_of_getElem? (i := 175) (by decide +kernel))) rfl
theorem im_X3_newReader : Cond.instanceMethod yX3_newReader ∈ lw_g := gd_ (in_t1 (List.mem_of_getElem? (i := 177) (by decide +kernel))) rfl
theorem co_X3_newReader : Cond.code yX3_newReader cX3_newReader 5 (Option.some (Jvm.ClassFile.FieldType.object "RingPost$Reader")) ∈ lw_g := gd_ (in_t1 (List.mem_of_getElem? (i := 178) (by decide +kernel))) rfl
theorem ib_X1 : Cond.instantiable RX1 15 ∈ lw_g := gd_ (in_t1 (List.mem_of_getElem? (i := 179) (by decide +kernel))) rfl
theorem ml_X3_252 : Cond.methodLink RX3 252 yX1_init ∈ lw_g := gd_ (in_t1 (List.mem_of_getElem? (i := 180) (by decide +kernel))) rfl
theorem im_X1_init : Cond.instanceMethod yX1_init ∈ lw_g := gd_ (in_t1 (List.mem_of_getElem? (i := 181) (by decide +kernel))) rfl
theorem co_X1_init : Cond.code yX1_init cX1_init 5 (Option.none : Option Jvm.ClassFile.FieldType) ∈ lw_g := gd_ (in_t1 (List.mem_of_getElem? (i := 182) (by decide +kernel))) rfl
theorem ml_X1_3 : Cond.methodLink RX1 3 (⟨"java/lang/Object", "<init>", "()V"⟩ : MethodName) ∈ lw_g := gd_ (in_t1 (List.mem_of_getElem? (i := 183) (by decide +kernel))) rfl
theorem cl_X1_22 : Cond.classLink RX1 22 RX0 ∈ lw_g := gd_ (in_t1 (List.mem_of_getElem? (i := 184) (by decide +kernel))) rfl
theorem ml_X1_24 : Cond.methodLink RX1 24 yX0_init ∈ lw_g := gd_ (in_t1 (List.mem_of_getElem? (i := 185) (by decide +kernel))) rfl
theorem ml_X1_33 : Cond.methodLink RX1 33 yJ7_fill_53178 ∈ lw_g := gd_ (in_t1 (List.mem_of_getElem? (i := 186) (by decide +kernel))) rfl
theorem sta_J7_fill_53178 : Cond.static yJ7_fill_53178 ∈ lw_g := gd_ (in_t1 (List.mem_of_getElem? (i := 187) (by decide +kernel))) rfl
theorem co_J7_fill_53178 : Cond.code yJ7_fill_53178 cJ7_fill_53178 4 (Option.none : Option Jvm.ClassFile.FieldType) ∈ lw_g := gd_ (in_t1 (List.mem_of_getElem? (i := 188) (by decide +kernel))) rfl
theorem fl_X1_9 : Cond.fieldLink RX1 9 "RingPost$Reader" "kind" "I" ∈ lw_g := gd_ (in_t1 (List.mem_of_getElem? (i := 189) (by decide +kernel))) rfl
theorem fl_X3_77 : Cond.fieldLink RX3 77 "RingPost$Reader" "kind" "I" ∈ lw_g := gd_ (in_t1 (List.mem_of_getElem? (i := 190) (by decide +kernel))) rfl
theorem fl_X1_15 : Cond.fieldLink RX1 15 "RingPost$Reader" "home" "LRingPost$Ring;" ∈ lw_g := gd_ (in_t1 (List.mem_of_getElem? (i := 191) (by decide +kernel))) rfl
theorem fl_X3_94 : Cond.fieldLink RX3 94 "RingPost$Reader" "home" "LRingPost$Ring;" ∈ lw_g := gd_ (in_t1 (List.mem_of_getElem? (i := 192) (by decide +kernel))) rfl
theorem fl_X1_19 : Cond.fieldLink RX1 19 "RingPost$Reader" "target" "LRingPost$Ring;" ∈ lw_g := gd_ (in_t1 (List.mem_of_getElem? (i := 193) (by decide +kernel))) rfl
theorem fl_X3_228 : Cond.fieldLink RX3 228 "RingPost$Reader" "target" "LRingPost$Ring;" ∈ lw_g := gd_ (in_t1 (List.mem_of_getElem? (i := 194) (by decide +kernel))) rfl
theorem fl_X1_25 : Cond.fieldLink RX1 25 "RingPost$Reader" "kept" "LRingPost$Message;" ∈ lw_g := gd_ (in_t1 (List.mem_of_getElem? (i := 195) (by decide +kernel))) rfl
theorem fl_X3_141 : Cond.fieldLink RX3 141 "RingPost$Reader" "kept" "LRingPost$Message;" ∈ lw_g := gd_ (in_t1 (List.mem_of_getElem? (i := 196) (by decide +kernel))) rfl
theorem fl_X1_29 : Cond.fieldLink RX1 29 "RingPost$Reader" "places" "[I" ∈ lw_g := gd_ (in_t1 (List.mem_of_getElem? (i := 197) (by decide +kernel))) rfl
theorem fl_X1_39 : Cond.fieldLink RX1 39 "RingPost$Reader" "names" "[I" ∈ lw_g := gd_ (in_t1 (List.mem_of_getElem? (i := 198) (by decide +kernel))) rfl
theorem fl_X3_221 : Cond.fieldLink RX3 221 "RingPost$Reader" "names" "[I" ∈ lw_g := gd_ (in_t1 (List.mem_of_getElem? (i := 199) (by decide +kernel))) rfl
theorem fl_X1_42 : Cond.fieldLink RX1 42 "RingPost$Reader" "entries" "[LRingPost$Message;" ∈ lw_g := gd_ (in_t1 (List.mem_of_getElem? (i := 200) (by decide +kernel))) rfl
theorem fl_X3_224 : Cond.fieldLink RX3 224 "RingPost$Reader" "entries" "[LRingPost$Message;" ∈ lw_g := gd_ (in_t1 (List.mem_of_getElem? (i := 201) (by decide +kernel))) rfl
theorem fl_X3_83 : Cond.fieldLink RX3 83 "RingPost$Reader" "placeCount" "I" ∈ lw_g := gd_ (in_t1 (List.mem_of_getElem? (i := 202) (by decide +kernel))) rfl
theorem fl_X1_58 : Cond.fieldLink RX1 58 "RingPost$Reader" "placeCount" "I" ∈ lw_g := gd_ (in_t1 (List.mem_of_getElem? (i := 203) (by decide +kernel))) rfl
theorem fl_X1_55 : Cond.fieldLink RX1 55 "RingPost$Reader" "nameCount" "I" ∈ lw_g := gd_ (in_t1 (List.mem_of_getElem? (i := 204) (by decide +kernel))) rfl
theorem fl_X3_105 : Cond.fieldLink RX3 105 "RingPost$Reader" "nameCount" "I" ∈ lw_g := gd_ (in_t1 (List.mem_of_getElem? (i := 205) (by decide +kernel))) rfl
theorem fl_X1_52 : Cond.fieldLink RX1 52 "RingPost$Reader" "nameBits" "I" ∈ lw_g := gd_ (in_t1 (List.mem_of_getElem? (i := 206) (by decide +kernel))) rfl
theorem fl_X3_258 : Cond.fieldLink RX3 258 "RingPost$Reader" "nameBits" "I" ∈ lw_g := gd_ (in_t1 (List.mem_of_getElem? (i := 207) (by decide +kernel))) rfl
theorem fl_X1_100 : Cond.fieldLink RX1 100 "RingPost$Reader" "entryCount" "I" ∈ lw_g := gd_ (in_t1 (List.mem_of_getElem? (i := 208) (by decide +kernel))) rfl
theorem fl_X3_215 : Cond.fieldLink RX3 215 "RingPost$Reader" "entryCount" "I" ∈ lw_g := gd_ (in_t1 (List.mem_of_getElem? (i := 209) (by decide +kernel))) rfl
theorem fl_X1_97 : Cond.fieldLink RX1 97 "RingPost$Reader" "gotCount" "I" ∈ lw_g := gd_ (in_t1 (List.mem_of_getElem? (i := 210) (by decide +kernel))) rfl
theorem fl_X3_218 : Cond.fieldLink RX3 218 "RingPost$Reader" "gotCount" "I" ∈ lw_g := gd_ (in_t1 (List.mem_of_getElem? (i := 211) (by decide +kernel))) rfl
theorem fl_X1_90 : Cond.fieldLink RX1 90 "RingPost$Reader" "missedCount" "I" ∈ lw_g := gd_ (in_t1 (List.mem_of_getElem? (i := 212) (by decide +kernel))) rfl
theorem fl_X3_206 : Cond.fieldLink RX3 206 "RingPost$Reader" "missedCount" "I" ∈ lw_g := gd_ (in_t1 (List.mem_of_getElem? (i := 213) (by decide +kernel))) rfl
theorem fl_X1_46 : Cond.fieldLink RX1 46 "RingPost$Reader" "spanFirst" "I" ∈ lw_g := gd_ (in_t1 (List.mem_of_getElem? (i := 214) (by decide +kernel))) rfl
theorem fl_X3_209 : Cond.fieldLink RX3 209 "RingPost$Reader" "spanFirst" "I" ∈ lw_g := gd_ (in_t1 (List.mem_of_getElem? (i := 215) (by decide +kernel))) rfl
theorem fl_X1_49 : Cond.fieldLink RX1 49 "RingPost$Reader" "spanLast" "I" ∈ lw_g := gd_ (in_t1 (List.mem_of_getElem? (i := 216) (by decide +kernel))) rfl
theorem fl_X3_212 : Cond.fieldLink RX3 212 "RingPost$Reader" "spanLast" "I" ∈ lw_g := gd_ (in_t1 (List.mem_of_getElem? (i := 217) (by decide +kernel))) rfl
theorem ml_X3_86 : Cond.methodLink RX3 86 yX1_standIn ∈ lw_g := gd_ (in_t2 (List.mem_of_getElem? (i := 9) (by decide +kernel))) rfl
theorem im_X1_standIn : Cond.instanceMethod yX1_standIn ∈ lw_g := gd_ (in_t2 (List.mem_of_getElem? (i := 10) (by decide +kernel))) rfl
theorem se_X1_standIn : Cond.selects RX1 yX1_standIn yX1_standIn ∈ lw_g := gd_ (in_t2 (List.mem_of_getElem? (i := 11) (by decide +kernel))) rfl
theorem co_X1_standIn : Cond.code yX1_standIn cX1_standIn 2 (Option.none : Option Jvm.ClassFile.FieldType) ∈ lw_g := gd_ (in_t2 (List.mem_of_getElem? (i := 12) (by decide +kernel))) rfl
theorem ml_X3_115 : Cond.methodLink RX3 115 yX1_addName ∈ lw_g := gd_ (in_t2 (List.mem_of_getElem? (i := 13) (by decide +kernel))) rfl
theorem im_X1_addName : Cond.instanceMethod yX1_addName ∈ lw_g := gd_ (in_t2 (List.mem_of_getElem? (i := 14) (by decide +kernel))) rfl
theorem se_X1_addName : Cond.selects RX1 yX1_addName yX1_addName ∈ lw_g := gd_ (in_t2 (List.mem_of_getElem? (i := 15) (by decide +kernel))) rfl
theorem co_X1_addName : Cond.code yX1_addName cX1_addName 2 (Option.none : Option Jvm.ClassFile.FieldType) ∈ lw_g := gd_ (in_t2 (List.mem_of_getElem? (i := 16) (by decide +kernel))) rfl
theorem ml_L_23 : Cond.methodLink RL 23 yX3_join ∈ lw_g := gd_ (in_t2 (List.mem_of_getElem? (i := 17) (by decide +kernel))) rfl
theorem im_X3_join : Cond.instanceMethod yX3_join ∈ lw_g := gd_ (in_t2 (List.mem_of_getElem? (i := 18) (by decide +kernel))) rfl
theorem se_X3_join : Cond.selects RX3 yX3_join yX3_join ∈ lw_g := gd_ (in_t2 (List.mem_of_getElem? (i := 19) (by decide +kernel))) rfl
theorem co_X3_join : Cond.code yX3_join cX3_join 4 (Option.some Jvm.ClassFile.FieldType.int) ∈ lw_g := gd_ (in_t2 (List.mem_of_getElem? (i := 20) (by decide +kernel))) rfl
theorem ml_L_28 : Cond.methodLink RL 28 yX3_name ∈ lw_g := gd_ (in_t2 (List.mem_of_getElem? (i := 21) (by decide +kernel))) rfl
theorem im_X3_name : Cond.instanceMethod yX3_name ∈ lw_g := gd_ (in_t2 (List.mem_of_getElem? (i := 22) (by decide +kernel))) rfl
theorem se_X3_name : Cond.selects RX3 yX3_name yX3_name ∈ lw_g := gd_ (in_t2 (List.mem_of_getElem? (i := 23) (by decide +kernel))) rfl
theorem co_X3_name : Cond.code yX3_name cX3_name 4 (Option.some Jvm.ClassFile.FieldType.int) ∈ lw_g := gd_ (in_t2 (List.mem_of_getElem? (i := 24) (by decide +kernel))) rfl
theorem ml_X3_90 : Cond.methodLink RX3 90 yX1_mayName ∈ lw_g := gd_ (in_t2 (List.mem_of_getElem? (i := 25) (by decide +kernel))) rfl
theorem im_X1_mayName : Cond.instanceMethod yX1_mayName ∈ lw_g := gd_ (in_t2 (List.mem_of_getElem? (i := 26) (by decide +kernel))) rfl
theorem se_X1_mayName : Cond.selects RX1 yX1_mayName yX1_mayName ∈ lw_g := gd_ (in_t2 (List.mem_of_getElem? (i := 27) (by decide +kernel))) rfl
theorem co_X1_mayName : Cond.code yX1_mayName cX1_mayName 1 (Option.some Jvm.ClassFile.FieldType.boolean) ∈ lw_g := gd_ (in_t2 (List.mem_of_getElem? (i := 28) (by decide +kernel))) rfl
theorem ml_X3_101 : Cond.methodLink RX3 101 yX1_isNaming ∈ lw_g := gd_ (in_t2 (List.mem_of_getElem? (i := 29) (by decide +kernel))) rfl
theorem im_X1_isNaming : Cond.instanceMethod yX1_isNaming ∈ lw_g := gd_ (in_t2 (List.mem_of_getElem? (i := 30) (by decide +kernel))) rfl
theorem se_X1_isNaming : Cond.selects RX1 yX1_isNaming yX1_isNaming ∈ lw_g := gd_ (in_t2 (List.mem_of_getElem? (i := 31) (by decide +kernel))) rfl
theorem co_X1_isNaming : Cond.code yX1_isNaming cX1_isNaming 2 (Option.some Jvm.ClassFile.FieldType.boolean) ∈ lw_g := gd_ (in_t2 (List.mem_of_getElem? (i := 32) (by decide +kernel))) rfl
theorem ml_X3_108 : Cond.methodLink RX3 108 yX3_leadsTo ∈ lw_g := gd_ (in_t2 (List.mem_of_getElem? (i := 33) (by decide +kernel))) rfl
theorem im_X3_leadsTo : Cond.instanceMethod yX3_leadsTo ∈ lw_g := gd_ (in_t2 (List.mem_of_getElem? (i := 35) (by decide +kernel))) rfl
theorem co_X3_leadsTo : Cond.code yX3_leadsTo cX3_leadsTo 5 (Option.some Jvm.ClassFile.FieldType.boolean) ∈ lw_g := gd_ (in_t2 (List.mem_of_getElem? (i := 36) (by decide +kernel))) rfl
theorem ml_X3_255 : Cond.methodLink RX3 255 yX3_namesOfAll ∈ lw_g := gd_ (in_t2 (List.mem_of_getElem? (i := 37) (by decide +kernel))) rfl
theorem im_X3_namesOfAll : Cond.instanceMethod yX3_namesOfAll ∈ lw_g := gd_ (in_t2 (List.mem_of_getElem? (i := 39) (by decide +kernel))) rfl
theorem co_X3_namesOfAll : Cond.code yX3_namesOfAll cX3_namesOfAll 5 (Option.some Jvm.ClassFile.FieldType.int) ∈ lw_g := gd_ (in_t2 (List.mem_of_getElem? (i := 40) (by decide +kernel))) rfl
theorem ml_X3_112 : Cond.methodLink RX3 112 yX3_keepCircle ∈ lw_g := gd_ (in_t2 (List.mem_of_getElem? (i := 41) (by decide +kernel))) rfl
theorem im_X3_keepCircle : Cond.instanceMethod yX3_keepCircle ∈ lw_g := gd_ (in_t2 (List.mem_of_getElem? (i := 43) (by decide +kernel))) rfl
theorem co_X3_keepCircle : Cond.code yX3_keepCircle cX3_keepCircle 5 (Option.none : Option Jvm.ClassFile.FieldType) ∈ lw_g := gd_ (in_t2 (List.mem_of_getElem? (i := 44) (by decide +kernel))) rfl
theorem ml_X3_261 : Cond.methodLink RX3 261 yX3_leastTowards ∈ lw_g := gd_ (in_t2 (List.mem_of_getElem? (i := 45) (by decide +kernel))) rfl
theorem im_X3_leastTowards : Cond.instanceMethod yX3_leastTowards ∈ lw_g := gd_ (in_t2 (List.mem_of_getElem? (i := 47) (by decide +kernel))) rfl
theorem co_X3_leastTowards : Cond.code yX3_leastTowards cX3_leastTowards 5 (Option.some Jvm.ClassFile.FieldType.int) ∈ lw_g := gd_ (in_t2 (List.mem_of_getElem? (i := 48) (by decide +kernel))) rfl
theorem ml_L_32 : Cond.methodLink RL 32 yX3_circle ∈ lw_g := gd_ (in_t2 (List.mem_of_getElem? (i := 49) (by decide +kernel))) rfl
theorem im_X3_circle : Cond.instanceMethod yX3_circle ∈ lw_g := gd_ (in_t2 (List.mem_of_getElem? (i := 50) (by decide +kernel))) rfl
theorem se_X3_circle : Cond.selects RX3 yX3_circle yX3_circle ∈ lw_g := gd_ (in_t2 (List.mem_of_getElem? (i := 51) (by decide +kernel))) rfl
theorem co_X3_circle : Cond.code yX3_circle cX3_circle 2 (Option.some Jvm.ClassFile.FieldType.int) ∈ lw_g := gd_ (in_t2 (List.mem_of_getElem? (i := 52) (by decide +kernel))) rfl
theorem ml_L_36 : Cond.methodLink RL 36 yX3_begin ∈ lw_g := gd_ (in_t2 (List.mem_of_getElem? (i := 53) (by decide +kernel))) rfl
theorem im_X3_begin : Cond.instanceMethod yX3_begin ∈ lw_g := gd_ (in_t2 (List.mem_of_getElem? (i := 54) (by decide +kernel))) rfl
theorem se_X3_begin : Cond.selects RX3 yX3_begin yX3_begin ∈ lw_g := gd_ (in_t2 (List.mem_of_getElem? (i := 55) (by decide +kernel))) rfl
theorem co_X3_begin : Cond.code yX3_begin cX3_begin 1 (Option.some Jvm.ClassFile.FieldType.int) ∈ lw_g := gd_ (in_t2 (List.mem_of_getElem? (i := 56) (by decide +kernel))) rfl
theorem ml_L_41 : Cond.methodLink RL 41 yX3_made ∈ lw_g := gd_ (in_t2 (List.mem_of_getElem? (i := 57) (by decide +kernel))) rfl
theorem im_X3_made : Cond.instanceMethod yX3_made ∈ lw_g := gd_ (in_t2 (List.mem_of_getElem? (i := 58) (by decide +kernel))) rfl
theorem se_X3_made : Cond.selects RX3 yX3_made yX3_made ∈ lw_g := gd_ (in_t2 (List.mem_of_getElem? (i := 59) (by decide +kernel))) rfl
theorem co_X3_made : Cond.code yX3_made cX3_made 1 (Option.some Jvm.ClassFile.FieldType.int) ∈ lw_g := gd_ (in_t2 (List.mem_of_getElem? (i := 60) (by decide +kernel))) rfl
theorem ml_L_47 : Cond.methodLink RL 47 yX3_claim ∈ lw_g := gd_ (in_t2 (List.mem_of_getElem? (i := 61) (by decide +kernel))) rfl
theorem im_X3_claim : Cond.instanceMethod yX3_claim ∈ lw_g := gd_ (in_t2 (List.mem_of_getElem? (i := 62) (by decide +kernel))) rfl
theorem se_X3_claim : Cond.selects RX3 yX3_claim yX3_claim ∈ lw_g := gd_ (in_t2 (List.mem_of_getElem? (i := 63) (by decide +kernel))) rfl
theorem co_X3_claim : Cond.code yX3_claim cX3_claim 4 (Option.some Jvm.ClassFile.FieldType.int) ∈ lw_g := gd_ (in_t2 (List.mem_of_getElem? (i := 64) (by decide +kernel))) rfl
theorem ml_X3_121 : Cond.methodLink RX3 121 yX3_claimSome ∈ lw_g := gd_ (in_t2 (List.mem_of_getElem? (i := 65) (by decide +kernel))) rfl
theorem im_X3_claimSome : Cond.instanceMethod yX3_claimSome ∈ lw_g := gd_ (in_t2 (List.mem_of_getElem? (i := 67) (by decide +kernel))) rfl
theorem co_X3_claimSome : Cond.code yX3_claimSome cX3_claimSome 8 (Option.some Jvm.ClassFile.FieldType.int) ∈ lw_g := gd_ (in_t2 (List.mem_of_getElem? (i := 68) (by decide +kernel))) rfl
theorem ml_X3_264 : Cond.methodLink RX3 264 yX3_refusalOfClaims ∈ lw_g := gd_ (in_t2 (List.mem_of_getElem? (i := 69) (by decide +kernel))) rfl
theorem im_X3_refusalOfClaims : Cond.instanceMethod yX3_refusalOfClaims ∈ lw_g := gd_ (in_t2 (List.mem_of_getElem? (i := 71) (by decide +kernel))) rfl
theorem co_X3_refusalOfClaims : Cond.code yX3_refusalOfClaims cX3_refusalOfClaims 6 (Option.some Jvm.ClassFile.FieldType.int) ∈ lw_g := gd_ (in_t2 (List.mem_of_getElem? (i := 72) (by decide +kernel))) rfl
theorem ml_X3_179 : Cond.methodLink RX3 179 yX3_isHeldUp ∈ lw_g := gd_ (in_t2 (List.mem_of_getElem? (i := 73) (by decide +kernel))) rfl
theorem im_X3_isHeldUp : Cond.instanceMethod yX3_isHeldUp ∈ lw_g := gd_ (in_t2 (List.mem_of_getElem? (i := 75) (by decide +kernel))) rfl
theorem co_X3_isHeldUp : Cond.code yX3_isHeldUp cX3_isHeldUp 4 (Option.some Jvm.ClassFile.FieldType.boolean) ∈ lw_g := gd_ (in_t2 (List.mem_of_getElem? (i := 76) (by decide +kernel))) rfl
theorem ml_X3_131 : Cond.methodLink RX3 131 yX2_openSlot ∈ lw_g := gd_ (in_t2 (List.mem_of_getElem? (i := 77) (by decide +kernel))) rfl
theorem im_X2_openSlot : Cond.instanceMethod yX2_openSlot ∈ lw_g := gd_ (in_t2 (List.mem_of_getElem? (i := 78) (by decide +kernel))) rfl
theorem se_X2_openSlot : Cond.selects RX2 yX2_openSlot yX2_openSlot ∈ lw_g := gd_ (in_t2 (List.mem_of_getElem? (i := 79) (by decide +kernel))) rfl
theorem co_X2_openSlot : Cond.code yX2_openSlot cX2_openSlot 3 (Option.some (Jvm.ClassFile.FieldType.object "RingPost$Message")) ∈ lw_g := gd_ (in_t2 (List.mem_of_getElem? (i := 80) (by decide +kernel))) rfl
theorem ml_X2_33 : Cond.methodLink RX2 33 yX2_slotOf ∈ lw_g := gd_ (in_t2 (List.mem_of_getElem? (i := 81) (by decide +kernel))) rfl
theorem im_X2_slotOf : Cond.instanceMethod yX2_slotOf ∈ lw_g := gd_ (in_t2 (List.mem_of_getElem? (i := 82) (by decide +kernel))) rfl
theorem se_X2_slotOf : Cond.selects RX2 yX2_slotOf yX2_slotOf ∈ lw_g := gd_ (in_t2 (List.mem_of_getElem? (i := 83) (by decide +kernel))) rfl
theorem co_X2_slotOf : Cond.code yX2_slotOf cX2_slotOf 3 (Option.some (Jvm.ClassFile.FieldType.object "RingPost$Message")) ∈ lw_g := gd_ (in_t2 (List.mem_of_getElem? (i := 84) (by decide +kernel))) rfl
theorem ml_X3_165 : Cond.methodLink RX3 165 yX3_holderUpTo ∈ lw_g := gd_ (in_t2 (List.mem_of_getElem? (i := 85) (by decide +kernel))) rfl
theorem im_X3_holderUpTo : Cond.instanceMethod yX3_holderUpTo ∈ lw_g := gd_ (in_t2 (List.mem_of_getElem? (i := 87) (by decide +kernel))) rfl
theorem co_X3_holderUpTo : Cond.code yX3_holderUpTo cX3_holderUpTo 6 (Option.some Jvm.ClassFile.FieldType.int) ∈ lw_g := gd_ (in_t2 (List.mem_of_getElem? (i := 88) (by decide +kernel))) rfl
theorem ml_X3_271 : Cond.methodLink RX3 271 yX1_heldPlace ∈ lw_g := gd_ (in_t2 (List.mem_of_getElem? (i := 89) (by decide +kernel))) rfl
theorem im_X1_heldPlace : Cond.instanceMethod yX1_heldPlace ∈ lw_g := gd_ (in_t2 (List.mem_of_getElem? (i := 90) (by decide +kernel))) rfl
theorem se_X1_heldPlace : Cond.selects RX1 yX1_heldPlace yX1_heldPlace ∈ lw_g := gd_ (in_t2 (List.mem_of_getElem? (i := 91) (by decide +kernel))) rfl
theorem co_X1_heldPlace : Cond.code yX1_heldPlace cX1_heldPlace 2 (Option.some Jvm.ClassFile.FieldType.int) ∈ lw_g := gd_ (in_t2 (List.mem_of_getElem? (i := 92) (by decide +kernel))) rfl
theorem ml_X3_267 : Cond.methodLink RX3 267 yX2_newClaim ∈ lw_g := gd_ (in_t2 (List.mem_of_getElem? (i := 93) (by decide +kernel))) rfl
theorem im_X2_newClaim : Cond.instanceMethod yX2_newClaim ∈ lw_g := gd_ (in_t2 (List.mem_of_getElem? (i := 94) (by decide +kernel))) rfl
theorem se_X2_newClaim : Cond.selects RX2 yX2_newClaim yX2_newClaim ∈ lw_g := gd_ (in_t2 (List.mem_of_getElem? (i := 95) (by decide +kernel))) rfl
theorem co_X2_newClaim : Cond.code yX2_newClaim cX2_newClaim 4 (Option.some (Jvm.ClassFile.FieldType.object "RingPost$Message")) ∈ lw_g := gd_ (in_t2 (List.mem_of_getElem? (i := 96) (by decide +kernel))) rfl
theorem ml_X2_44 : Cond.methodLink RX2 44 yX0_startOver ∈ lw_g := gd_ (in_t2 (List.mem_of_getElem? (i := 97) (by decide +kernel))) rfl
theorem im_X0_startOver : Cond.instanceMethod yX0_startOver ∈ lw_g := gd_ (in_t2 (List.mem_of_getElem? (i := 98) (by decide +kernel))) rfl
theorem se_X0_startOver : Cond.selects RX0 yX0_startOver yX0_startOver ∈ lw_g := gd_ (in_t2 (List.mem_of_getElem? (i := 99) (by decide +kernel))) rfl
theorem co_X0_startOver : Cond.code yX0_startOver cX0_startOver 5 (Option.none : Option Jvm.ClassFile.FieldType) ∈ lw_g := gd_ (in_t2 (List.mem_of_getElem? (i := 100) (by decide +kernel))) rfl
theorem ml_X0_36 : Cond.methodLink RX0 36 yJ7_fill_d0a16 ∈ lw_g := gd_ (in_t2 (List.mem_of_getElem? (i := 101) (by decide +kernel))) rfl
theorem sta_J7_fill_d0a16 : Cond.static yJ7_fill_d0a16 ∈ lw_g := gd_ (in_t2 (List.mem_of_getElem? (i := 102) (by decide +kernel))) rfl
theorem co_J7_fill_d0a16 : Cond.code yJ7_fill_d0a16 cJ7_fill_d0a16 5 (Option.none : Option Jvm.ClassFile.FieldType) ∈ lw_g := gd_ (in_t2 (List.mem_of_getElem? (i := 103) (by decide +kernel))) rfl
theorem ml_L_52 : Cond.methodLink RL 52 yX3_batch ∈ lw_g := gd_ (in_t2 (List.mem_of_getElem? (i := 104) (by decide +kernel))) rfl
theorem im_X3_batch : Cond.instanceMethod yX3_batch ∈ lw_g := gd_ (in_t2 (List.mem_of_getElem? (i := 105) (by decide +kernel))) rfl
theorem se_X3_batch : Cond.selects RX3 yX3_batch yX3_batch ∈ lw_g := gd_ (in_t2 (List.mem_of_getElem? (i := 106) (by decide +kernel))) rfl
theorem co_X3_batch : Cond.code yX3_batch cX3_batch 5 (Option.some Jvm.ClassFile.FieldType.int) ∈ lw_g := gd_ (in_t2 (List.mem_of_getElem? (i := 107) (by decide +kernel))) rfl
theorem ml_L_57 : Cond.methodLink RL 57 yX3_by ∈ lw_g := gd_ (in_t2 (List.mem_of_getElem? (i := 108) (by decide +kernel))) rfl
theorem im_X3_by : Cond.instanceMethod yX3_by ∈ lw_g := gd_ (in_t2 (List.mem_of_getElem? (i := 109) (by decide +kernel))) rfl
theorem se_X3_by : Cond.selects RX3 yX3_by yX3_by ∈ lw_g := gd_ (in_t2 (List.mem_of_getElem? (i := 110) (by decide +kernel))) rfl
theorem co_X3_by : Cond.code yX3_by cX3_by 1 (Option.some Jvm.ClassFile.FieldType.int) ∈ lw_g := gd_ (in_t2 (List.mem_of_getElem? (i := 111) (by decide +kernel))) rfl
theorem ml_L_61 : Cond.methodLink RL 61 yX3_again ∈ lw_g := gd_ (in_t2 (List.mem_of_getElem? (i := 112) (by decide +kernel))) rfl
theorem im_X3_again : Cond.instanceMethod yX3_again ∈ lw_g := gd_ (in_t2 (List.mem_of_getElem? (i := 113) (by decide +kernel))) rfl
theorem se_X3_again : Cond.selects RX3 yX3_again yX3_again ∈ lw_g := gd_ (in_t2 (List.mem_of_getElem? (i := 114) (by decide +kernel))) rfl
theorem co_X3_again : Cond.code yX3_again cX3_again 1 (Option.some Jvm.ClassFile.FieldType.int) ∈ lw_g := gd_ (in_t2 (List.mem_of_getElem? (i := 115) (by decide +kernel))) rfl
theorem ml_L_65 : Cond.methodLink RL 65 yX3_fill ∈ lw_g := gd_ (in_t2 (List.mem_of_getElem? (i := 116) (by decide +kernel))) rfl
theorem im_X3_fill : Cond.instanceMethod yX3_fill ∈ lw_g := gd_ (in_t2 (List.mem_of_getElem? (i := 117) (by decide +kernel))) rfl
theorem se_X3_fill : Cond.selects RX3 yX3_fill yX3_fill ∈ lw_g := gd_ (in_t2 (List.mem_of_getElem? (i := 118) (by decide +kernel))) rfl
theorem co_X3_fill : Cond.code yX3_fill cX3_fill 8 (Option.some Jvm.ClassFile.FieldType.int) ∈ lw_g := gd_ (in_t2 (List.mem_of_getElem? (i := 119) (by decide +kernel))) rfl
theorem ml_L_70 : Cond.methodLink RL 70 yX3_copy ∈ lw_g := gd_ (in_t2 (List.mem_of_getElem? (i := 120) (by decide +kernel))) rfl
theorem im_X3_copy : Cond.instanceMethod yX3_copy ∈ lw_g := gd_ (in_t2 (List.mem_of_getElem? (i := 121) (by decide +kernel))) rfl
theorem se_X3_copy : Cond.selects RX3 yX3_copy yX3_copy ∈ lw_g := gd_ (in_t2 (List.mem_of_getElem? (i := 122) (by decide +kernel))) rfl
theorem co_X3_copy : Cond.code yX3_copy cX3_copy 9 (Option.some Jvm.ClassFile.FieldType.int) ∈ lw_g := gd_ (in_t2 (List.mem_of_getElem? (i := 123) (by decide +kernel))) rfl
theorem ml_X3_145 : Cond.methodLink RX3 145 (⟨"java/lang/System", "arraycopy", "(Ljava/lang/Object;ILjava/lang/Object;II)V"⟩ : MethodName) ∈ lw_g := gd_ (in_t2 (List.mem_of_getElem? (i := 124) (by decide +kernel))) rfl
theorem sta_java_lang_Systemarraycopy : Cond.static (⟨"java/lang/System", "arraycopy", "(Ljava/lang/Object;ILjava/lang/Object;II)V"⟩ : MethodName) ∈ lw_g := gd_ (in_t2 (List.mem_of_getElem? (i := 125) (by decide +kernel))) rfl
theorem nat_java_lang_Systemarraycopy : Cond.native (⟨"java/lang/System", "arraycopy", "(Ljava/lang/Object;ILjava/lang/Object;II)V"⟩ : MethodName) ∈ lw_g := gd_ (in_t2 (List.mem_of_getElem? (i := 126) (by decide +kernel))) rfl
theorem ml_L_75 : Cond.methodLink RL 75 yX3_publish ∈ lw_g := gd_ (in_t2 (List.mem_of_getElem? (i := 127) (by decide +kernel))) rfl
theorem im_X3_publish : Cond.instanceMethod yX3_publish ∈ lw_g := gd_ (in_t2 (List.mem_of_getElem? (i := 128) (by decide +kernel))) rfl
theorem se_X3_publish : Cond.selects RX3 yX3_publish yX3_publish ∈ lw_g := gd_ (in_t2 (List.mem_of_getElem? (i := 129) (by decide +kernel))) rfl
theorem co_X3_publish : Cond.code yX3_publish cX3_publish 7 (Option.some Jvm.ClassFile.FieldType.int) ∈ lw_g := gd_ (in_t2 (List.mem_of_getElem? (i := 130) (by decide +kernel))) rfl
theorem ml_X3_151 : Cond.methodLink RX3 151 yX3_publishSlot ∈ lw_g := gd_ (in_t2 (List.mem_of_getElem? (i := 131) (by decide +kernel))) rfl
theorem im_X3_publishSlot : Cond.instanceMethod yX3_publishSlot ∈ lw_g := gd_ (in_t2 (List.mem_of_getElem? (i := 133) (by decide +kernel))) rfl
theorem co_X3_publishSlot : Cond.code yX3_publishSlot cX3_publishSlot 6 (Option.none : Option Jvm.ClassFile.FieldType) ∈ lw_g := gd_ (in_t2 (List.mem_of_getElem? (i := 134) (by decide +kernel))) rfl
theorem ml_X3_282 : Cond.methodLink RX3 282 yX1_foldIn ∈ lw_g := gd_ (in_t2 (List.mem_of_getElem? (i := 135) (by decide +kernel))) rfl
theorem im_X1_foldIn : Cond.instanceMethod yX1_foldIn ∈ lw_g := gd_ (in_t2 (List.mem_of_getElem? (i := 136) (by decide +kernel))) rfl
theorem se_X1_foldIn : Cond.selects RX1 yX1_foldIn yX1_foldIn ∈ lw_g := gd_ (in_t2 (List.mem_of_getElem? (i := 137) (by decide +kernel))) rfl
theorem co_X1_foldIn : Cond.code yX1_foldIn cX1_foldIn 3 (Option.none : Option Jvm.ClassFile.FieldType) ∈ lw_g := gd_ (in_t2 (List.mem_of_getElem? (i := 138) (by decide +kernel))) rfl
theorem ml_X1_93 : Cond.methodLink RX1 93 yX0_become ∈ lw_g := gd_ (in_t2 (List.mem_of_getElem? (i := 139) (by decide +kernel))) rfl
theorem im_X0_become : Cond.instanceMethod yX0_become ∈ lw_g := gd_ (in_t2 (List.mem_of_getElem? (i := 140) (by decide +kernel))) rfl
theorem se_X0_become : Cond.selects RX0 yX0_become yX0_become ∈ lw_g := gd_ (in_t2 (List.mem_of_getElem? (i := 141) (by decide +kernel))) rfl
theorem co_X0_become : Cond.code yX0_become cX0_become 2 (Option.none : Option Jvm.ClassFile.FieldType) ∈ lw_g := gd_ (in_t2 (List.mem_of_getElem? (i := 142) (by decide +kernel))) rfl
theorem ml_X0_42 : Cond.methodLink RX0 42 (⟨"java/lang/System", "arraycopy", "(Ljava/lang/Object;ILjava/lang/Object;II)V"⟩ : MethodName) ∈ lw_g := gd_ (in_t2 (List.mem_of_getElem? (i := 143) (by decide +kernel))) rfl
theorem ml_L_80 : Cond.methodLink RL 80 yX3_close ∈ lw_g := gd_ (in_t2 (List.mem_of_getElem? (i := 144) (by decide +kernel))) rfl
theorem im_X3_close : Cond.instanceMethod yX3_close ∈ lw_g := gd_ (in_t2 (List.mem_of_getElem? (i := 145) (by decide +kernel))) rfl
theorem se_X3_close : Cond.selects RX3 yX3_close yX3_close ∈ lw_g := gd_ (in_t2 (List.mem_of_getElem? (i := 146) (by decide +kernel))) rfl
theorem co_X3_close : Cond.code yX3_close cX3_close 3 (Option.some Jvm.ClassFile.FieldType.int) ∈ lw_g := gd_ (in_t2 (List.mem_of_getElem? (i := 147) (by decide +kernel))) rfl
theorem ml_L_84 : Cond.methodLink RL 84 yX3_give ∈ lw_g := gd_ (in_t2 (List.mem_of_getElem? (i := 148) (by decide +kernel))) rfl
theorem im_X3_give : Cond.instanceMethod yX3_give ∈ lw_g := gd_ (in_t2 (List.mem_of_getElem? (i := 149) (by decide +kernel))) rfl
theorem se_X3_give : Cond.selects RX3 yX3_give yX3_give ∈ lw_g := gd_ (in_t2 (List.mem_of_getElem? (i := 150) (by decide +kernel))) rfl
theorem co_X3_give : Cond.code yX3_give cX3_give 3 (Option.some Jvm.ClassFile.FieldType.int) ∈ lw_g := gd_ (in_t2 (List.mem_of_getElem? (i := 151) (by decide +kernel))) rfl
theorem ml_X3_158 : Cond.methodLink RX3 158 yX2_countOpen ∈ lw_g := gd_ (in_t2 (List.mem_of_getElem? (i := 152) (by decide +kernel))) rfl
theorem im_X2_countOpen : Cond.instanceMethod yX2_countOpen ∈ lw_g := gd_ (in_t2 (List.mem_of_getElem? (i := 153) (by decide +kernel))) rfl
theorem se_X2_countOpen : Cond.selects RX2 yX2_countOpen yX2_countOpen ∈ lw_g := gd_ (in_t2 (List.mem_of_getElem? (i := 154) (by decide +kernel))) rfl
theorem co_X2_countOpen : Cond.code yX2_countOpen cX2_countOpen 3 (Option.some Jvm.ClassFile.FieldType.int) ∈ lw_g := gd_ (in_t2 (List.mem_of_getElem? (i := 155) (by decide +kernel))) rfl
theorem ml_L_88 : Cond.methodLink RL 88 yX3_told ∈ lw_g := gd_ (in_t2 (List.mem_of_getElem? (i := 156) (by decide +kernel))) rfl
theorem im_X3_told : Cond.instanceMethod yX3_told ∈ lw_g := gd_ (in_t2 (List.mem_of_getElem? (i := 157) (by decide +kernel))) rfl
theorem se_X3_told : Cond.selects RX3 yX3_told yX3_told ∈ lw_g := gd_ (in_t2 (List.mem_of_getElem? (i := 158) (by decide +kernel))) rfl
theorem co_X3_told : Cond.code yX3_told cX3_told 4 (Option.some Jvm.ClassFile.FieldType.int) ∈ lw_g := gd_ (in_t2 (List.mem_of_getElem? (i := 159) (by decide +kernel))) rfl
theorem ml_X3_172 : Cond.methodLink RX3 172 yX3_leastHolderPlace ∈ lw_g := gd_ (in_t2 (List.mem_of_getElem? (i := 160) (by decide +kernel))) rfl
theorem im_X3_leastHolderPlace : Cond.instanceMethod yX3_leastHolderPlace ∈ lw_g := gd_ (in_t2 (List.mem_of_getElem? (i := 162) (by decide +kernel))) rfl
theorem co_X3_leastHolderPlace : Cond.code yX3_leastHolderPlace cX3_leastHolderPlace 6 (Option.some Jvm.ClassFile.FieldType.int) ∈ lw_g := gd_ (in_t2 (List.mem_of_getElem? (i := 163) (by decide +kernel))) rfl
theorem ml_X3_274 : Cond.methodLink RX3 274 yJ9_min_7cf53 ∈ lw_g := gd_ (in_t2 (List.mem_of_getElem? (i := 164) (by decide +kernel))) rfl
theorem sta_J9_min_7cf53 : Cond.static yJ9_min_7cf53 ∈ lw_g := gd_ (in_t2 (List.mem_of_getElem? (i := 165) (by decide +kernel))) rfl
theorem co_J9_min_7cf53 : Cond.code yJ9_min_7cf53 cJ9_min_7cf53 2 (Option.some Jvm.ClassFile.FieldType.int) ∈ lw_g := gd_ (in_t2 (List.mem_of_getElem? (i := 166) (by decide +kernel))) rfl
theorem ml_X3_176 : Cond.methodLink RX3 176 yX3_countHolders ∈ lw_g := gd_ (in_t2 (List.mem_of_getElem? (i := 167) (by decide +kernel))) rfl
theorem im_X3_countHolders : Cond.instanceMethod yX3_countHolders ∈ lw_g := gd_ (in_t2 (List.mem_of_getElem? (i := 169) (by decide +kernel))) rfl
theorem co_X3_countHolders : Cond.code yX3_countHolders cX3_countHolders 5 (Option.some Jvm.ClassFile.FieldType.int) ∈ lw_g := gd_ (in_t2 (List.mem_of_getElem? (i := 170) (by decide +kernel))) rfl
theorem ml_L_92 : Cond.methodLink RL 92 yX3_last ∈ lw_g := gd_ (in_t2 (List.mem_of_getElem? (i := 171) (by decide +kernel))) rfl
theorem im_X3_last : Cond.instanceMethod yX3_last ∈ lw_g := gd_ (in_t2 (List.mem_of_getElem? (i := 172) (by decide +kernel))) rfl
theorem se_X3_last : Cond.selects RX3 yX3_last yX3_last ∈ lw_g := gd_ (in_t2 (List.mem_of_getElem? (i := 173) (by decide +kernel))) rfl
theorem co_X3_last : Cond.code yX3_last cX3_last 3 (Option.some Jvm.ClassFile.FieldType.long) ∈ lw_g := gd_ (in_t2 (List.mem_of_getElem? (i := 174) (by decide +kernel))) rfl
theorem ml_L_97 : Cond.methodLink RL 97 yX3_read ∈ lw_g := gd_ (in_t2 (List.mem_of_getElem? (i := 175) (by decide +kernel))) rfl
theorem im_X3_read : Cond.instanceMethod yX3_read ∈ lw_g := gd_ (in_t2 (List.mem_of_getElem? (i := 176) (by decide +kernel))) rfl
theorem se_X3_read : Cond.selects RX3 yX3_read yX3_read ∈ lw_g := gd_ (in_t2 (List.mem_of_getElem? (i := 177) (by decide +kernel))) rfl
theorem co_X3_read : Cond.code yX3_read cX3_read 3 (Option.some Jvm.ClassFile.FieldType.int) ∈ lw_g := gd_ (in_t2 (List.mem_of_getElem? (i := 178) (by decide +kernel))) rfl
theorem ml_X3_187 : Cond.methodLink RX3 187 yX3_readOnce ∈ lw_g := gd_ (in_t2 (List.mem_of_getElem? (i := 179) (by decide +kernel))) rfl
theorem im_X3_readOnce : Cond.instanceMethod yX3_readOnce ∈ lw_g := gd_ (in_t2 (List.mem_of_getElem? (i := 181) (by decide +kernel))) rfl
theorem co_X3_readOnce : Cond.code yX3_readOnce cX3_readOnce 3 (Option.some Jvm.ClassFile.FieldType.int) ∈ lw_g := gd_ (in_t2 (List.mem_of_getElem? (i := 182) (by decide +kernel))) rfl
theorem ml_X3_286 : Cond.methodLink RX3 286 yX1_skipMissed ∈ lw_g := gd_ (in_t2 (List.mem_of_getElem? (i := 183) (by decide +kernel))) rfl
theorem im_X1_skipMissed : Cond.instanceMethod yX1_skipMissed ∈ lw_g := gd_ (in_t2 (List.mem_of_getElem? (i := 184) (by decide +kernel))) rfl
theorem se_X1_skipMissed : Cond.selects RX1 yX1_skipMissed yX1_skipMissed ∈ lw_g := gd_ (in_t2 (List.mem_of_getElem? (i := 185) (by decide +kernel))) rfl
theorem co_X1_skipMissed : Cond.code yX1_skipMissed cX1_skipMissed 3 (Option.none : Option Jvm.ClassFile.FieldType) ∈ lw_g := gd_ (in_t2 (List.mem_of_getElem? (i := 186) (by decide +kernel))) rfl
theorem ml_X1_66 : Cond.methodLink RX1 66 yX1_placeIn ∈ lw_g := gd_ (in_t2 (List.mem_of_getElem? (i := 187) (by decide +kernel))) rfl
theorem ml_X1_86 : Cond.methodLink RX1 86 yX1_placeToRead ∈ lw_g := gd_ (in_t2 (List.mem_of_getElem? (i := 188) (by decide +kernel))) rfl
theorem im_X1_placeToRead : Cond.instanceMethod yX1_placeToRead ∈ lw_g := gd_ (in_t2 (List.mem_of_getElem? (i := 189) (by decide +kernel))) rfl
theorem se_X1_placeToRead : Cond.selects RX1 yX1_placeToRead yX1_placeToRead ∈ lw_g := gd_ (in_t2 (List.mem_of_getElem? (i := 190) (by decide +kernel))) rfl
theorem co_X1_placeToRead : Cond.code yX1_placeToRead cX1_placeToRead 2 (Option.some Jvm.ClassFile.FieldType.int) ∈ lw_g := gd_ (in_t2 (List.mem_of_getElem? (i := 191) (by decide +kernel))) rfl
theorem ml_X1_80 : Cond.methodLink RX1 80 yJ9_max_7cf53 ∈ lw_g := gd_ (in_t2 (List.mem_of_getElem? (i := 192) (by decide +kernel))) rfl
theorem sta_J9_max_7cf53 : Cond.static yJ9_max_7cf53 ∈ lw_g := gd_ (in_t2 (List.mem_of_getElem? (i := 193) (by decide +kernel))) rfl
theorem co_J9_max_7cf53 : Cond.code yJ9_max_7cf53 cJ9_max_7cf53 2 (Option.some Jvm.ClassFile.FieldType.int) ∈ lw_g := gd_ (in_t2 (List.mem_of_getElem? (i := 194) (by decide +kernel))) rfl
theorem ml_X3_231 : Cond.methodLink RX3 231 yX3_reasonOf ∈ lw_g := gd_ (in_t2 (List.mem_of_getElem? (i := 195) (by decide +kernel))) rfl
theorem im_X3_reasonOf : Cond.instanceMethod yX3_reasonOf ∈ lw_g := gd_ (in_t2 (List.mem_of_getElem? (i := 197) (by decide +kernel))) rfl
theorem co_X3_reasonOf : Cond.code yX3_reasonOf cX3_reasonOf 2 (Option.some Jvm.ClassFile.FieldType.int) ∈ lw_g := gd_ (in_t2 (List.mem_of_getElem? (i := 198) (by decide +kernel))) rfl
theorem ml_X3_321 : Cond.methodLink RX3 321 yX3_reasonOfMerge ∈ lw_g := gd_ (in_t2 (List.mem_of_getElem? (i := 199) (by decide +kernel))) rfl
theorem im_X3_reasonOfMerge : Cond.instanceMethod yX3_reasonOfMerge ∈ lw_g := gd_ (in_t2 (List.mem_of_getElem? (i := 201) (by decide +kernel))) rfl
theorem co_X3_reasonOfMerge : Cond.code yX3_reasonOfMerge cX3_reasonOfMerge 2 (Option.some Jvm.ClassFile.FieldType.int) ∈ lw_g := gd_ (in_t2 (List.mem_of_getElem? (i := 202) (by decide +kernel))) rfl
theorem ml_X3_240 : Cond.methodLink RX3 240 yX3_leastLackingRing ∈ lw_g := gd_ (in_t2 (List.mem_of_getElem? (i := 203) (by decide +kernel))) rfl
theorem im_X3_leastLackingRing : Cond.instanceMethod yX3_leastLackingRing ∈ lw_g := gd_ (in_t2 (List.mem_of_getElem? (i := 205) (by decide +kernel))) rfl
theorem co_X3_leastLackingRing : Cond.code yX3_leastLackingRing cX3_leastLackingRing 4 (Option.some Jvm.ClassFile.FieldType.int) ∈ lw_g := gd_ (in_t2 (List.mem_of_getElem? (i := 206) (by decide +kernel))) rfl
theorem ml_X3_330 : Cond.methodLink RX3 330 yX3_isAwaited ∈ lw_g := gd_ (in_t2 (List.mem_of_getElem? (i := 207) (by decide +kernel))) rfl
theorem im_X3_isAwaited : Cond.instanceMethod yX3_isAwaited ∈ lw_g := gd_ (in_t2 (List.mem_of_getElem? (i := 209) (by decide +kernel))) rfl
theorem co_X3_isAwaited : Cond.code yX3_isAwaited cX3_isAwaited 4 (Option.some Jvm.ClassFile.FieldType.boolean) ∈ lw_g := gd_ (in_t2 (List.mem_of_getElem? (i := 210) (by decide +kernel))) rfl
theorem ml_X3_327 : Cond.methodLink RX3 327 yX2_isPublished ∈ lw_g := gd_ (in_t2 (List.mem_of_getElem? (i := 211) (by decide +kernel))) rfl
theorem im_X2_isPublished : Cond.instanceMethod yX2_isPublished ∈ lw_g := gd_ (in_t2 (List.mem_of_getElem? (i := 212) (by decide +kernel))) rfl
theorem se_X2_isPublished : Cond.selects RX2 yX2_isPublished yX2_isPublished ∈ lw_g := gd_ (in_t2 (List.mem_of_getElem? (i := 213) (by decide +kernel))) rfl
theorem co_X2_isPublished : Cond.code yX2_isPublished cX2_isPublished 3 (Option.some Jvm.ClassFile.FieldType.boolean) ∈ lw_g := gd_ (in_t2 (List.mem_of_getElem? (i := 214) (by decide +kernel))) rfl
theorem ml_X3_306 : Cond.methodLink RX3 306 yX3_ringOfLeastStamp ∈ lw_g := gd_ (in_t2 (List.mem_of_getElem? (i := 215) (by decide +kernel))) rfl
theorem im_X3_ringOfLeastStamp : Cond.instanceMethod yX3_ringOfLeastStamp ∈ lw_g := gd_ (in_t2 (List.mem_of_getElem? (i := 217) (by decide +kernel))) rfl
theorem co_X3_ringOfLeastStamp : Cond.code yX3_ringOfLeastStamp cX3_ringOfLeastStamp 8 (Option.some (Jvm.ClassFile.FieldType.object "RingPost$Ring")) ∈ lw_g := gd_ (in_t2 (List.mem_of_getElem? (i := 218) (by decide +kernel))) rfl
theorem ml_X3_299 : Cond.methodLink RX3 299 yX2_slotOf ∈ lw_g := gd_ (in_t2 (List.mem_of_getElem? (i := 219) (by decide +kernel))) rfl
theorem ml_X3_296 : Cond.methodLink RX3 296 yX2_newestPublished ∈ lw_g := gd_ (in_t2 (List.mem_of_getElem? (i := 220) (by decide +kernel))) rfl
theorem im_X2_newestPublished : Cond.instanceMethod yX2_newestPublished ∈ lw_g := gd_ (in_t2 (List.mem_of_getElem? (i := 221) (by decide +kernel))) rfl
theorem se_X2_newestPublished : Cond.selects RX2 yX2_newestPublished yX2_newestPublished ∈ lw_g := gd_ (in_t2 (List.mem_of_getElem? (i := 222) (by decide +kernel))) rfl
theorem co_X2_newestPublished : Cond.code yX2_newestPublished cX2_newestPublished 2 (Option.some Jvm.ClassFile.FieldType.int) ∈ lw_g := gd_ (in_t2 (List.mem_of_getElem? (i := 223) (by decide +kernel))) rfl
theorem ml_X2_40 : Cond.methodLink RX2 40 yX2_isPublished ∈ lw_g := gd_ (in_t2 (List.mem_of_getElem? (i := 224) (by decide +kernel))) rfl
theorem ml_X3_324 : Cond.methodLink RX3 324 yX3_reasonAtPlace ∈ lw_g := gd_ (in_t2 (List.mem_of_getElem? (i := 225) (by decide +kernel))) rfl
theorem im_X3_reasonAtPlace : Cond.instanceMethod yX3_reasonAtPlace ∈ lw_g := gd_ (in_t2 (List.mem_of_getElem? (i := 227) (by decide +kernel))) rfl
theorem co_X3_reasonAtPlace : Cond.code yX3_reasonAtPlace cX3_reasonAtPlace 3 (Option.some Jvm.ClassFile.FieldType.int) ∈ lw_g := gd_ (in_t2 (List.mem_of_getElem? (i := 228) (by decide +kernel))) rfl
theorem ml_X3_234 : Cond.methodLink RX3 234 yX1_placeToRead ∈ lw_g := gd_ (in_t2 (List.mem_of_getElem? (i := 229) (by decide +kernel))) rfl
theorem ml_X3_237 : Cond.methodLink RX3 237 yX3_leastNamedBehind ∈ lw_g := gd_ (in_t2 (List.mem_of_getElem? (i := 230) (by decide +kernel))) rfl
theorem im_X3_leastNamedBehind : Cond.instanceMethod yX3_leastNamedBehind ∈ lw_g := gd_ (in_t2 (List.mem_of_getElem? (i := 232) (by decide +kernel))) rfl
theorem co_X3_leastNamedBehind : Cond.code yX3_leastNamedBehind cX3_leastNamedBehind 4 (Option.some Jvm.ClassFile.FieldType.int) ∈ lw_g := gd_ (in_t2 (List.mem_of_getElem? (i := 233) (by decide +kernel))) rfl
theorem ml_X3_246 : Cond.methodLink RX3 246 yX2_isLive ∈ lw_g := gd_ (in_t2 (List.mem_of_getElem? (i := 234) (by decide +kernel))) rfl
theorem im_X2_isLive : Cond.instanceMethod yX2_isLive ∈ lw_g := gd_ (in_t2 (List.mem_of_getElem? (i := 235) (by decide +kernel))) rfl
theorem se_X2_isLive : Cond.selects RX2 yX2_isLive yX2_isLive ∈ lw_g := gd_ (in_t2 (List.mem_of_getElem? (i := 236) (by decide +kernel))) rfl
theorem co_X2_isLive : Cond.code yX2_isLive cX2_isLive 1 (Option.some Jvm.ClassFile.FieldType.boolean) ∈ lw_g := gd_ (in_t2 (List.mem_of_getElem? (i := 237) (by decide +kernel))) rfl
theorem ml_X3_289 : Cond.methodLink RX3 289 yX3_takeNext ∈ lw_g := gd_ (in_t2 (List.mem_of_getElem? (i := 238) (by decide +kernel))) rfl
theorem im_X3_takeNext : Cond.instanceMethod yX3_takeNext ∈ lw_g := gd_ (in_t3 (List.mem_of_getElem? (i := 0) (by decide +kernel))) rfl
theorem co_X3_takeNext : Cond.code yX3_takeNext cX3_takeNext 3 (Option.some Jvm.ClassFile.FieldType.boolean) ∈ lw_g := gd_ (in_t3 (List.mem_of_getElem? (i := 1) (by decide +kernel))) rfl
theorem ml_X3_293 : Cond.methodLink RX3 293 yX1_takeEntry ∈ lw_g := gd_ (in_t3 (List.mem_of_getElem? (i := 2) (by decide +kernel))) rfl
theorem im_X1_takeEntry : Cond.instanceMethod yX1_takeEntry ∈ lw_g := gd_ (in_t3 (List.mem_of_getElem? (i := 3) (by decide +kernel))) rfl
theorem se_X1_takeEntry : Cond.selects RX1 yX1_takeEntry yX1_takeEntry ∈ lw_g := gd_ (in_t3 (List.mem_of_getElem? (i := 4) (by decide +kernel))) rfl
theorem co_X1_takeEntry : Cond.code yX1_takeEntry cX1_takeEntry 3 (Option.some Jvm.ClassFile.FieldType.boolean) ∈ lw_g := gd_ (in_t3 (List.mem_of_getElem? (i := 5) (by decide +kernel))) rfl
theorem ml_X1_107 : Cond.methodLink RX1 107 yX1_keep ∈ lw_g := gd_ (in_t3 (List.mem_of_getElem? (i := 6) (by decide +kernel))) rfl
theorem im_X1_keep : Cond.instanceMethod yX1_keep ∈ lw_g := gd_ (in_t3 (List.mem_of_getElem? (i := 7) (by decide +kernel))) rfl
theorem se_X1_keep : Cond.selects RX1 yX1_keep yX1_keep ∈ lw_g := gd_ (in_t3 (List.mem_of_getElem? (i := 8) (by decide +kernel))) rfl
theorem co_X1_keep : Cond.code yX1_keep cX1_keep 2 (Option.some Jvm.ClassFile.FieldType.boolean) ∈ lw_g := gd_ (in_t3 (List.mem_of_getElem? (i := 9) (by decide +kernel))) rfl
theorem ml_X3_302 : Cond.methodLink RX3 302 yX1_keep ∈ lw_g := gd_ (in_t3 (List.mem_of_getElem? (i := 10) (by decide +kernel))) rfl
theorem ml_X3_310 : Cond.methodLink RX3 310 yX3_takeAtPlace ∈ lw_g := gd_ (in_t3 (List.mem_of_getElem? (i := 11) (by decide +kernel))) rfl
theorem im_X3_takeAtPlace : Cond.instanceMethod yX3_takeAtPlace ∈ lw_g := gd_ (in_t3 (List.mem_of_getElem? (i := 13) (by decide +kernel))) rfl
theorem co_X3_takeAtPlace : Cond.code yX3_takeAtPlace cX3_takeAtPlace 3 (Option.some Jvm.ClassFile.FieldType.boolean) ∈ lw_g := gd_ (in_t3 (List.mem_of_getElem? (i := 14) (by decide +kernel))) rfl
theorem ml_X3_318 : Cond.methodLink RX3 318 yX1_stepOn ∈ lw_g := gd_ (in_t3 (List.mem_of_getElem? (i := 15) (by decide +kernel))) rfl
theorem im_X1_stepOn : Cond.instanceMethod yX1_stepOn ∈ lw_g := gd_ (in_t3 (List.mem_of_getElem? (i := 16) (by decide +kernel))) rfl
theorem se_X1_stepOn : Cond.selects RX1 yX1_stepOn yX1_stepOn ∈ lw_g := gd_ (in_t3 (List.mem_of_getElem? (i := 17) (by decide +kernel))) rfl
theorem co_X1_stepOn : Cond.code yX1_stepOn cX1_stepOn 2 (Option.none : Option Jvm.ClassFile.FieldType) ∈ lw_g := gd_ (in_t3 (List.mem_of_getElem? (i := 18) (by decide +kernel))) rfl
theorem ml_X3_314 : Cond.methodLink RX3 314 yX3_writeOn ∈ lw_g := gd_ (in_t3 (List.mem_of_getElem? (i := 19) (by decide +kernel))) rfl
theorem im_X3_writeOn : Cond.instanceMethod yX3_writeOn ∈ lw_g := gd_ (in_t3 (List.mem_of_getElem? (i := 21) (by decide +kernel))) rfl
theorem co_X3_writeOn : Cond.code yX3_writeOn cX3_writeOn 5 (Option.none : Option Jvm.ClassFile.FieldType) ∈ lw_g := gd_ (in_t3 (List.mem_of_getElem? (i := 22) (by decide +kernel))) rfl
theorem ml_L_101 : Cond.methodLink RL 101 yX3_round ∈ lw_g := gd_ (in_t3 (List.mem_of_getElem? (i := 23) (by decide +kernel))) rfl
theorem im_X3_round : Cond.instanceMethod yX3_round ∈ lw_g := gd_ (in_t3 (List.mem_of_getElem? (i := 24) (by decide +kernel))) rfl
theorem se_X3_round : Cond.selects RX3 yX3_round yX3_round ∈ lw_g := gd_ (in_t3 (List.mem_of_getElem? (i := 25) (by decide +kernel))) rfl
theorem co_X3_round : Cond.code yX3_round cX3_round 4 (Option.some Jvm.ClassFile.FieldType.int) ∈ lw_g := gd_ (in_t3 (List.mem_of_getElem? (i := 26) (by decide +kernel))) rfl
theorem ml_L_105 : Cond.methodLink RL 105 yX3_got ∈ lw_g := gd_ (in_t3 (List.mem_of_getElem? (i := 27) (by decide +kernel))) rfl
theorem im_X3_got : Cond.instanceMethod yX3_got ∈ lw_g := gd_ (in_t3 (List.mem_of_getElem? (i := 28) (by decide +kernel))) rfl
theorem se_X3_got : Cond.selects RX3 yX3_got yX3_got ∈ lw_g := gd_ (in_t3 (List.mem_of_getElem? (i := 29) (by decide +kernel))) rfl
theorem co_X3_got : Cond.code yX3_got cX3_got 4 (Option.some Jvm.ClassFile.FieldType.long) ∈ lw_g := gd_ (in_t3 (List.mem_of_getElem? (i := 30) (by decide +kernel))) rfl
theorem cn_X3_192 : Cond.constantLong RX3 192 (-1 : Int64) ∈ lw_g := gd_ (in_t3 (List.mem_of_getElem? (i := 31) (by decide +kernel))) rfl
theorem ml_L_110 : Cond.methodLink RL 110 yX3_word ∈ lw_g := gd_ (in_t3 (List.mem_of_getElem? (i := 32) (by decide +kernel))) rfl
theorem im_X3_word : Cond.instanceMethod yX3_word ∈ lw_g := gd_ (in_t3 (List.mem_of_getElem? (i := 33) (by decide +kernel))) rfl
theorem se_X3_word : Cond.selects RX3 yX3_word yX3_word ∈ lw_g := gd_ (in_t3 (List.mem_of_getElem? (i := 34) (by decide +kernel))) rfl
theorem co_X3_word : Cond.code yX3_word cX3_word 4 (Option.some Jvm.ClassFile.FieldType.long) ∈ lw_g := gd_ (in_t3 (List.mem_of_getElem? (i := 35) (by decide +kernel))) rfl
theorem ml_L_114 : Cond.methodLink RL 114 yX3_of ∈ lw_g := gd_ (in_t3 (List.mem_of_getElem? (i := 36) (by decide +kernel))) rfl
theorem im_X3_of : Cond.instanceMethod yX3_of ∈ lw_g := gd_ (in_t3 (List.mem_of_getElem? (i := 37) (by decide +kernel))) rfl
theorem se_X3_of : Cond.selects RX3 yX3_of yX3_of ∈ lw_g := gd_ (in_t3 (List.mem_of_getElem? (i := 38) (by decide +kernel))) rfl
theorem co_X3_of : Cond.code yX3_of cX3_of 4 (Option.some Jvm.ClassFile.FieldType.int) ∈ lw_g := gd_ (in_t3 (List.mem_of_getElem? (i := 39) (by decide +kernel))) rfl
theorem ml_L_118 : Cond.methodLink RL 118 yX3_place ∈ lw_g := gd_ (in_t3 (List.mem_of_getElem? (i := 40) (by decide +kernel))) rfl
theorem im_X3_place : Cond.instanceMethod yX3_place ∈ lw_g := gd_ (in_t3 (List.mem_of_getElem? (i := 41) (by decide +kernel))) rfl
theorem se_X3_place : Cond.selects RX3 yX3_place yX3_place ∈ lw_g := gd_ (in_t3 (List.mem_of_getElem? (i := 42) (by decide +kernel))) rfl
theorem co_X3_place : Cond.code yX3_place cX3_place 3 (Option.some Jvm.ClassFile.FieldType.int) ∈ lw_g := gd_ (in_t3 (List.mem_of_getElem? (i := 43) (by decide +kernel))) rfl
theorem ml_L_122 : Cond.methodLink RL 122 yX3_named ∈ lw_g := gd_ (in_t3 (List.mem_of_getElem? (i := 44) (by decide +kernel))) rfl
theorem im_X3_named : Cond.instanceMethod yX3_named ∈ lw_g := gd_ (in_t3 (List.mem_of_getElem? (i := 45) (by decide +kernel))) rfl
theorem se_X3_named : Cond.selects RX3 yX3_named yX3_named ∈ lw_g := gd_ (in_t3 (List.mem_of_getElem? (i := 46) (by decide +kernel))) rfl
theorem co_X3_named : Cond.code yX3_named cX3_named 4 (Option.some Jvm.ClassFile.FieldType.int) ∈ lw_g := gd_ (in_t3 (List.mem_of_getElem? (i := 47) (by decide +kernel))) rfl
theorem ml_L_126 : Cond.methodLink RL 126 yX3_entry ∈ lw_g := gd_ (in_t3 (List.mem_of_getElem? (i := 48) (by decide +kernel))) rfl
theorem im_X3_entry : Cond.instanceMethod yX3_entry ∈ lw_g := gd_ (in_t3 (List.mem_of_getElem? (i := 49) (by decide +kernel))) rfl
theorem se_X3_entry : Cond.selects RX3 yX3_entry yX3_entry ∈ lw_g := gd_ (in_t3 (List.mem_of_getElem? (i := 50) (by decide +kernel))) rfl
theorem co_X3_entry : Cond.code yX3_entry cX3_entry 4 (Option.some Jvm.ClassFile.FieldType.int) ∈ lw_g := gd_ (in_t3 (List.mem_of_getElem? (i := 51) (by decide +kernel))) rfl
theorem ml_L_130 : Cond.methodLink RL 130 yX3_target ∈ lw_g := gd_ (in_t3 (List.mem_of_getElem? (i := 52) (by decide +kernel))) rfl
theorem im_X3_target : Cond.instanceMethod yX3_target ∈ lw_g := gd_ (in_t3 (List.mem_of_getElem? (i := 53) (by decide +kernel))) rfl
theorem se_X3_target : Cond.selects RX3 yX3_target yX3_target ∈ lw_g := gd_ (in_t3 (List.mem_of_getElem? (i := 54) (by decide +kernel))) rfl
theorem co_X3_target : Cond.code yX3_target cX3_target 3 (Option.some Jvm.ClassFile.FieldType.int) ∈ lw_g := gd_ (in_t3 (List.mem_of_getElem? (i := 55) (by decide +kernel))) rfl
theorem ml_L_134 : Cond.methodLink RL 134 yX3_why ∈ lw_g := gd_ (in_t3 (List.mem_of_getElem? (i := 56) (by decide +kernel))) rfl
theorem im_X3_why : Cond.instanceMethod yX3_why ∈ lw_g := gd_ (in_t3 (List.mem_of_getElem? (i := 57) (by decide +kernel))) rfl
theorem se_X3_why : Cond.selects RX3 yX3_why yX3_why ∈ lw_g := gd_ (in_t3 (List.mem_of_getElem? (i := 58) (by decide +kernel))) rfl
theorem co_X3_why : Cond.code yX3_why cX3_why 3 (Option.some Jvm.ClassFile.FieldType.int) ∈ lw_g := gd_ (in_t3 (List.mem_of_getElem? (i := 59) (by decide +kernel))) rfl
theorem ml_L_138 : Cond.methodLink RL 138 yX3_on ∈ lw_g := gd_ (in_t3 (List.mem_of_getElem? (i := 60) (by decide +kernel))) rfl
theorem im_X3_on : Cond.instanceMethod yX3_on ∈ lw_g := gd_ (in_t3 (List.mem_of_getElem? (i := 61) (by decide +kernel))) rfl
theorem se_X3_on : Cond.selects RX3 yX3_on yX3_on ∈ lw_g := gd_ (in_t3 (List.mem_of_getElem? (i := 62) (by decide +kernel))) rfl
theorem co_X3_on : Cond.code yX3_on cX3_on 3 (Option.some Jvm.ClassFile.FieldType.int) ∈ lw_g := gd_ (in_t3 (List.mem_of_getElem? (i := 63) (by decide +kernel))) rfl
theorem ml_L_142 : Cond.methodLink RL 142 yX3_stuck ∈ lw_g := gd_ (in_t3 (List.mem_of_getElem? (i := 64) (by decide +kernel))) rfl
theorem im_X3_stuck : Cond.instanceMethod yX3_stuck ∈ lw_g := gd_ (in_t3 (List.mem_of_getElem? (i := 65) (by decide +kernel))) rfl
theorem se_X3_stuck : Cond.selects RX3 yX3_stuck yX3_stuck ∈ lw_g := gd_ (in_t3 (List.mem_of_getElem? (i := 66) (by decide +kernel))) rfl
theorem co_X3_stuck : Cond.code yX3_stuck cX3_stuck 4 (Option.some Jvm.ClassFile.FieldType.boolean) ∈ lw_g := gd_ (in_t3 (List.mem_of_getElem? (i := 67) (by decide +kernel))) rfl
theorem ml_X3_243 : Cond.methodLink RX3 243 yX3_isAnyReady ∈ lw_g := gd_ (in_t3 (List.mem_of_getElem? (i := 68) (by decide +kernel))) rfl
theorem im_X3_isAnyReady : Cond.instanceMethod yX3_isAnyReady ∈ lw_g := gd_ (in_t3 (List.mem_of_getElem? (i := 70) (by decide +kernel))) rfl
theorem co_X3_isAnyReady : Cond.code yX3_isAnyReady cX3_isAnyReady 3 (Option.some Jvm.ClassFile.FieldType.boolean) ∈ lw_g := gd_ (in_t3 (List.mem_of_getElem? (i := 71) (by decide +kernel))) rfl
theorem ml_L_147 : Cond.methodLink RL 147 yX3_found ∈ lw_g := gd_ (in_t3 (List.mem_of_getElem? (i := 72) (by decide +kernel))) rfl
theorem im_X3_found : Cond.instanceMethod yX3_found ∈ lw_g := gd_ (in_t3 (List.mem_of_getElem? (i := 73) (by decide +kernel))) rfl
theorem se_X3_found : Cond.selects RX3 yX3_found yX3_found ∈ lw_g := gd_ (in_t3 (List.mem_of_getElem? (i := 74) (by decide +kernel))) rfl
theorem co_X3_found : Cond.code yX3_found cX3_found 2 (Option.some Jvm.ClassFile.FieldType.int) ∈ lw_g := gd_ (in_t3 (List.mem_of_getElem? (i := 75) (by decide +kernel))) rfl
theorem cl_L_10 : Cond.classLink RL 10 RX4 ∈ lw_g := gd_ (in_t3 (List.mem_of_getElem? (i := 76) (by decide +kernel))) rfl
theorem ib_X4 : Cond.instantiable RX4 42 ∈ lw_g := gd_ (in_t3 (List.mem_of_getElem? (i := 77) (by decide +kernel))) rfl
theorem ml_L_12 : Cond.methodLink RL 12 yX4_init ∈ lw_g := gd_ (in_t3 (List.mem_of_getElem? (i := 78) (by decide +kernel))) rfl
theorem im_X4_init : Cond.instanceMethod yX4_init ∈ lw_g := gd_ (in_t3 (List.mem_of_getElem? (i := 79) (by decide +kernel))) rfl
theorem co_X4_init : Cond.code yX4_init cX4_init 1 (Option.none : Option Jvm.ClassFile.FieldType) ∈ lw_g := gd_ (in_t3 (List.mem_of_getElem? (i := 80) (by decide +kernel))) rfl
theorem ml_X4_1 : Cond.methodLink RX4 1 (⟨"java/lang/Object", "<init>", "()V"⟩ : MethodName) ∈ lw_g := gd_ (in_t3 (List.mem_of_getElem? (i := 81) (by decide +kernel))) rfl
theorem fl_X4_121 : Cond.fieldLink RX4 121 "RingPostModel" "rings" "I" ∈ lw_g := gd_ (in_t3 (List.mem_of_getElem? (i := 82) (by decide +kernel))) rfl
theorem fl_X4_7 : Cond.fieldLink RX4 7 "RingPostModel" "slots" "[I" ∈ lw_g := gd_ (in_t3 (List.mem_of_getElem? (i := 83) (by decide +kernel))) rfl
theorem fl_X4_13 : Cond.fieldLink RX4 13 "RingPostModel" "claimed" "[I" ∈ lw_g := gd_ (in_t3 (List.mem_of_getElem? (i := 84) (by decide +kernel))) rfl
theorem fl_X4_16 : Cond.fieldLink RX4 16 "RingPostModel" "how" "[I" ∈ lw_g := gd_ (in_t3 (List.mem_of_getElem? (i := 85) (by decide +kernel))) rfl
theorem fl_X4_19 : Cond.fieldLink RX4 19 "RingPostModel" "latest" "[J" ∈ lw_g := gd_ (in_t3 (List.mem_of_getElem? (i := 86) (by decide +kernel))) rfl
theorem fl_X4_23 : Cond.fieldLink RX4 23 "RingPostModel" "open" "[Z" ∈ lw_g := gd_ (in_t3 (List.mem_of_getElem? (i := 87) (by decide +kernel))) rfl
theorem fl_X4_27 : Cond.fieldLink RX4 27 "RingPostModel" "stamps" "[J" ∈ lw_g := gd_ (in_t3 (List.mem_of_getElem? (i := 88) (by decide +kernel))) rfl
theorem fl_X4_30 : Cond.fieldLink RX4 30 "RingPostModel" "keys" "[I" ∈ lw_g := gd_ (in_t3 (List.mem_of_getElem? (i := 89) (by decide +kernel))) rfl
theorem fl_X4_33 : Cond.fieldLink RX4 33 "RingPostModel" "lengths" "[I" ∈ lw_g := gd_ (in_t3 (List.mem_of_getElem? (i := 90) (by decide +kernel))) rfl
theorem fl_X4_36 : Cond.fieldLink RX4 36 "RingPostModel" "words" "[J" ∈ lw_g := gd_ (in_t3 (List.mem_of_getElem? (i := 91) (by decide +kernel))) rfl
theorem fl_X4_124 : Cond.fieldLink RX4 124 "RingPostModel" "readers" "I" ∈ lw_g := gd_ (in_t3 (List.mem_of_getElem? (i := 92) (by decide +kernel))) rfl
theorem fl_X4_39 : Cond.fieldLink RX4 39 "RingPostModel" "kinds" "[I" ∈ lw_g := gd_ (in_t3 (List.mem_of_getElem? (i := 93) (by decide +kernel))) rfl
theorem fl_X4_42 : Cond.fieldLink RX4 42 "RingPostModel" "ringOf" "[I" ∈ lw_g := gd_ (in_t3 (List.mem_of_getElem? (i := 94) (by decide +kernel))) rfl
theorem fl_X4_45 : Cond.fieldLink RX4 45 "RingPostModel" "placeOf" "[I" ∈ lw_g := gd_ (in_t3 (List.mem_of_getElem? (i := 95) (by decide +kernel))) rfl
theorem fl_X4_48 : Cond.fieldLink RX4 48 "RingPostModel" "ringMany" "[I" ∈ lw_g := gd_ (in_t3 (List.mem_of_getElem? (i := 96) (by decide +kernel))) rfl
theorem fl_X4_51 : Cond.fieldLink RX4 51 "RingPostModel" "names" "[I" ∈ lw_g := gd_ (in_t3 (List.mem_of_getElem? (i := 97) (by decide +kernel))) rfl
theorem fl_X4_54 : Cond.fieldLink RX4 54 "RingPostModel" "nameMany" "[I" ∈ lw_g := gd_ (in_t3 (List.mem_of_getElem? (i := 98) (by decide +kernel))) rfl
theorem fl_X4_57 : Cond.fieldLink RX4 57 "RingPostModel" "targets" "[I" ∈ lw_g := gd_ (in_t3 (List.mem_of_getElem? (i := 99) (by decide +kernel))) rfl
theorem fl_X4_60 : Cond.fieldLink RX4 60 "RingPostModel" "missed" "[I" ∈ lw_g := gd_ (in_t3 (List.mem_of_getElem? (i := 100) (by decide +kernel))) rfl
theorem fl_X4_63 : Cond.fieldLink RX4 63 "RingPostModel" "spanFrom" "[I" ∈ lw_g := gd_ (in_t3 (List.mem_of_getElem? (i := 101) (by decide +kernel))) rfl
theorem fl_X4_66 : Cond.fieldLink RX4 66 "RingPostModel" "spanTo" "[I" ∈ lw_g := gd_ (in_t3 (List.mem_of_getElem? (i := 102) (by decide +kernel))) rfl
theorem fl_X4_69 : Cond.fieldLink RX4 69 "RingPostModel" "gets" "[I" ∈ lw_g := gd_ (in_t3 (List.mem_of_getElem? (i := 103) (by decide +kernel))) rfl
theorem fl_X4_72 : Cond.fieldLink RX4 72 "RingPostModel" "gotRing" "[I" ∈ lw_g := gd_ (in_t3 (List.mem_of_getElem? (i := 104) (by decide +kernel))) rfl
theorem fl_X4_75 : Cond.fieldLink RX4 75 "RingPostModel" "gotNumber" "[I" ∈ lw_g := gd_ (in_t3 (List.mem_of_getElem? (i := 105) (by decide +kernel))) rfl
theorem fl_X4_78 : Cond.fieldLink RX4 78 "RingPostModel" "gotStamp" "[J" ∈ lw_g := gd_ (in_t3 (List.mem_of_getElem? (i := 106) (by decide +kernel))) rfl
theorem fl_X4_81 : Cond.fieldLink RX4 81 "RingPostModel" "gotKey" "[I" ∈ lw_g := gd_ (in_t3 (List.mem_of_getElem? (i := 107) (by decide +kernel))) rfl
theorem fl_X4_84 : Cond.fieldLink RX4 84 "RingPostModel" "gotLength" "[I" ∈ lw_g := gd_ (in_t3 (List.mem_of_getElem? (i := 108) (by decide +kernel))) rfl
theorem fl_X4_87 : Cond.fieldLink RX4 87 "RingPostModel" "gotWords" "[J" ∈ lw_g := gd_ (in_t3 (List.mem_of_getElem? (i := 109) (by decide +kernel))) rfl
theorem fl_X4_90 : Cond.fieldLink RX4 90 "RingPostModel" "entryMany" "[I" ∈ lw_g := gd_ (in_t3 (List.mem_of_getElem? (i := 110) (by decide +kernel))) rfl
theorem fl_X4_93 : Cond.fieldLink RX4 93 "RingPostModel" "entryNumber" "[I" ∈ lw_g := gd_ (in_t3 (List.mem_of_getElem? (i := 111) (by decide +kernel))) rfl
theorem fl_X4_96 : Cond.fieldLink RX4 96 "RingPostModel" "entryStamp" "[J" ∈ lw_g := gd_ (in_t3 (List.mem_of_getElem? (i := 112) (by decide +kernel))) rfl
theorem fl_X4_99 : Cond.fieldLink RX4 99 "RingPostModel" "entryKey" "[I" ∈ lw_g := gd_ (in_t3 (List.mem_of_getElem? (i := 113) (by decide +kernel))) rfl
theorem fl_X4_102 : Cond.fieldLink RX4 102 "RingPostModel" "entryLength" "[I" ∈ lw_g := gd_ (in_t3 (List.mem_of_getElem? (i := 114) (by decide +kernel))) rfl
theorem fl_X4_105 : Cond.fieldLink RX4 105 "RingPostModel" "entryWords" "[J" ∈ lw_g := gd_ (in_t3 (List.mem_of_getElem? (i := 115) (by decide +kernel))) rfl
theorem fl_X4_135 : Cond.fieldLink RX4 135 "RingPostModel" "begun" "Z" ∈ lw_g := gd_ (in_t3 (List.mem_of_getElem? (i := 116) (by decide +kernel))) rfl
theorem fl_X4_139 : Cond.fieldLink RX4 139 "RingPostModel" "made" "I" ∈ lw_g := gd_ (in_t3 (List.mem_of_getElem? (i := 117) (by decide +kernel))) rfl
theorem fl_X4_108 : Cond.fieldLink RX4 108 "RingPostModel" "heldBy" "I" ∈ lw_g := gd_ (in_t3 (List.mem_of_getElem? (i := 118) (by decide +kernel))) rfl
theorem fl_X4_193 : Cond.fieldLink RX4 193 "RingPostModel" "refusal" "I" ∈ lw_g := gd_ (in_t3 (List.mem_of_getElem? (i := 119) (by decide +kernel))) rfl
theorem fl_X4_112 : Cond.fieldLink RX4 112 "RingPostModel" "finds" "[I" ∈ lw_g := gd_ (in_t3 (List.mem_of_getElem? (i := 120) (by decide +kernel))) rfl
theorem fl_X4_115 : Cond.fieldLink RX4 115 "RingPostModel" "way" "[I" ∈ lw_g := gd_ (in_t3 (List.mem_of_getElem? (i := 121) (by decide +kernel))) rfl
theorem fl_X4_153 : Cond.fieldLink RX4 153 "RingPostModel" "wayMany" "I" ∈ lw_g := gd_ (in_t3 (List.mem_of_getElem? (i := 122) (by decide +kernel))) rfl
theorem fl_X4_118 : Cond.fieldLink RX4 118 "RingPostModel" "reached" "[Z" ∈ lw_g := gd_ (in_t3 (List.mem_of_getElem? (i := 123) (by decide +kernel))) rfl
theorem arc_Jvm_ClassFile_FieldType_boolean : Cond.arrayClass Jvm.ClassFile.FieldType.boolean ∈ lw_g := gd_ (in_t3 (List.mem_of_getElem? (i := 209) (by decide +kernel))) rfl
theorem ml_L_17 : Cond.methodLink RL 17 yX4_ring ∈ lw_g := gd_ (in_t3 (List.mem_of_getElem? (i := 210) (by decide +kernel))) rfl
theorem im_X4_ring : Cond.instanceMethod yX4_ring ∈ lw_g := gd_ (in_t3 (List.mem_of_getElem? (i := 211) (by decide +kernel))) rfl
theorem se_X4_ring : Cond.selects RX4 yX4_ring yX4_ring ∈ lw_g := gd_ (in_t3 (List.mem_of_getElem? (i := 212) (by decide +kernel))) rfl
theorem co_X4_ring : Cond.code yX4_ring cX4_ring 2 (Option.some Jvm.ClassFile.FieldType.int) ∈ lw_g := gd_ (in_t3 (List.mem_of_getElem? (i := 213) (by decide +kernel))) rfl
theorem ml_X4_131 : Cond.methodLink RX4 131 yX4_find ∈ lw_g := gd_ (in_t3 (List.mem_of_getElem? (i := 214) (by decide +kernel))) rfl
theorem im_X4_find : Cond.instanceMethod yX4_find ∈ lw_g := gd_ (in_t3 (List.mem_of_getElem? (i := 216) (by decide +kernel))) rfl
theorem co_X4_find : Cond.code yX4_find cX4_find 2 (Option.some Jvm.ClassFile.FieldType.int) ∈ lw_g := gd_ (in_t3 (List.mem_of_getElem? (i := 217) (by decide +kernel))) rfl
theorem ml_L_22 : Cond.methodLink RL 22 yX4_reader ∈ lw_g := gd_ (in_t3 (List.mem_of_getElem? (i := 218) (by decide +kernel))) rfl
theorem im_X4_reader : Cond.instanceMethod yX4_reader ∈ lw_g := gd_ (in_t3 (List.mem_of_getElem? (i := 219) (by decide +kernel))) rfl
theorem se_X4_reader : Cond.selects RX4 yX4_reader yX4_reader ∈ lw_g := gd_ (in_t3 (List.mem_of_getElem? (i := 220) (by decide +kernel))) rfl
theorem co_X4_reader : Cond.code yX4_reader cX4_reader 5 (Option.some Jvm.ClassFile.FieldType.int) ∈ lw_g := gd_ (in_t3 (List.mem_of_getElem? (i := 221) (by decide +kernel))) rfl
theorem ml_X4_149 : Cond.methodLink RX4 149 yX4_isNumbered ∈ lw_g := gd_ (in_t3 (List.mem_of_getElem? (i := 222) (by decide +kernel))) rfl
theorem im_X4_isNumbered : Cond.instanceMethod yX4_isNumbered ∈ lw_g := gd_ (in_t3 (List.mem_of_getElem? (i := 224) (by decide +kernel))) rfl
theorem co_X4_isNumbered : Cond.code yX4_isNumbered cX4_isNumbered 4 (Option.some Jvm.ClassFile.FieldType.boolean) ∈ lw_g := gd_ (in_t3 (List.mem_of_getElem? (i := 225) (by decide +kernel))) rfl
theorem ml_X4_142 : Cond.methodLink RX4 142 yX4_isRing ∈ lw_g := gd_ (in_t3 (List.mem_of_getElem? (i := 226) (by decide +kernel))) rfl
theorem im_X4_isRing : Cond.instanceMethod yX4_isRing ∈ lw_g := gd_ (in_t3 (List.mem_of_getElem? (i := 228) (by decide +kernel))) rfl
theorem co_X4_isRing : Cond.code yX4_isRing cX4_isRing 2 (Option.some Jvm.ClassFile.FieldType.boolean) ∈ lw_g := gd_ (in_t3 (List.mem_of_getElem? (i := 229) (by decide +kernel))) rfl
theorem ml_X4_146 : Cond.methodLink RX4 146 yX4_isReader ∈ lw_g := gd_ (in_t3 (List.mem_of_getElem? (i := 230) (by decide +kernel))) rfl
theorem im_X4_isReader : Cond.instanceMethod yX4_isReader ∈ lw_g := gd_ (in_t3 (List.mem_of_getElem? (i := 232) (by decide +kernel))) rfl
theorem co_X4_isReader : Cond.code yX4_isReader cX4_isReader 2 (Option.some Jvm.ClassFile.FieldType.boolean) ∈ lw_g := gd_ (in_t3 (List.mem_of_getElem? (i := 233) (by decide +kernel))) rfl
theorem ml_X4_127 : Cond.methodLink RX4 127 yX4_index ∈ lw_g := gd_ (in_t3 (List.mem_of_getElem? (i := 234) (by decide +kernel))) rfl
theorem im_X4_index : Cond.instanceMethod yX4_index ∈ lw_g := gd_ (in_t3 (List.mem_of_getElem? (i := 236) (by decide +kernel))) rfl
theorem co_X4_index : Cond.code yX4_index cX4_index 5 (Option.some Jvm.ClassFile.FieldType.int) ∈ lw_g := gd_ (in_t3 (List.mem_of_getElem? (i := 237) (by decide +kernel))) rfl
theorem ml_L_27 : Cond.methodLink RL 27 yX4_join ∈ lw_g := gd_ (in_t3 (List.mem_of_getElem? (i := 238) (by decide +kernel))) rfl
theorem im_X4_join : Cond.instanceMethod yX4_join ∈ lw_g := gd_ (in_t3 (List.mem_of_getElem? (i := 239) (by decide +kernel))) rfl
theorem se_X4_join : Cond.selects RX4 yX4_join yX4_join ∈ lw_g := gd_ (in_t4 (List.mem_of_getElem? (i := 0) (by decide +kernel))) rfl
theorem co_X4_join : Cond.code yX4_join cX4_join 3 (Option.some Jvm.ClassFile.FieldType.int) ∈ lw_g := gd_ (in_t4 (List.mem_of_getElem? (i := 1) (by decide +kernel))) rfl
theorem ml_L_31 : Cond.methodLink RL 31 yX4_name ∈ lw_g := gd_ (in_t4 (List.mem_of_getElem? (i := 2) (by decide +kernel))) rfl
theorem im_X4_name : Cond.instanceMethod yX4_name ∈ lw_g := gd_ (in_t4 (List.mem_of_getElem? (i := 3) (by decide +kernel))) rfl
theorem se_X4_name : Cond.selects RX4 yX4_name yX4_name ∈ lw_g := gd_ (in_t4 (List.mem_of_getElem? (i := 4) (by decide +kernel))) rfl
theorem co_X4_name : Cond.code yX4_name cX4_name 3 (Option.some Jvm.ClassFile.FieldType.int) ∈ lw_g := gd_ (in_t4 (List.mem_of_getElem? (i := 5) (by decide +kernel))) rfl
theorem ml_X4_156 : Cond.methodLink RX4 156 yX4_doesName ∈ lw_g := gd_ (in_t4 (List.mem_of_getElem? (i := 6) (by decide +kernel))) rfl
theorem im_X4_doesName : Cond.instanceMethod yX4_doesName ∈ lw_g := gd_ (in_t4 (List.mem_of_getElem? (i := 8) (by decide +kernel))) rfl
theorem co_X4_doesName : Cond.code yX4_doesName cX4_doesName 5 (Option.some Jvm.ClassFile.FieldType.boolean) ∈ lw_g := gd_ (in_t4 (List.mem_of_getElem? (i := 9) (by decide +kernel))) rfl
theorem ml_X4_160 : Cond.methodLink RX4 160 yX4_reach ∈ lw_g := gd_ (in_t4 (List.mem_of_getElem? (i := 10) (by decide +kernel))) rfl
theorem im_X4_reach : Cond.instanceMethod yX4_reach ∈ lw_g := gd_ (in_t4 (List.mem_of_getElem? (i := 12) (by decide +kernel))) rfl
theorem co_X4_reach : Cond.code yX4_reach cX4_reach 6 (Option.none : Option Jvm.ClassFile.FieldType) ∈ lw_g := gd_ (in_t4 (List.mem_of_getElem? (i := 13) (by decide +kernel))) rfl
theorem ml_X4_164 : Cond.methodLink RX4 164 yX4_go ∈ lw_g := gd_ (in_t4 (List.mem_of_getElem? (i := 14) (by decide +kernel))) rfl
theorem im_X4_go : Cond.instanceMethod yX4_go ∈ lw_g := gd_ (in_t4 (List.mem_of_getElem? (i := 16) (by decide +kernel))) rfl
theorem co_X4_go : Cond.code yX4_go cX4_go 6 (Option.none : Option Jvm.ClassFile.FieldType) ∈ lw_g := gd_ (in_t4 (List.mem_of_getElem? (i := 17) (by decide +kernel))) rfl
theorem ml_L_35 : Cond.methodLink RL 35 yX4_circle ∈ lw_g := gd_ (in_t4 (List.mem_of_getElem? (i := 18) (by decide +kernel))) rfl
theorem im_X4_circle : Cond.instanceMethod yX4_circle ∈ lw_g := gd_ (in_t4 (List.mem_of_getElem? (i := 19) (by decide +kernel))) rfl
theorem se_X4_circle : Cond.selects RX4 yX4_circle yX4_circle ∈ lw_g := gd_ (in_t4 (List.mem_of_getElem? (i := 20) (by decide +kernel))) rfl
theorem co_X4_circle : Cond.code yX4_circle cX4_circle 2 (Option.some Jvm.ClassFile.FieldType.int) ∈ lw_g := gd_ (in_t4 (List.mem_of_getElem? (i := 21) (by decide +kernel))) rfl
theorem ml_L_40 : Cond.methodLink RL 40 yX4_begin ∈ lw_g := gd_ (in_t4 (List.mem_of_getElem? (i := 22) (by decide +kernel))) rfl
theorem im_X4_begin : Cond.instanceMethod yX4_begin ∈ lw_g := gd_ (in_t4 (List.mem_of_getElem? (i := 23) (by decide +kernel))) rfl
theorem se_X4_begin : Cond.selects RX4 yX4_begin yX4_begin ∈ lw_g := gd_ (in_t4 (List.mem_of_getElem? (i := 24) (by decide +kernel))) rfl
theorem co_X4_begin : Cond.code yX4_begin cX4_begin 1 (Option.some Jvm.ClassFile.FieldType.int) ∈ lw_g := gd_ (in_t4 (List.mem_of_getElem? (i := 25) (by decide +kernel))) rfl
theorem ml_L_44 : Cond.methodLink RL 44 yX4_made ∈ lw_g := gd_ (in_t4 (List.mem_of_getElem? (i := 26) (by decide +kernel))) rfl
theorem im_X4_made : Cond.instanceMethod yX4_made ∈ lw_g := gd_ (in_t4 (List.mem_of_getElem? (i := 27) (by decide +kernel))) rfl
theorem se_X4_made : Cond.selects RX4 yX4_made yX4_made ∈ lw_g := gd_ (in_t4 (List.mem_of_getElem? (i := 28) (by decide +kernel))) rfl
theorem co_X4_made : Cond.code yX4_made cX4_made 1 (Option.some Jvm.ClassFile.FieldType.int) ∈ lw_g := gd_ (in_t4 (List.mem_of_getElem? (i := 29) (by decide +kernel))) rfl
theorem ml_L_51 : Cond.methodLink RL 51 yX4_claim ∈ lw_g := gd_ (in_t4 (List.mem_of_getElem? (i := 30) (by decide +kernel))) rfl
theorem im_X4_claim : Cond.instanceMethod yX4_claim ∈ lw_g := gd_ (in_t4 (List.mem_of_getElem? (i := 31) (by decide +kernel))) rfl
theorem se_X4_claim : Cond.selects RX4 yX4_claim yX4_claim ∈ lw_g := gd_ (in_t4 (List.mem_of_getElem? (i := 32) (by decide +kernel))) rfl
theorem co_X4_claim : Cond.code yX4_claim cX4_claim 4 (Option.some Jvm.ClassFile.FieldType.int) ∈ lw_g := gd_ (in_t4 (List.mem_of_getElem? (i := 33) (by decide +kernel))) rfl
theorem ml_X4_200 : Cond.methodLink RX4 200 yX4_makeAll ∈ lw_g := gd_ (in_t4 (List.mem_of_getElem? (i := 34) (by decide +kernel))) rfl
theorem im_X4_makeAll : Cond.instanceMethod yX4_makeAll ∈ lw_g := gd_ (in_t4 (List.mem_of_getElem? (i := 36) (by decide +kernel))) rfl
theorem co_X4_makeAll : Cond.code yX4_makeAll cX4_makeAll 8 (Option.some Jvm.ClassFile.FieldType.int) ∈ lw_g := gd_ (in_t4 (List.mem_of_getElem? (i := 37) (by decide +kernel))) rfl
theorem ml_X4_189 : Cond.methodLink RX4 189 yX4_hinders ∈ lw_g := gd_ (in_t4 (List.mem_of_getElem? (i := 38) (by decide +kernel))) rfl
theorem im_X4_hinders : Cond.instanceMethod yX4_hinders ∈ lw_g := gd_ (in_t4 (List.mem_of_getElem? (i := 40) (by decide +kernel))) rfl
theorem co_X4_hinders : Cond.code yX4_hinders cX4_hinders 7 (Option.some Jvm.ClassFile.FieldType.int) ∈ lw_g := gd_ (in_t4 (List.mem_of_getElem? (i := 41) (by decide +kernel))) rfl
theorem ml_X4_186 : Cond.methodLink RX4 186 yX4_isHeld ∈ lw_g := gd_ (in_t4 (List.mem_of_getElem? (i := 42) (by decide +kernel))) rfl
theorem im_X4_isHeld : Cond.instanceMethod yX4_isHeld ∈ lw_g := gd_ (in_t4 (List.mem_of_getElem? (i := 44) (by decide +kernel))) rfl
theorem co_X4_isHeld : Cond.code yX4_isHeld cX4_isHeld 3 (Option.some Jvm.ClassFile.FieldType.boolean) ∈ lw_g := gd_ (in_t4 (List.mem_of_getElem? (i := 45) (by decide +kernel))) rfl
theorem ml_X4_180 : Cond.methodLink RX4 180 yX4_isOpen ∈ lw_g := gd_ (in_t4 (List.mem_of_getElem? (i := 46) (by decide +kernel))) rfl
theorem im_X4_isOpen : Cond.instanceMethod yX4_isOpen ∈ lw_g := gd_ (in_t4 (List.mem_of_getElem? (i := 48) (by decide +kernel))) rfl
theorem co_X4_isOpen : Cond.code yX4_isOpen cX4_isOpen 3 (Option.some Jvm.ClassFile.FieldType.boolean) ∈ lw_g := gd_ (in_t4 (List.mem_of_getElem? (i := 49) (by decide +kernel))) rfl
theorem ml_X4_168 : Cond.methodLink RX4 168 yX4_isKept ∈ lw_g := gd_ (in_t4 (List.mem_of_getElem? (i := 50) (by decide +kernel))) rfl
theorem im_X4_isKept : Cond.instanceMethod yX4_isKept ∈ lw_g := gd_ (in_t4 (List.mem_of_getElem? (i := 52) (by decide +kernel))) rfl
theorem co_X4_isKept : Cond.code yX4_isKept cX4_isKept 3 (Option.some Jvm.ClassFile.FieldType.boolean) ∈ lw_g := gd_ (in_t4 (List.mem_of_getElem? (i := 53) (by decide +kernel))) rfl
theorem ml_X4_171 : Cond.methodLink RX4 171 yX4_slot ∈ lw_g := gd_ (in_t4 (List.mem_of_getElem? (i := 54) (by decide +kernel))) rfl
theorem im_X4_slot : Cond.instanceMethod yX4_slot ∈ lw_g := gd_ (in_t4 (List.mem_of_getElem? (i := 56) (by decide +kernel))) rfl
theorem co_X4_slot : Cond.code yX4_slot cX4_slot 3 (Option.some Jvm.ClassFile.FieldType.int) ∈ lw_g := gd_ (in_t4 (List.mem_of_getElem? (i := 57) (by decide +kernel))) rfl
theorem ml_X4_183 : Cond.methodLink RX4 183 yX4_holderOf ∈ lw_g := gd_ (in_t4 (List.mem_of_getElem? (i := 58) (by decide +kernel))) rfl
theorem im_X4_holderOf : Cond.instanceMethod yX4_holderOf ∈ lw_g := gd_ (in_t4 (List.mem_of_getElem? (i := 60) (by decide +kernel))) rfl
theorem co_X4_holderOf : Cond.code yX4_holderOf cX4_holderOf 5 (Option.some Jvm.ClassFile.FieldType.int) ∈ lw_g := gd_ (in_t4 (List.mem_of_getElem? (i := 61) (by decide +kernel))) rfl
theorem ml_X4_174 : Cond.methodLink RX4 174 yX4_isHolder ∈ lw_g := gd_ (in_t4 (List.mem_of_getElem? (i := 62) (by decide +kernel))) rfl
theorem im_X4_isHolder : Cond.instanceMethod yX4_isHolder ∈ lw_g := gd_ (in_t4 (List.mem_of_getElem? (i := 64) (by decide +kernel))) rfl
theorem co_X4_isHolder : Cond.code yX4_isHolder cX4_isHolder 4 (Option.some Jvm.ClassFile.FieldType.boolean) ∈ lw_g := gd_ (in_t4 (List.mem_of_getElem? (i := 65) (by decide +kernel))) rfl
theorem ml_X4_177 : Cond.methodLink RX4 177 yX4_placeIn ∈ lw_g := gd_ (in_t4 (List.mem_of_getElem? (i := 66) (by decide +kernel))) rfl
theorem im_X4_placeIn : Cond.instanceMethod yX4_placeIn ∈ lw_g := gd_ (in_t4 (List.mem_of_getElem? (i := 68) (by decide +kernel))) rfl
theorem co_X4_placeIn : Cond.code yX4_placeIn cX4_placeIn 4 (Option.some Jvm.ClassFile.FieldType.int) ∈ lw_g := gd_ (in_t4 (List.mem_of_getElem? (i := 69) (by decide +kernel))) rfl
theorem ml_X4_196 : Cond.methodLink RX4 196 yX4_make ∈ lw_g := gd_ (in_t4 (List.mem_of_getElem? (i := 70) (by decide +kernel))) rfl
theorem im_X4_make : Cond.instanceMethod yX4_make ∈ lw_g := gd_ (in_t4 (List.mem_of_getElem? (i := 72) (by decide +kernel))) rfl
theorem co_X4_make : Cond.code yX4_make cX4_make 6 (Option.none : Option Jvm.ClassFile.FieldType) ∈ lw_g := gd_ (in_t4 (List.mem_of_getElem? (i := 73) (by decide +kernel))) rfl
theorem ml_L_56 : Cond.methodLink RL 56 yX4_batch ∈ lw_g := gd_ (in_t4 (List.mem_of_getElem? (i := 74) (by decide +kernel))) rfl
theorem im_X4_batch : Cond.instanceMethod yX4_batch ∈ lw_g := gd_ (in_t4 (List.mem_of_getElem? (i := 75) (by decide +kernel))) rfl
theorem se_X4_batch : Cond.selects RX4 yX4_batch yX4_batch ∈ lw_g := gd_ (in_t4 (List.mem_of_getElem? (i := 76) (by decide +kernel))) rfl
theorem co_X4_batch : Cond.code yX4_batch cX4_batch 5 (Option.some Jvm.ClassFile.FieldType.int) ∈ lw_g := gd_ (in_t4 (List.mem_of_getElem? (i := 77) (by decide +kernel))) rfl
theorem ml_L_60 : Cond.methodLink RL 60 yX4_by ∈ lw_g := gd_ (in_t4 (List.mem_of_getElem? (i := 78) (by decide +kernel))) rfl
theorem im_X4_by : Cond.instanceMethod yX4_by ∈ lw_g := gd_ (in_t4 (List.mem_of_getElem? (i := 79) (by decide +kernel))) rfl
theorem se_X4_by : Cond.selects RX4 yX4_by yX4_by ∈ lw_g := gd_ (in_t4 (List.mem_of_getElem? (i := 80) (by decide +kernel))) rfl
theorem co_X4_by : Cond.code yX4_by cX4_by 1 (Option.some Jvm.ClassFile.FieldType.int) ∈ lw_g := gd_ (in_t4 (List.mem_of_getElem? (i := 81) (by decide +kernel))) rfl
theorem ml_L_64 : Cond.methodLink RL 64 yX4_again ∈ lw_g := gd_ (in_t4 (List.mem_of_getElem? (i := 82) (by decide +kernel))) rfl
theorem im_X4_again : Cond.instanceMethod yX4_again ∈ lw_g := gd_ (in_t4 (List.mem_of_getElem? (i := 83) (by decide +kernel))) rfl
theorem se_X4_again : Cond.selects RX4 yX4_again yX4_again ∈ lw_g := gd_ (in_t4 (List.mem_of_getElem? (i := 84) (by decide +kernel))) rfl
theorem co_X4_again : Cond.code yX4_again cX4_again 1 (Option.some Jvm.ClassFile.FieldType.int) ∈ lw_g := gd_ (in_t4 (List.mem_of_getElem? (i := 85) (by decide +kernel))) rfl
theorem ml_L_69 : Cond.methodLink RL 69 yX4_fill ∈ lw_g := gd_ (in_t4 (List.mem_of_getElem? (i := 86) (by decide +kernel))) rfl
theorem im_X4_fill : Cond.instanceMethod yX4_fill ∈ lw_g := gd_ (in_t4 (List.mem_of_getElem? (i := 87) (by decide +kernel))) rfl
theorem se_X4_fill : Cond.selects RX4 yX4_fill yX4_fill ∈ lw_g := gd_ (in_t4 (List.mem_of_getElem? (i := 88) (by decide +kernel))) rfl
theorem co_X4_fill : Cond.code yX4_fill cX4_fill 6 (Option.some Jvm.ClassFile.FieldType.int) ∈ lw_g := gd_ (in_t4 (List.mem_of_getElem? (i := 89) (by decide +kernel))) rfl
theorem ml_L_74 : Cond.methodLink RL 74 yX4_copy ∈ lw_g := gd_ (in_t4 (List.mem_of_getElem? (i := 90) (by decide +kernel))) rfl
theorem im_X4_copy : Cond.instanceMethod yX4_copy ∈ lw_g := gd_ (in_t4 (List.mem_of_getElem? (i := 91) (by decide +kernel))) rfl
theorem se_X4_copy : Cond.selects RX4 yX4_copy yX4_copy ∈ lw_g := gd_ (in_t4 (List.mem_of_getElem? (i := 92) (by decide +kernel))) rfl
theorem co_X4_copy : Cond.code yX4_copy cX4_copy 7 (Option.some Jvm.ClassFile.FieldType.int) ∈ lw_g := gd_ (in_t4 (List.mem_of_getElem? (i := 93) (by decide +kernel))) rfl
theorem ml_L_79 : Cond.methodLink RL 79 yX4_publish ∈ lw_g := gd_ (in_t4 (List.mem_of_getElem? (i := 94) (by decide +kernel))) rfl
theorem im_X4_publish : Cond.instanceMethod yX4_publish ∈ lw_g := gd_ (in_t4 (List.mem_of_getElem? (i := 95) (by decide +kernel))) rfl
theorem se_X4_publish : Cond.selects RX4 yX4_publish yX4_publish ∈ lw_g := gd_ (in_t4 (List.mem_of_getElem? (i := 96) (by decide +kernel))) rfl
theorem co_X4_publish : Cond.code yX4_publish cX4_publish 6 (Option.some Jvm.ClassFile.FieldType.int) ∈ lw_g := gd_ (in_t4 (List.mem_of_getElem? (i := 97) (by decide +kernel))) rfl
theorem ml_X4_207 : Cond.methodLink RX4 207 yX4_fold ∈ lw_g := gd_ (in_t4 (List.mem_of_getElem? (i := 98) (by decide +kernel))) rfl
theorem im_X4_fold : Cond.instanceMethod yX4_fold ∈ lw_g := gd_ (in_t4 (List.mem_of_getElem? (i := 100) (by decide +kernel))) rfl
theorem co_X4_fold : Cond.code yX4_fold cX4_fold 6 (Option.none : Option Jvm.ClassFile.FieldType) ∈ lw_g := gd_ (in_t4 (List.mem_of_getElem? (i := 101) (by decide +kernel))) rfl
theorem ml_X4_203 : Cond.methodLink RX4 203 yX4_enter ∈ lw_g := gd_ (in_t4 (List.mem_of_getElem? (i := 102) (by decide +kernel))) rfl
theorem im_X4_enter : Cond.instanceMethod yX4_enter ∈ lw_g := gd_ (in_t4 (List.mem_of_getElem? (i := 104) (by decide +kernel))) rfl
theorem co_X4_enter : Cond.code yX4_enter cX4_enter 8 (Option.none : Option Jvm.ClassFile.FieldType) ∈ lw_g := gd_ (in_t4 (List.mem_of_getElem? (i := 105) (by decide +kernel))) rfl
theorem ml_L_83 : Cond.methodLink RL 83 yX4_close ∈ lw_g := gd_ (in_t4 (List.mem_of_getElem? (i := 106) (by decide +kernel))) rfl
theorem im_X4_close : Cond.instanceMethod yX4_close ∈ lw_g := gd_ (in_t4 (List.mem_of_getElem? (i := 107) (by decide +kernel))) rfl
theorem se_X4_close : Cond.selects RX4 yX4_close yX4_close ∈ lw_g := gd_ (in_t4 (List.mem_of_getElem? (i := 108) (by decide +kernel))) rfl
theorem co_X4_close : Cond.code yX4_close cX4_close 2 (Option.some Jvm.ClassFile.FieldType.int) ∈ lw_g := gd_ (in_t4 (List.mem_of_getElem? (i := 109) (by decide +kernel))) rfl
theorem ml_L_87 : Cond.methodLink RL 87 yX4_give ∈ lw_g := gd_ (in_t4 (List.mem_of_getElem? (i := 110) (by decide +kernel))) rfl
theorem im_X4_give : Cond.instanceMethod yX4_give ∈ lw_g := gd_ (in_t4 (List.mem_of_getElem? (i := 111) (by decide +kernel))) rfl
theorem se_X4_give : Cond.selects RX4 yX4_give yX4_give ∈ lw_g := gd_ (in_t4 (List.mem_of_getElem? (i := 112) (by decide +kernel))) rfl
theorem co_X4_give : Cond.code yX4_give cX4_give 3 (Option.some Jvm.ClassFile.FieldType.int) ∈ lw_g := gd_ (in_t4 (List.mem_of_getElem? (i := 113) (by decide +kernel))) rfl
theorem ml_X4_210 : Cond.methodLink RX4 210 yX4_leastPlace ∈ lw_g := gd_ (in_t4 (List.mem_of_getElem? (i := 114) (by decide +kernel))) rfl
theorem im_X4_leastPlace : Cond.instanceMethod yX4_leastPlace ∈ lw_g := gd_ (in_t4 (List.mem_of_getElem? (i := 116) (by decide +kernel))) rfl
theorem co_X4_leastPlace : Cond.code yX4_leastPlace cX4_leastPlace 4 (Option.some Jvm.ClassFile.FieldType.int) ∈ lw_g := gd_ (in_t4 (List.mem_of_getElem? (i := 117) (by decide +kernel))) rfl
theorem ml_X4_213 : Cond.methodLink RX4 213 yX4_openMany ∈ lw_g := gd_ (in_t4 (List.mem_of_getElem? (i := 118) (by decide +kernel))) rfl
theorem im_X4_openMany : Cond.instanceMethod yX4_openMany ∈ lw_g := gd_ (in_t4 (List.mem_of_getElem? (i := 120) (by decide +kernel))) rfl
theorem co_X4_openMany : Cond.code yX4_openMany cX4_openMany 4 (Option.some Jvm.ClassFile.FieldType.int) ∈ lw_g := gd_ (in_t4 (List.mem_of_getElem? (i := 121) (by decide +kernel))) rfl
theorem ml_L_91 : Cond.methodLink RL 91 yX4_told ∈ lw_g := gd_ (in_t4 (List.mem_of_getElem? (i := 122) (by decide +kernel))) rfl
theorem im_X4_told : Cond.instanceMethod yX4_told ∈ lw_g := gd_ (in_t4 (List.mem_of_getElem? (i := 123) (by decide +kernel))) rfl
theorem se_X4_told : Cond.selects RX4 yX4_told yX4_told ∈ lw_g := gd_ (in_t4 (List.mem_of_getElem? (i := 124) (by decide +kernel))) rfl
theorem co_X4_told : Cond.code yX4_told cX4_told 3 (Option.some Jvm.ClassFile.FieldType.int) ∈ lw_g := gd_ (in_t4 (List.mem_of_getElem? (i := 125) (by decide +kernel))) rfl
theorem ml_X4_216 : Cond.methodLink RX4 216 yX4_holders ∈ lw_g := gd_ (in_t4 (List.mem_of_getElem? (i := 126) (by decide +kernel))) rfl
theorem im_X4_holders : Cond.instanceMethod yX4_holders ∈ lw_g := gd_ (in_t4 (List.mem_of_getElem? (i := 128) (by decide +kernel))) rfl
theorem co_X4_holders : Cond.code yX4_holders cX4_holders 4 (Option.some Jvm.ClassFile.FieldType.int) ∈ lw_g := gd_ (in_t4 (List.mem_of_getElem? (i := 129) (by decide +kernel))) rfl
theorem ml_X4_219 : Cond.methodLink RX4 219 yX4_isHeldUp ∈ lw_g := gd_ (in_t4 (List.mem_of_getElem? (i := 130) (by decide +kernel))) rfl
theorem im_X4_isHeldUp : Cond.instanceMethod yX4_isHeldUp ∈ lw_g := gd_ (in_t4 (List.mem_of_getElem? (i := 132) (by decide +kernel))) rfl
theorem co_X4_isHeldUp : Cond.code yX4_isHeldUp cX4_isHeldUp 2 (Option.some Jvm.ClassFile.FieldType.boolean) ∈ lw_g := gd_ (in_t4 (List.mem_of_getElem? (i := 133) (by decide +kernel))) rfl
theorem ml_L_96 : Cond.methodLink RL 96 yX4_last ∈ lw_g := gd_ (in_t4 (List.mem_of_getElem? (i := 134) (by decide +kernel))) rfl
theorem im_X4_last : Cond.instanceMethod yX4_last ∈ lw_g := gd_ (in_t4 (List.mem_of_getElem? (i := 135) (by decide +kernel))) rfl
theorem se_X4_last : Cond.selects RX4 yX4_last yX4_last ∈ lw_g := gd_ (in_t4 (List.mem_of_getElem? (i := 136) (by decide +kernel))) rfl
theorem co_X4_last : Cond.code yX4_last cX4_last 2 (Option.some Jvm.ClassFile.FieldType.long) ∈ lw_g := gd_ (in_t4 (List.mem_of_getElem? (i := 137) (by decide +kernel))) rfl
theorem ml_L_137 : Cond.methodLink RL 137 yX4_why ∈ lw_g := gd_ (in_t4 (List.mem_of_getElem? (i := 138) (by decide +kernel))) rfl
theorem im_X4_why : Cond.instanceMethod yX4_why ∈ lw_g := gd_ (in_t4 (List.mem_of_getElem? (i := 139) (by decide +kernel))) rfl
theorem se_X4_why : Cond.selects RX4 yX4_why yX4_why ∈ lw_g := gd_ (in_t4 (List.mem_of_getElem? (i := 140) (by decide +kernel))) rfl
theorem co_X4_why : Cond.code yX4_why cX4_why 2 (Option.some Jvm.ClassFile.FieldType.int) ∈ lw_g := gd_ (in_t4 (List.mem_of_getElem? (i := 141) (by decide +kernel))) rfl
theorem ml_X4_240 : Cond.methodLink RX4 240 yX4_whyOne ∈ lw_g := gd_ (in_t4 (List.mem_of_getElem? (i := 142) (by decide +kernel))) rfl
theorem im_X4_whyOne : Cond.instanceMethod yX4_whyOne ∈ lw_g := gd_ (in_t4 (List.mem_of_getElem? (i := 144) (by decide +kernel))) rfl
theorem co_X4_whyOne : Cond.code yX4_whyOne cX4_whyOne 6 (Option.some Jvm.ClassFile.FieldType.int) ∈ lw_g := gd_ (in_t4 (List.mem_of_getElem? (i := 145) (by decide +kernel))) rfl
theorem ml_X4_228 : Cond.methodLink RX4 228 yX4_lacking ∈ lw_g := gd_ (in_t4 (List.mem_of_getElem? (i := 146) (by decide +kernel))) rfl
theorem im_X4_lacking : Cond.instanceMethod yX4_lacking ∈ lw_g := gd_ (in_t4 (List.mem_of_getElem? (i := 148) (by decide +kernel))) rfl
theorem co_X4_lacking : Cond.code yX4_lacking cX4_lacking 6 (Option.some Jvm.ClassFile.FieldType.int) ∈ lw_g := gd_ (in_t4 (List.mem_of_getElem? (i := 149) (by decide +kernel))) rfl
theorem ml_X4_225 : Cond.methodLink RX4 225 yX4_isPassed ∈ lw_g := gd_ (in_t4 (List.mem_of_getElem? (i := 150) (by decide +kernel))) rfl
theorem im_X4_isPassed : Cond.instanceMethod yX4_isPassed ∈ lw_g := gd_ (in_t4 (List.mem_of_getElem? (i := 152) (by decide +kernel))) rfl
theorem co_X4_isPassed : Cond.code yX4_isPassed cX4_isPassed 4 (Option.some Jvm.ClassFile.FieldType.boolean) ∈ lw_g := gd_ (in_t4 (List.mem_of_getElem? (i := 153) (by decide +kernel))) rfl
theorem ml_X4_222 : Cond.methodLink RX4 222 yX4_isPublished ∈ lw_g := gd_ (in_t4 (List.mem_of_getElem? (i := 154) (by decide +kernel))) rfl
theorem im_X4_isPublished : Cond.instanceMethod yX4_isPublished ∈ lw_g := gd_ (in_t4 (List.mem_of_getElem? (i := 156) (by decide +kernel))) rfl
theorem co_X4_isPublished : Cond.code yX4_isPublished cX4_isPublished 3 (Option.some Jvm.ClassFile.FieldType.boolean) ∈ lw_g := gd_ (in_t4 (List.mem_of_getElem? (i := 157) (by decide +kernel))) rfl
theorem ml_X4_231 : Cond.methodLink RX4 231 yX4_seen ∈ lw_g := gd_ (in_t4 (List.mem_of_getElem? (i := 158) (by decide +kernel))) rfl
theorem im_X4_seen : Cond.instanceMethod yX4_seen ∈ lw_g := gd_ (in_t4 (List.mem_of_getElem? (i := 160) (by decide +kernel))) rfl
theorem co_X4_seen : Cond.code yX4_seen cX4_seen 3 (Option.some Jvm.ClassFile.FieldType.int) ∈ lw_g := gd_ (in_t4 (List.mem_of_getElem? (i := 161) (by decide +kernel))) rfl
theorem ml_X4_234 : Cond.methodLink RX4 234 yX4_from ∈ lw_g := gd_ (in_t4 (List.mem_of_getElem? (i := 162) (by decide +kernel))) rfl
theorem im_X4_from : Cond.instanceMethod yX4_from ∈ lw_g := gd_ (in_t4 (List.mem_of_getElem? (i := 164) (by decide +kernel))) rfl
theorem co_X4_from : Cond.code yX4_from cX4_from 5 (Option.some Jvm.ClassFile.FieldType.int) ∈ lw_g := gd_ (in_t4 (List.mem_of_getElem? (i := 165) (by decide +kernel))) rfl
theorem ml_X4_237 : Cond.methodLink RX4 237 yX4_behind ∈ lw_g := gd_ (in_t4 (List.mem_of_getElem? (i := 166) (by decide +kernel))) rfl
theorem im_X4_behind : Cond.instanceMethod yX4_behind ∈ lw_g := gd_ (in_t4 (List.mem_of_getElem? (i := 168) (by decide +kernel))) rfl
theorem co_X4_behind : Cond.code yX4_behind cX4_behind 7 (Option.some Jvm.ClassFile.FieldType.int) ∈ lw_g := gd_ (in_t4 (List.mem_of_getElem? (i := 169) (by decide +kernel))) rfl
theorem ml_L_141 : Cond.methodLink RL 141 yX4_on ∈ lw_g := gd_ (in_t4 (List.mem_of_getElem? (i := 170) (by decide +kernel))) rfl
theorem im_X4_on : Cond.instanceMethod yX4_on ∈ lw_g := gd_ (in_t4 (List.mem_of_getElem? (i := 171) (by decide +kernel))) rfl
theorem se_X4_on : Cond.selects RX4 yX4_on yX4_on ∈ lw_g := gd_ (in_t4 (List.mem_of_getElem? (i := 172) (by decide +kernel))) rfl
theorem co_X4_on : Cond.code yX4_on cX4_on 2 (Option.some Jvm.ClassFile.FieldType.int) ∈ lw_g := gd_ (in_t4 (List.mem_of_getElem? (i := 173) (by decide +kernel))) rfl
theorem ml_X4_243 : Cond.methodLink RX4 243 yX4_why ∈ lw_g := gd_ (in_t4 (List.mem_of_getElem? (i := 174) (by decide +kernel))) rfl
theorem ml_L_146 : Cond.methodLink RL 146 yX4_stuck ∈ lw_g := gd_ (in_t4 (List.mem_of_getElem? (i := 175) (by decide +kernel))) rfl
theorem im_X4_stuck : Cond.instanceMethod yX4_stuck ∈ lw_g := gd_ (in_t4 (List.mem_of_getElem? (i := 176) (by decide +kernel))) rfl
theorem se_X4_stuck : Cond.selects RX4 yX4_stuck yX4_stuck ∈ lw_g := gd_ (in_t4 (List.mem_of_getElem? (i := 177) (by decide +kernel))) rfl
theorem co_X4_stuck : Cond.code yX4_stuck cX4_stuck 4 (Option.some Jvm.ClassFile.FieldType.boolean) ∈ lw_g := gd_ (in_t4 (List.mem_of_getElem? (i := 178) (by decide +kernel))) rfl
theorem ml_L_100 : Cond.methodLink RL 100 yX4_read ∈ lw_g := gd_ (in_t4 (List.mem_of_getElem? (i := 179) (by decide +kernel))) rfl
theorem im_X4_read : Cond.instanceMethod yX4_read ∈ lw_g := gd_ (in_t4 (List.mem_of_getElem? (i := 180) (by decide +kernel))) rfl
theorem se_X4_read : Cond.selects RX4 yX4_read yX4_read ∈ lw_g := gd_ (in_t4 (List.mem_of_getElem? (i := 181) (by decide +kernel))) rfl
theorem co_X4_read : Cond.code yX4_read cX4_read 5 (Option.some Jvm.ClassFile.FieldType.int) ∈ lw_g := gd_ (in_t4 (List.mem_of_getElem? (i := 182) (by decide +kernel))) rfl
theorem ml_X4_250 : Cond.methodLink RX4 250 yX4_miss ∈ lw_g := gd_ (in_t4 (List.mem_of_getElem? (i := 183) (by decide +kernel))) rfl
theorem im_X4_miss : Cond.instanceMethod yX4_miss ∈ lw_g := gd_ (in_t4 (List.mem_of_getElem? (i := 185) (by decide +kernel))) rfl
theorem co_X4_miss : Cond.code yX4_miss cX4_miss 4 (Option.none : Option Jvm.ClassFile.FieldType) ∈ lw_g := gd_ (in_t4 (List.mem_of_getElem? (i := 186) (by decide +kernel))) rfl
theorem ml_X4_253 : Cond.methodLink RX4 253 yX4_takeEntry ∈ lw_g := gd_ (in_t4 (List.mem_of_getElem? (i := 187) (by decide +kernel))) rfl
theorem im_X4_takeEntry : Cond.instanceMethod yX4_takeEntry ∈ lw_g := gd_ (in_t4 (List.mem_of_getElem? (i := 189) (by decide +kernel))) rfl
theorem co_X4_takeEntry : Cond.code yX4_takeEntry cX4_takeEntry 5 (Option.none : Option Jvm.ClassFile.FieldType) ∈ lw_g := gd_ (in_t4 (List.mem_of_getElem? (i := 190) (by decide +kernel))) rfl
theorem ml_X4_256 : Cond.methodLink RX4 256 yX4_takeLeast ∈ lw_g := gd_ (in_t4 (List.mem_of_getElem? (i := 191) (by decide +kernel))) rfl
theorem im_X4_takeLeast : Cond.instanceMethod yX4_takeLeast ∈ lw_g := gd_ (in_t4 (List.mem_of_getElem? (i := 193) (by decide +kernel))) rfl
theorem co_X4_takeLeast : Cond.code yX4_takeLeast cX4_takeLeast 10 (Option.none : Option Jvm.ClassFile.FieldType) ∈ lw_g := gd_ (in_t4 (List.mem_of_getElem? (i := 194) (by decide +kernel))) rfl
theorem ml_X4_246 : Cond.methodLink RX4 246 yX4_take ∈ lw_g := gd_ (in_t4 (List.mem_of_getElem? (i := 195) (by decide +kernel))) rfl
theorem im_X4_take : Cond.instanceMethod yX4_take ∈ lw_g := gd_ (in_t4 (List.mem_of_getElem? (i := 197) (by decide +kernel))) rfl
theorem co_X4_take : Cond.code yX4_take cX4_take 6 (Option.none : Option Jvm.ClassFile.FieldType) ∈ lw_g := gd_ (in_t4 (List.mem_of_getElem? (i := 198) (by decide +kernel))) rfl
theorem ml_X4_259 : Cond.methodLink RX4 259 yX4_echo ∈ lw_g := gd_ (in_t4 (List.mem_of_getElem? (i := 199) (by decide +kernel))) rfl
theorem im_X4_echo : Cond.instanceMethod yX4_echo ∈ lw_g := gd_ (in_t4 (List.mem_of_getElem? (i := 201) (by decide +kernel))) rfl
theorem co_X4_echo : Cond.code yX4_echo cX4_echo 8 (Option.none : Option Jvm.ClassFile.FieldType) ∈ lw_g := gd_ (in_t4 (List.mem_of_getElem? (i := 202) (by decide +kernel))) rfl
theorem ml_L_104 : Cond.methodLink RL 104 yX4_round ∈ lw_g := gd_ (in_t4 (List.mem_of_getElem? (i := 203) (by decide +kernel))) rfl
theorem im_X4_round : Cond.instanceMethod yX4_round ∈ lw_g := gd_ (in_t4 (List.mem_of_getElem? (i := 204) (by decide +kernel))) rfl
theorem se_X4_round : Cond.selects RX4 yX4_round yX4_round ∈ lw_g := gd_ (in_t4 (List.mem_of_getElem? (i := 205) (by decide +kernel))) rfl
theorem co_X4_round : Cond.code yX4_round cX4_round 3 (Option.some Jvm.ClassFile.FieldType.int) ∈ lw_g := gd_ (in_t4 (List.mem_of_getElem? (i := 206) (by decide +kernel))) rfl
theorem ml_X4_262 : Cond.methodLink RX4 262 yX4_read ∈ lw_g := gd_ (in_t4 (List.mem_of_getElem? (i := 207) (by decide +kernel))) rfl
theorem ml_L_109 : Cond.methodLink RL 109 yX4_got ∈ lw_g := gd_ (in_t4 (List.mem_of_getElem? (i := 208) (by decide +kernel))) rfl
theorem im_X4_got : Cond.instanceMethod yX4_got ∈ lw_g := gd_ (in_t4 (List.mem_of_getElem? (i := 209) (by decide +kernel))) rfl
theorem se_X4_got : Cond.selects RX4 yX4_got yX4_got ∈ lw_g := gd_ (in_t4 (List.mem_of_getElem? (i := 210) (by decide +kernel))) rfl
theorem co_X4_got : Cond.code yX4_got cX4_got 3 (Option.some Jvm.ClassFile.FieldType.long) ∈ lw_g := gd_ (in_t4 (List.mem_of_getElem? (i := 211) (by decide +kernel))) rfl
theorem cn_X4_265 : Cond.constantLong RX4 265 (-1 : Int64) ∈ lw_g := gd_ (in_t4 (List.mem_of_getElem? (i := 212) (by decide +kernel))) rfl
theorem ml_L_113 : Cond.methodLink RL 113 yX4_word ∈ lw_g := gd_ (in_t4 (List.mem_of_getElem? (i := 213) (by decide +kernel))) rfl
theorem im_X4_word : Cond.instanceMethod yX4_word ∈ lw_g := gd_ (in_t4 (List.mem_of_getElem? (i := 214) (by decide +kernel))) rfl
theorem se_X4_word : Cond.selects RX4 yX4_word yX4_word ∈ lw_g := gd_ (in_t4 (List.mem_of_getElem? (i := 215) (by decide +kernel))) rfl
theorem co_X4_word : Cond.code yX4_word cX4_word 3 (Option.some Jvm.ClassFile.FieldType.long) ∈ lw_g := gd_ (in_t4 (List.mem_of_getElem? (i := 216) (by decide +kernel))) rfl
theorem ml_L_117 : Cond.methodLink RL 117 yX4_of ∈ lw_g := gd_ (in_t4 (List.mem_of_getElem? (i := 217) (by decide +kernel))) rfl
theorem im_X4_of : Cond.instanceMethod yX4_of ∈ lw_g := gd_ (in_t4 (List.mem_of_getElem? (i := 218) (by decide +kernel))) rfl
theorem se_X4_of : Cond.selects RX4 yX4_of yX4_of ∈ lw_g := gd_ (in_t4 (List.mem_of_getElem? (i := 219) (by decide +kernel))) rfl
theorem co_X4_of : Cond.code yX4_of cX4_of 3 (Option.some Jvm.ClassFile.FieldType.int) ∈ lw_g := gd_ (in_t4 (List.mem_of_getElem? (i := 220) (by decide +kernel))) rfl
theorem ml_L_121 : Cond.methodLink RL 121 yX4_place ∈ lw_g := gd_ (in_t4 (List.mem_of_getElem? (i := 221) (by decide +kernel))) rfl
theorem im_X4_place : Cond.instanceMethod yX4_place ∈ lw_g := gd_ (in_t4 (List.mem_of_getElem? (i := 222) (by decide +kernel))) rfl
theorem se_X4_place : Cond.selects RX4 yX4_place yX4_place ∈ lw_g := gd_ (in_t4 (List.mem_of_getElem? (i := 223) (by decide +kernel))) rfl
theorem co_X4_place : Cond.code yX4_place cX4_place 3 (Option.some Jvm.ClassFile.FieldType.int) ∈ lw_g := gd_ (in_t4 (List.mem_of_getElem? (i := 224) (by decide +kernel))) rfl
theorem ml_L_125 : Cond.methodLink RL 125 yX4_named ∈ lw_g := gd_ (in_t4 (List.mem_of_getElem? (i := 225) (by decide +kernel))) rfl
theorem im_X4_named : Cond.instanceMethod yX4_named ∈ lw_g := gd_ (in_t4 (List.mem_of_getElem? (i := 226) (by decide +kernel))) rfl
theorem se_X4_named : Cond.selects RX4 yX4_named yX4_named ∈ lw_g := gd_ (in_t4 (List.mem_of_getElem? (i := 227) (by decide +kernel))) rfl
theorem co_X4_named : Cond.code yX4_named cX4_named 3 (Option.some Jvm.ClassFile.FieldType.int) ∈ lw_g := gd_ (in_t4 (List.mem_of_getElem? (i := 228) (by decide +kernel))) rfl
theorem ml_L_129 : Cond.methodLink RL 129 yX4_entry ∈ lw_g := gd_ (in_t4 (List.mem_of_getElem? (i := 229) (by decide +kernel))) rfl
theorem im_X4_entry : Cond.instanceMethod yX4_entry ∈ lw_g := gd_ (in_t4 (List.mem_of_getElem? (i := 230) (by decide +kernel))) rfl
theorem se_X4_entry : Cond.selects RX4 yX4_entry yX4_entry ∈ lw_g := gd_ (in_t4 (List.mem_of_getElem? (i := 231) (by decide +kernel))) rfl
theorem co_X4_entry : Cond.code yX4_entry cX4_entry 3 (Option.some Jvm.ClassFile.FieldType.int) ∈ lw_g := gd_ (in_t4 (List.mem_of_getElem? (i := 232) (by decide +kernel))) rfl
theorem ml_L_133 : Cond.methodLink RL 133 yX4_target ∈ lw_g := gd_ (in_t4 (List.mem_of_getElem? (i := 233) (by decide +kernel))) rfl
theorem im_X4_target : Cond.instanceMethod yX4_target ∈ lw_g := gd_ (in_t4 (List.mem_of_getElem? (i := 234) (by decide +kernel))) rfl
theorem se_X4_target : Cond.selects RX4 yX4_target yX4_target ∈ lw_g := gd_ (in_t4 (List.mem_of_getElem? (i := 235) (by decide +kernel))) rfl
theorem co_X4_target : Cond.code yX4_target cX4_target 2 (Option.some Jvm.ClassFile.FieldType.int) ∈ lw_g := gd_ (in_t4 (List.mem_of_getElem? (i := 236) (by decide +kernel))) rfl
theorem ml_L_150 : Cond.methodLink RL 150 yX4_found ∈ lw_g := gd_ (in_t4 (List.mem_of_getElem? (i := 237) (by decide +kernel))) rfl
theorem im_X4_found : Cond.instanceMethod yX4_found ∈ lw_g := gd_ (in_t4 (List.mem_of_getElem? (i := 238) (by decide +kernel))) rfl
theorem se_X4_found : Cond.selects RX4 yX4_found yX4_found ∈ lw_g := gd_ (in_t4 (List.mem_of_getElem? (i := 239) (by decide +kernel))) rfl
theorem co_X4_found : Cond.code yX4_found cX4_found 2 (Option.some Jvm.ClassFile.FieldType.int) ∈ lw_g := gd_ (in_t5 (List.mem_of_getElem? (i := 0) (by decide +kernel))) rfl
theorem cn_L_45 : Cond.constantLong RL 45 (4294967295 : Int64) ∈ lw_g := gd_ (in_t5 (List.mem_of_getElem? (i := 1) (by decide +kernel))) rfl
theorem se_X3_finding : Cond.selects RX3 yX3_finding yX3_finding ∈ lw_g := gd_ (List.mem_append_left _ (List.mem_of_getElem? (i := 0) (by decide +kernel))) rfl
theorem se_X3_ringAt : Cond.selects RX3 yX3_ringAt yX3_ringAt ∈ lw_g := gd_ (List.mem_append_left _ (List.mem_of_getElem? (i := 1) (by decide +kernel))) rfl
theorem se_X3_otherMayBe : Cond.selects RX3 yX3_otherMayBe yX3_otherMayBe ∈ lw_g := gd_ (List.mem_append_left _ (List.mem_of_getElem? (i := 2) (by decide +kernel))) rfl
theorem se_X3_readerAt : Cond.selects RX3 yX3_readerAt yX3_readerAt ∈ lw_g := gd_ (List.mem_append_left _ (List.mem_of_getElem? (i := 3) (by decide +kernel))) rfl
theorem se_X3_placeOf : Cond.selects RX3 yX3_placeOf yX3_placeOf ∈ lw_g := gd_ (List.mem_append_left _ (List.mem_of_getElem? (i := 4) (by decide +kernel))) rfl
theorem se_X3_newReader : Cond.selects RX3 yX3_newReader yX3_newReader ∈ lw_g := gd_ (List.mem_append_left _ (List.mem_of_getElem? (i := 5) (by decide +kernel))) rfl
theorem se_X3_leadsTo : Cond.selects RX3 yX3_leadsTo yX3_leadsTo ∈ lw_g := gd_ (List.mem_append_left _ (List.mem_of_getElem? (i := 6) (by decide +kernel))) rfl
theorem se_X3_namesOfAll : Cond.selects RX3 yX3_namesOfAll yX3_namesOfAll ∈ lw_g := gd_ (List.mem_append_left _ (List.mem_of_getElem? (i := 7) (by decide +kernel))) rfl
theorem se_X3_keepCircle : Cond.selects RX3 yX3_keepCircle yX3_keepCircle ∈ lw_g := gd_ (List.mem_append_left _ (List.mem_of_getElem? (i := 8) (by decide +kernel))) rfl
theorem se_X3_leastTowards : Cond.selects RX3 yX3_leastTowards yX3_leastTowards ∈ lw_g := gd_ (List.mem_append_left _ (List.mem_of_getElem? (i := 9) (by decide +kernel))) rfl
theorem se_X3_claimSome : Cond.selects RX3 yX3_claimSome yX3_claimSome ∈ lw_g := gd_ (List.mem_append_left _ (List.mem_of_getElem? (i := 10) (by decide +kernel))) rfl
theorem se_X3_refusalOfClaims : Cond.selects RX3 yX3_refusalOfClaims yX3_refusalOfClaims ∈ lw_g := gd_ (List.mem_append_left _ (List.mem_of_getElem? (i := 11) (by decide +kernel))) rfl
theorem se_X3_isHeldUp : Cond.selects RX3 yX3_isHeldUp yX3_isHeldUp ∈ lw_g := gd_ (List.mem_append_left _ (List.mem_of_getElem? (i := 12) (by decide +kernel))) rfl
theorem se_X3_holderUpTo : Cond.selects RX3 yX3_holderUpTo yX3_holderUpTo ∈ lw_g := gd_ (List.mem_append_left _ (List.mem_of_getElem? (i := 13) (by decide +kernel))) rfl
theorem se_X3_publishSlot : Cond.selects RX3 yX3_publishSlot yX3_publishSlot ∈ lw_g := gd_ (List.mem_append_left _ (List.mem_of_getElem? (i := 14) (by decide +kernel))) rfl
theorem se_X3_leastHolderPlace : Cond.selects RX3 yX3_leastHolderPlace yX3_leastHolderPlace ∈ lw_g := gd_ (List.mem_append_left _ (List.mem_of_getElem? (i := 15) (by decide +kernel))) rfl
theorem se_X3_countHolders : Cond.selects RX3 yX3_countHolders yX3_countHolders ∈ lw_g := gd_ (List.mem_append_left _ (List.mem_of_getElem? (i := 16) (by decide +kernel))) rfl
theorem se_X3_readOnce : Cond.selects RX3 yX3_readOnce yX3_readOnce ∈ lw_g := gd_ (List.mem_append_left _ (List.mem_of_getElem? (i := 17) (by decide +kernel))) rfl
theorem se_X3_reasonOf : Cond.selects RX3 yX3_reasonOf yX3_reasonOf ∈ lw_g := gd_ (List.mem_append_left _ (List.mem_of_getElem? (i := 18) (by decide +kernel))) rfl
theorem se_X3_reasonOfMerge : Cond.selects RX3 yX3_reasonOfMerge yX3_reasonOfMerge ∈ lw_g := gd_ (List.mem_append_left _ (List.mem_of_getElem? (i := 19) (by decide +kernel))) rfl
theorem se_X3_leastLackingRing : Cond.selects RX3 yX3_leastLackingRing yX3_leastLackingRing ∈ lw_g := gd_ (List.mem_append_left _ (List.mem_of_getElem? (i := 20) (by decide +kernel))) rfl
theorem se_X3_isAwaited : Cond.selects RX3 yX3_isAwaited yX3_isAwaited ∈ lw_g := gd_ (List.mem_append_left _ (List.mem_of_getElem? (i := 21) (by decide +kernel))) rfl
theorem se_X3_ringOfLeastStamp : Cond.selects RX3 yX3_ringOfLeastStamp yX3_ringOfLeastStamp ∈ lw_g := gd_ (List.mem_append_left _ (List.mem_of_getElem? (i := 22) (by decide +kernel))) rfl
theorem se_X3_reasonAtPlace : Cond.selects RX3 yX3_reasonAtPlace yX3_reasonAtPlace ∈ lw_g := gd_ (List.mem_append_left _ (List.mem_of_getElem? (i := 23) (by decide +kernel))) rfl
theorem se_X3_leastNamedBehind : Cond.selects RX3 yX3_leastNamedBehind yX3_leastNamedBehind ∈ lw_g := gd_ (List.mem_append_left _ (List.mem_of_getElem? (i := 24) (by decide +kernel))) rfl
theorem se_X3_takeNext : Cond.selects RX3 yX3_takeNext yX3_takeNext ∈ lw_g := gd_ (List.mem_append_left _ (List.mem_of_getElem? (i := 25) (by decide +kernel))) rfl
theorem se_X3_takeAtPlace : Cond.selects RX3 yX3_takeAtPlace yX3_takeAtPlace ∈ lw_g := gd_ (List.mem_append_left _ (List.mem_of_getElem? (i := 26) (by decide +kernel))) rfl
theorem se_X3_writeOn : Cond.selects RX3 yX3_writeOn yX3_writeOn ∈ lw_g := gd_ (List.mem_append_left _ (List.mem_of_getElem? (i := 27) (by decide +kernel))) rfl
theorem se_X3_isAnyReady : Cond.selects RX3 yX3_isAnyReady yX3_isAnyReady ∈ lw_g := gd_ (List.mem_append_left _ (List.mem_of_getElem? (i := 28) (by decide +kernel))) rfl
theorem se_X4_find : Cond.selects RX4 yX4_find yX4_find ∈ lw_g := gd_ (List.mem_append_left _ (List.mem_of_getElem? (i := 29) (by decide +kernel))) rfl
theorem se_X4_isNumbered : Cond.selects RX4 yX4_isNumbered yX4_isNumbered ∈ lw_g := gd_ (List.mem_append_left _ (List.mem_of_getElem? (i := 30) (by decide +kernel))) rfl
theorem se_X4_isRing : Cond.selects RX4 yX4_isRing yX4_isRing ∈ lw_g := gd_ (List.mem_append_left _ (List.mem_of_getElem? (i := 31) (by decide +kernel))) rfl
theorem se_X4_isReader : Cond.selects RX4 yX4_isReader yX4_isReader ∈ lw_g := gd_ (List.mem_append_left _ (List.mem_of_getElem? (i := 32) (by decide +kernel))) rfl
theorem se_X4_index : Cond.selects RX4 yX4_index yX4_index ∈ lw_g := gd_ (List.mem_append_left _ (List.mem_of_getElem? (i := 33) (by decide +kernel))) rfl
theorem se_X4_doesName : Cond.selects RX4 yX4_doesName yX4_doesName ∈ lw_g := gd_ (List.mem_append_left _ (List.mem_of_getElem? (i := 34) (by decide +kernel))) rfl
theorem se_X4_reach : Cond.selects RX4 yX4_reach yX4_reach ∈ lw_g := gd_ (List.mem_append_left _ (List.mem_of_getElem? (i := 35) (by decide +kernel))) rfl
theorem se_X4_go : Cond.selects RX4 yX4_go yX4_go ∈ lw_g := gd_ (List.mem_append_left _ (List.mem_of_getElem? (i := 36) (by decide +kernel))) rfl
theorem se_X4_makeAll : Cond.selects RX4 yX4_makeAll yX4_makeAll ∈ lw_g := gd_ (List.mem_append_left _ (List.mem_of_getElem? (i := 37) (by decide +kernel))) rfl
theorem se_X4_hinders : Cond.selects RX4 yX4_hinders yX4_hinders ∈ lw_g := gd_ (List.mem_append_left _ (List.mem_of_getElem? (i := 38) (by decide +kernel))) rfl
theorem se_X4_isHeld : Cond.selects RX4 yX4_isHeld yX4_isHeld ∈ lw_g := gd_ (List.mem_append_left _ (List.mem_of_getElem? (i := 39) (by decide +kernel))) rfl
theorem se_X4_isOpen : Cond.selects RX4 yX4_isOpen yX4_isOpen ∈ lw_g := gd_ (List.mem_append_left _ (List.mem_of_getElem? (i := 40) (by decide +kernel))) rfl
theorem se_X4_isKept : Cond.selects RX4 yX4_isKept yX4_isKept ∈ lw_g := gd_ (List.mem_append_left _ (List.mem_of_getElem? (i := 41) (by decide +kernel))) rfl
theorem se_X4_slot : Cond.selects RX4 yX4_slot yX4_slot ∈ lw_g := gd_ (List.mem_append_left _ (List.mem_of_getElem? (i := 42) (by decide +kernel))) rfl
theorem se_X4_holderOf : Cond.selects RX4 yX4_holderOf yX4_holderOf ∈ lw_g := gd_ (List.mem_append_left _ (List.mem_of_getElem? (i := 43) (by decide +kernel))) rfl
theorem se_X4_isHolder : Cond.selects RX4 yX4_isHolder yX4_isHolder ∈ lw_g := gd_ (List.mem_append_left _ (List.mem_of_getElem? (i := 44) (by decide +kernel))) rfl
theorem se_X4_placeIn : Cond.selects RX4 yX4_placeIn yX4_placeIn ∈ lw_g := gd_ (List.mem_append_left _ (List.mem_of_getElem? (i := 45) (by decide +kernel))) rfl
theorem se_X4_make : Cond.selects RX4 yX4_make yX4_make ∈ lw_g := gd_ (List.mem_append_left _ (List.mem_of_getElem? (i := 46) (by decide +kernel))) rfl
theorem se_X4_fold : Cond.selects RX4 yX4_fold yX4_fold ∈ lw_g := gd_ (List.mem_append_left _ (List.mem_of_getElem? (i := 47) (by decide +kernel))) rfl
theorem se_X4_enter : Cond.selects RX4 yX4_enter yX4_enter ∈ lw_g := gd_ (List.mem_append_left _ (List.mem_of_getElem? (i := 48) (by decide +kernel))) rfl
theorem se_X4_leastPlace : Cond.selects RX4 yX4_leastPlace yX4_leastPlace ∈ lw_g := gd_ (List.mem_append_left _ (List.mem_of_getElem? (i := 49) (by decide +kernel))) rfl
theorem se_X4_openMany : Cond.selects RX4 yX4_openMany yX4_openMany ∈ lw_g := gd_ (List.mem_append_left _ (List.mem_of_getElem? (i := 50) (by decide +kernel))) rfl
theorem se_X4_holders : Cond.selects RX4 yX4_holders yX4_holders ∈ lw_g := gd_ (List.mem_append_left _ (List.mem_of_getElem? (i := 51) (by decide +kernel))) rfl
theorem se_X4_isHeldUp : Cond.selects RX4 yX4_isHeldUp yX4_isHeldUp ∈ lw_g := gd_ (List.mem_append_left _ (List.mem_of_getElem? (i := 52) (by decide +kernel))) rfl
theorem se_X4_whyOne : Cond.selects RX4 yX4_whyOne yX4_whyOne ∈ lw_g := gd_ (List.mem_append_left _ (List.mem_of_getElem? (i := 53) (by decide +kernel))) rfl
theorem se_X4_lacking : Cond.selects RX4 yX4_lacking yX4_lacking ∈ lw_g := gd_ (List.mem_append_left _ (List.mem_of_getElem? (i := 54) (by decide +kernel))) rfl
theorem se_X4_isPassed : Cond.selects RX4 yX4_isPassed yX4_isPassed ∈ lw_g := gd_ (List.mem_append_left _ (List.mem_of_getElem? (i := 55) (by decide +kernel))) rfl
theorem se_X4_isPublished : Cond.selects RX4 yX4_isPublished yX4_isPublished ∈ lw_g := gd_ (List.mem_append_left _ (List.mem_of_getElem? (i := 56) (by decide +kernel))) rfl
theorem se_X4_seen : Cond.selects RX4 yX4_seen yX4_seen ∈ lw_g := gd_ (List.mem_append_left _ (List.mem_of_getElem? (i := 57) (by decide +kernel))) rfl
theorem se_X4_from : Cond.selects RX4 yX4_from yX4_from ∈ lw_g := gd_ (List.mem_append_left _ (List.mem_of_getElem? (i := 58) (by decide +kernel))) rfl
theorem se_X4_behind : Cond.selects RX4 yX4_behind yX4_behind ∈ lw_g := gd_ (List.mem_append_left _ (List.mem_of_getElem? (i := 59) (by decide +kernel))) rfl
theorem se_X4_miss : Cond.selects RX4 yX4_miss yX4_miss ∈ lw_g := gd_ (List.mem_append_left _ (List.mem_of_getElem? (i := 60) (by decide +kernel))) rfl
theorem se_X4_takeEntry : Cond.selects RX4 yX4_takeEntry yX4_takeEntry ∈ lw_g := gd_ (List.mem_append_left _ (List.mem_of_getElem? (i := 61) (by decide +kernel))) rfl
theorem se_X4_takeLeast : Cond.selects RX4 yX4_takeLeast yX4_takeLeast ∈ lw_g := gd_ (List.mem_append_left _ (List.mem_of_getElem? (i := 62) (by decide +kernel))) rfl
theorem se_X4_take : Cond.selects RX4 yX4_take yX4_take ∈ lw_g := gd_ (List.mem_append_left _ (List.mem_of_getElem? (i := 63) (by decide +kernel))) rfl
theorem se_X4_echo : Cond.selects RX4 yX4_echo yX4_echo ∈ lw_g := gd_ (List.mem_append_left _ (List.mem_of_getElem? (i := 64) (by decide +kernel))) rfl
theorem iX0 : ∀ w ∈ u_ws RX0 TX0 7, w ∈ lw_g := by decide +kernel
theorem iX1 : ∀ w ∈ u_ws RX1 TX1 15, w ∈ lw_g := by decide +kernel
theorem iX2 : ∀ w ∈ u_ws RX2 TX2 7, w ∈ lw_g := by decide +kernel
theorem iX3 : ∀ w ∈ u_ws RX3 TX3 12, w ∈ lw_g := by decide +kernel
theorem iX4 : ∀ w ∈ u_ws RX4 TX4 42, w ∈ lw_g := by decide +kernel
theorem lw_good : ∀ w ∈ lw_g, goodWord w = true := fun w h => (List.mem_filter.mp h).2
end
section
/-! the class side's heap: kinds, lengths, size, ints, longs, references; the reference's state: its arrays by field -/
abbrev Hpx : Type := (Nat → Nat) × (Nat → Nat) × Nat × (Nat → Nat → Int32) × (Nat → Nat → Int64) × (Nat → Nat → Option Nat)
abbrev Msx : Type := (Nat → Nat → Int32) × (Nat → Nat → Int64)
abbrev Vlx : Type := Int32 ⊕ Int64 ⊕ Option Nat ⊕ Nat
abbrev v_I (x : Int32) : Vlx := .inl x
abbrev v_J (x : Int64) : Vlx := .inr (.inl x)
abbrev v_R (x : Option Nat) : Vlx := .inr (.inr (.inl x))
abbrev v_X (x : Nat) : Vlx := .inr (.inr (.inr x))
def to_V (b : Nat) : Vlx → Value
  | .inl x => .int x
  | .inr (.inl x) => .long x
  | .inr (.inr (.inl r)) => va_rf (r.map (b + ·))
  | .inr (.inr (.inr a)) => .ref a
def is_L : Vlx → Bool
  | .inr (.inl _) => true
  | _ => false
theorem to_V_cat (b : Nat) (x : Vlx) : (to_V b x).category = if is_L x then 2 else 1 := by
  rcases x with x | x | x | x
  · rfl
  · rfl
  · cases x <;> rfl
  · rfl
def h_k (h : Hpx) : Nat → Nat := h.1
def h_n (h : Hpx) : Nat → Nat := h.2.1
def h_z (h : Hpx) : Nat := h.2.2.1
def h_I (h : Hpx) : Nat → Nat → Int32 := h.2.2.2.1
def h_J (h : Hpx) : Nat → Nat → Int64 := h.2.2.2.2.1
def h_R (h : Hpx) : Nat → Nat → Option Nat := h.2.2.2.2.2
def s_I (h : Hpx) (a k : Nat) (x : Int32) : Hpx := (h_k h, h_n h, h_z h, va_up (h_I h) a (va_up (h_I h a) k x), h_J h, h_R h)
def s_J (h : Hpx) (a k : Nat) (x : Int64) : Hpx := (h_k h, h_n h, h_z h, h_I h, va_up (h_J h) a (va_up (h_J h a) k x), h_R h)
def s_R (h : Hpx) (a k : Nat) (x : Option Nat) : Hpx := (h_k h, h_n h, h_z h, h_I h, h_J h, va_up (h_R h) a (va_up (h_R h a) k x))
/-- longs of a from place sp on come to b from dp on, n of them -/
def c_J (h : Hpx) (a b sp dp n : Nat) : Hpx := (h_k h, h_n h, h_z h, h_I h, va_up (h_J h) b (va_cpy (h_J h a) (h_J h b) sp dp n), h_R h)
/-- a new cell of kind kd and length n -/
def h_new (h : Hpx) (kd n : Nat) : Hpx := (va_up (h_k h) (h_z h) kd, va_up (h_n h) (h_z h) n, h_z h + 1, va_up (h_I h) (h_z h) (fun _ => 0), va_up (h_J h) (h_z h) (fun _ => 0), va_up (h_R h) (h_z h) (fun _ => none))
def m_I (M : Msx) : Nat → Nat → Int32 := M.1
def m_J (M : Msx) : Nat → Nat → Int64 := M.2
def n_I (M : Msx) (k i : Nat) (x : Int32) : Msx := (va_up (m_I M) k (va_up (m_I M k) i x), m_J M)
def n_J (M : Msx) (k i : Nat) (x : Int64) : Msx := (m_I M, va_up (m_J M) k (va_up (m_J M k) i x))
def in_b (i : Int32) (n : Nat) : Bool := decide (0 ≤ i.toInt) && decide (i.toInt < n)
theorem in_b_in {i : Int32} {n : Nat} (h : in_b i n = true) : vp_in i n := by
  rw [vp_in_iff]
  simpa [in_b] using h
/-! tables of fields: 0 an int (or boolean), 1 a long, 2 a reference -/
def f_ty (ci k : Nat) : Nat := match ci with
  | 0 => (match k with | 0 => 2 | 3 => 1 | _ => 0)
  | 1 => (match k with | 1 => 2 | 2 => 2 | 3 => 2 | 4 => 2 | 5 => 2 | 6 => 2 | _ => 0)
  | 2 => (match k with | 2 => 2 | 4 => 1 | _ => 0)
  | 3 => (match k with | 0 => 2 | 1 => 2 | 2 => 2 | 3 => 2 | _ => 0)
  | _ => (match k with | 0 => 0 | 10 => 0 | 34 => 0 | 35 => 0 | 36 => 0 | 37 => 0 | 40 => 0 | _ => 2)
def f_N (ci : Nat) : Nat := match ci with
  | 0 => 7 | 1 => 15 | 2 => 7 | 3 => 12 | _ => 42
def f_C (ci : Nat) : String := match ci with
  | 0 => RX0 | 1 => RX1 | 2 => RX2 | 3 => RX3 | _ => RX4
def f_T (ci : Nat) : u_T := match ci with
  | 0 => TX0 | 1 => TX1 | 2 => TX2 | 3 => TX3 | _ => TX4
def f_t (ci : Nat) : Nat → FieldType := match ci with
  | 0 => tyX0 | 1 => tyX1 | 2 => tyX2 | 3 => tyX3 | _ => tyX4
abbrev cls_ : List vw_C := [(RX0, TX0, 7), (RX1, TX1, 15), (RX2, TX2, 7), (RX3, TX3, 12), (RX4, TX4, 42)]
theorem cls_at : ∀ ci, ci < 5 → cls_[ci]? = some (f_C ci, f_T ci, f_N ci)
  | 0, _ => rfl
  | 1, _ => rfl
  | 2, _ => rfl
  | 3, _ => rfl
  | 4, _ => rfl
  | n + 5, h => absurd h (by omega)
theorem cls_in : ∀ ci, ci < 5 → ∀ w ∈ u_ws (f_C ci) (f_T ci) (f_N ci), w ∈ lw_g
  | 0, _ => iX0
  | 1, _ => iX1
  | 2, _ => iX2
  | 3, _ => iX3
  | 4, _ => iX4
  | n + 5, h => absurd h (by omega)
theorem cls_ty : ∀ ci, ci < 5 → ∀ k, k < f_N ci → parseFieldDescriptor (f_T ci k).2.2.1 = some (f_t ci k)
  | 0, _ => tyX0_ok
  | 1, _ => tyX1_ok
  | 2, _ => tyX2_ok
  | 3, _ => tyX3_ok
  | 4, _ => tyX4_ok
  | n + 5, h => absurd h (by omega)
theorem cls_nm : ∀ ci, ci < 5 → ∀ a, a < f_N ci → ∀ b, b < f_N ci → a ≠ b → (f_T ci a).2.1 ≠ (f_T ci b).2.1
  | 0, _ => nmX0
  | 1, _ => nmX1
  | 2, _ => nmX2
  | 3, _ => nmX3
  | 4, _ => nmX4
  | n + 5, h => absurd h (by omega)
theorem cls_df : ∀ ci, ci < 5 → ∀ k, k < f_N ci → defaultValue (f_t ci k) = (if f_ty ci k = 0 then .int 0 else if f_ty ci k = 1 then .long 0 else .null) := by decide +kernel
/-! the reference's arrays -/
def m_at (k : Nat) : Nat := match k with
  | 1 => 6
  | 2 => 7
  | 3 => 8
  | 4 => 9
  | 5 => 10
  | 6 => 11
  | 7 => 12
  | 8 => 13
  | 9 => 14
  | 11 => 15
  | 12 => 16
  | 13 => 17
  | 14 => 18
  | 15 => 19
  | 16 => 20
  | 17 => 21
  | 18 => 22
  | 19 => 23
  | 20 => 24
  | 21 => 25
  | 22 => 26
  | 23 => 27
  | 24 => 28
  | 25 => 29
  | 26 => 30
  | 27 => 31
  | 28 => 32
  | 29 => 33
  | 30 => 34
  | 31 => 35
  | 32 => 36
  | 33 => 37
  | 38 => 38
  | 39 => 39
  | 41 => 40
  | _ => 0
def m_fd (a : Nat) : Nat := match a with
  | 6 => 1
  | 7 => 2
  | 8 => 3
  | 9 => 4
  | 10 => 5
  | 11 => 6
  | 12 => 7
  | 13 => 8
  | 14 => 9
  | 15 => 11
  | 16 => 12
  | 17 => 13
  | 18 => 14
  | 19 => 15
  | 20 => 16
  | 21 => 17
  | 22 => 18
  | 23 => 19
  | 24 => 20
  | 25 => 21
  | 26 => 22
  | 27 => 23
  | 28 => 24
  | 29 => 25
  | 30 => 26
  | 31 => 27
  | 32 => 28
  | 33 => 29
  | 34 => 30
  | 35 => 31
  | 36 => 32
  | 37 => 33
  | 38 => 38
  | 39 => 39
  | 40 => 41
  | _ => 99
def m_len (k : Nat) : Nat := match k with
  | 1 => 8
  | 2 => 8
  | 3 => 8
  | 4 => 8
  | 5 => 512
  | 6 => 512
  | 7 => 512
  | 8 => 512
  | 9 => 4096
  | 11 => 16
  | 12 => 64
  | 13 => 64
  | 14 => 16
  | 15 => 64
  | 16 => 16
  | 17 => 16
  | 18 => 16
  | 19 => 16
  | 20 => 16
  | 21 => 16
  | 22 => 16
  | 23 => 16
  | 24 => 16
  | 25 => 16
  | 26 => 16
  | 27 => 128
  | 28 => 16
  | 29 => 512
  | 30 => 512
  | 31 => 512
  | 32 => 512
  | 33 => 4096
  | 38 => 7
  | 39 => 20
  | 41 => 16
  | _ => 0
def m_kd (k : Nat) : Nat := match k with
  | 1 => 0
  | 2 => 0
  | 3 => 0
  | 4 => 1
  | 5 => 2
  | 6 => 1
  | 7 => 0
  | 8 => 0
  | 9 => 1
  | 11 => 0
  | 12 => 0
  | 13 => 0
  | 14 => 0
  | 15 => 0
  | 16 => 0
  | 17 => 0
  | 18 => 0
  | 19 => 0
  | 20 => 0
  | 21 => 0
  | 22 => 0
  | 23 => 0
  | 24 => 1
  | 25 => 0
  | 26 => 0
  | 27 => 1
  | 28 => 0
  | 29 => 0
  | 30 => 1
  | 31 => 0
  | 32 => 0
  | 33 => 1
  | 38 => 0
  | 39 => 0
  | 41 => 2
  | _ => 0
def f_val (b : Nat) (h : Hpx) (ci a k : Nat) : Value := if f_ty ci k = 0 then .int (h_I h a k) else if f_ty ci k = 1 then .long (h_J h a k) else va_rf ((h_R h a k).map (b + ·))
def f_fs (b : Nat) (h : Hpx) (ci a : Nat) : List Value := (List.range (f_N ci)).map (f_val b h ci a)
def m_val (b : Nat) (M : Msx) (k : Nat) : Value := if f_ty 4 k = 0 then .int (m_I M k 0) else .ref (b + m_at k)
def cell_m (b : Nat) (ac : Nat → ClassId) (M : Msx) (a : Nat) : va_E :=
  if a = 5 then .inr (4, (List.range 42).map (m_val b M))
  else if m_kd (m_fd a) = 1 then .inl (ac 1, m_len (m_fd a), .inr (.inl (m_J M (m_fd a))))
  else .inl (ac (m_kd (m_fd a)), m_len (m_fd a), .inl (m_I M (m_fd a)))
def cell_ (b : Nat) (ac : Nat → ClassId) (h : Hpx) (M : Msx) (a : Nat) : va_E :=
  if h_k h a = 0 then cell_m b ac M a
  else if h_k h a ≤ 5 then .inr (h_k h a - 1, f_fs b h (h_k h a - 1) a)
  else if h_k h a = 7 then .inl (ac 1, h_n h a, .inr (.inl (h_J h a)))
  else if h_k h a ≤ 8 then .inl (ac (h_k h a - 6), h_n h a, .inl (h_I h a))
  else .inl (ac (h_k h a - 6), h_n h a, .inr (.inr (.inr (.inr (fun i => (h_R h a i).map (b + ·))))))
theorem cell_obj {b : Nat} {ac : Nat → ClassId} {h : Hpx} {M : Msx} {a ci : Nat} (hk : h_k h a = ci + 1) (hc : ci < 5) : cell_ b ac h M a = .inr (ci, f_fs b h ci a) := by
  unfold cell_
  rw [if_neg (by omega), if_pos (by omega), hk]
  rfl
theorem cell_J {b : Nat} {ac : Nat → ClassId} {h : Hpx} {M : Msx} {a : Nat} (hk : h_k h a = 7) : cell_ b ac h M a = .inl (ac 1, h_n h a, .inr (.inl (h_J h a))) := by
  unfold cell_
  rw [if_neg (by omega), if_neg (by omega), if_pos (by omega)]
theorem cell_I {b : Nat} {ac : Nat → ClassId} {h : Hpx} {M : Msx} {a : Nat} (hk : h_k h a = 6) : cell_ b ac h M a = .inl (ac 0, h_n h a, .inl (h_I h a)) := by
  unfold cell_
  rw [if_neg (by omega), if_neg (by omega), if_neg (by omega), if_pos (by omega), hk]
theorem cell_Z {b : Nat} {ac : Nat → ClassId} {h : Hpx} {M : Msx} {a : Nat} (hk : h_k h a = 8) : cell_ b ac h M a = .inl (ac 2, h_n h a, .inl (h_I h a)) := by
  unfold cell_
  rw [if_neg (by omega), if_neg (by omega), if_neg (by omega), if_pos (by omega), hk]
theorem cell_R {b : Nat} {ac : Nat → ClassId} {h : Hpx} {M : Msx} {a t : Nat} (hk : h_k h a = t + 6) (ht : 3 ≤ t) : cell_ b ac h M a = .inl (ac t, h_n h a, .inr (.inr (.inr (.inr (fun i => (h_R h a i).map (b + ·)))))) := by
  unfold cell_
  rw [if_neg (by omega), if_neg (by omega), if_neg (by omega), if_neg (by omega), hk]
  rfl
def ws_ (b : Nat) (ac : Nat → ClassId) (h : Hpx) (M : Msx) : va_W := (List.range (h_z h)).map (fun a => (b + a, cell_ b ac h M a))
theorem ws_get {b : Nat} {ac : Nat → ClassId} {h : Hpx} {M : Msx} {a : Nat} {x : va_E} (ha : a < h_z h) (hx : cell_ b ac h M a = x) : (ws_ b ac h M)[a]? = some (b + a, x) := by
  subst hx
  simp [ws_, ha]
theorem ws_some {b : Nat} {ac : Nat → ClassId} {h : Hpx} {M : Msx} {k : Nat} {q : Nat × va_E} (hq : (ws_ b ac h M)[k]? = some q) : k < h_z h ∧ q = (b + k, cell_ b ac h M k) := by
  by_cases hk : k < h_z h
  · rw [ws_get hk rfl] at hq
    exact ⟨hk, (Option.some.inj hq).symm⟩
  · simp [ws_, hk] at hq
theorem ws_D {b : Nat} {ac : Nat → ClassId} {h : Hpx} {M : Msx} : va_D (fun q => b ≤ q) (ws_ b ac h M) := by
  refine ⟨fun i j p q hp hq e => ?_, fun k q hq => ?_⟩
  · have h1 := (ws_some hp).2
    have h2 := (ws_some hq).2
    rw [h1, h2] at e
    have e : b + i = b + j := e
    omega
  · rw [(ws_some hq).2]
    exact Nat.le_add_right b k
theorem ws_set {b : Nat} {ac : Nat → ClassId} {h h' : Hpx} {M M' : Msx} {a : Nat} {x : va_E} (ha : a < h_z h) (hz : h_z h' = h_z h) (hx : cell_ b ac h' M' a = x) (ho : ∀ c, c ≠ a → cell_ b ac h' M' c = cell_ b ac h M c) : (ws_ b ac h M).set a (b + a, x) = ws_ b ac h' M' := by
  apply List.ext_getElem?
  intro i
  by_cases hi : i < h_z h
  · rw [ws_get (by rw [hz]; exact hi) rfl]
    by_cases e : i = a
    · subst e
      rw [List.getElem?_set_self (by simp [ws_, ha]), hx]
    · rw [List.getElem?_set_ne (fun q => e q.symm), ws_get hi rfl, ho i e]
  · rw [List.getElem?_eq_none (by simp [ws_]; omega), List.getElem?_eq_none (by simp [ws_, hz]; omega)]
theorem ws_push {b : Nat} {ac : Nat → ClassId} {h h' : Hpx} {M : Msx} {x : va_E} (hz : h_z h' = h_z h + 1) (hx : cell_ b ac h' M (h_z h) = x) (ho : ∀ c, c < h_z h → cell_ b ac h' M c = cell_ b ac h M c) : ws_ b ac h M ++ [(b + h_z h, x)] = ws_ b ac h' M := by
  apply List.ext_getElem?
  intro i
  by_cases hi : i < h_z h
  · rw [ws_get (by omega) rfl, List.getElem?_append_left (by simp [ws_, hi]), ws_get hi rfl, ho i hi]
  · rw [List.getElem?_append_right (by simp [ws_]; omega)]
    by_cases e : i = h_z h
    · subst e
      rw [ws_get (by omega) rfl, hx]
      simp [ws_]
    · rw [List.getElem?_eq_none (by simp [ws_]; omega), List.getElem?_eq_none (by simp [ws_, hz]; omega)]
/-! what a write leaves: other cells -/
theorem fs_same {b : Nat} {h h' : Hpx} {a : Nat} (e1 : h_I h' a = h_I h a) (e2 : h_J h' a = h_J h a) (e3 : h_R h' a = h_R h a) (ci : Nat) : f_fs b h' ci a = f_fs b h ci a := by
  unfold f_fs f_val
  rw [e1, e2, e3]
theorem cell_same {b : Nat} {ac : Nat → ClassId} {h h' : Hpx} {M : Msx} {a : Nat} (e0 : h_k h' a = h_k h a) (e4 : h_n h' a = h_n h a) (e1 : h_I h' a = h_I h a) (e2 : h_J h' a = h_J h a) (e3 : h_R h' a = h_R h a) : cell_ b ac h' M a = cell_ b ac h M a := by
  unfold cell_
  rw [e0, e4, e1, e2, e3, fs_same e1 e2 e3]
theorem s_I_o {h : Hpx} {a k c : Nat} {x : Int32} (e : c ≠ a) : h_I (s_I h a k x) c = h_I h c := va_up_ne _ _ e
theorem s_J_o {h : Hpx} {a k c : Nat} {x : Int64} (e : c ≠ a) : h_J (s_J h a k x) c = h_J h c := va_up_ne _ _ e
theorem s_R_o {h : Hpx} {a k c : Nat} {x : Option Nat} (e : c ≠ a) : h_R (s_R h a k x) c = h_R h c := va_up_ne _ _ e
theorem c_J_o {h : Hpx} {a b sp dp n c : Nat} (e : c ≠ b) : h_J (c_J h a b sp dp n) c = h_J h c := va_up_ne _ _ e
theorem map_set {α : Type} {n k : Nat} {f g : Nat → α} {x : α} (hk : k < n) (hx : g k = x) (ho : ∀ j, j < n → j ≠ k → g j = f j) : ((List.range n).map f).set k x = (List.range n).map g := by
  apply List.ext_getElem?
  intro i
  by_cases e : i = k
  · subst e
    rw [List.getElem?_set_self (by simp [hk])]
    simp [hk, hx]
  · rw [List.getElem?_set_ne (fun q => e q.symm)]
    by_cases hi : i < n
    · simp [hi, ho i hi e]
    · simp [hi]
end
section
abbrev Evx : Type := Program × Launch × Env × Room × State × MethodId × Array Value × List Frame × Method × Code × (State → Prop)
abbrev Gvx : Type := va_G × (Nat → ClassId) × Nat
abbrev e_p (v : Evx) : Program := v.1
abbrev e_l (v : Evx) : Launch := v.2.1
abbrev e_e (v : Evx) : Env := v.2.2.1
abbrev e_R (v : Evx) : Room := v.2.2.2.1
abbrev e_s (v : Evx) : State := v.2.2.2.2.1
abbrev e_m (v : Evx) : MethodId := v.2.2.2.2.2.1
abbrev e_a (v : Evx) : Array Value := v.2.2.2.2.2.2.1
abbrev e_b (v : Evx) : List Frame := v.2.2.2.2.2.2.2.1
abbrev e_M (v : Evx) : Method := v.2.2.2.2.2.2.2.2.1
abbrev e_c (v : Evx) : Code := v.2.2.2.2.2.2.2.2.2.1
abbrev e_Q (v : Evx) : State → Prop := v.2.2.2.2.2.2.2.2.2.2
abbrev W_ (v : Evx) (H : Heap) (locs : List Loc) (k n : Nat) (g : JFrame) : Prop := W (e_p v) (e_l v) (e_e v) (e_R v) (e_s v) (e_m v) (e_a v) (e_b v) (e_M v) (e_c v) H locs k n (e_Q v) g
def tys_ (ac : Nat → ClassId) : List (ClassId × FieldType) := [(ac 0, .int), (ac 1, .long), (ac 2, .boolean), (ac 3, .object RX0), (ac 4, .object RX2), (ac 5, .object RX1)]
/-- what holds all over a method's body -/
def Cx_ (v : Evx) (g : Gvx) (cc : ByteArray) (nL : Nat) (own nm : String) (rt : Option FieldType) (rm : Room) : Prop :=
  (e_p v).tables.exec = Jvm.exec ∧ (e_c v).code = cc ∧ (e_c v).maxLocals = nL ∧ (e_s v).vm.findClass own = some (e_m v).cls ∧ (∀ w ∈ lw_g, w.before (e_a v) (e_s v) = true) ∧ va_K g.1 cls_ (tys_ g.2.1) (e_s v) ∧ g.2.2 ≤ (e_s v).heap.size ∧ e_R v = rm ∧ (e_M v).sig.returnType = rt ∧ (e_M v).locks = false ∧ (e_M v).name = nm ∧ va_AO RX0 (e_s v) ∧ va_AO RX1 (e_s v) ∧ va_AO RX2 (e_s v)
def Wd_ (v : Evx) (g : Gvx) (h : Hpx) (M : Msx) (H : Heap) (locs : List Loc) : Prop :=
  H.size = g.2.2 + h_z h ∧ va_P g.1 cls_ (ws_ g.2.2 g.2.1 h M) H ∧ va_S (fun q => g.2.2 ≤ q) (e_s v).heap H locs ∧ ∀ a, h_z h ≤ a → h_k h a = 0
def lv_m (b : Nat) (lv : List (Nat × Vlx)) : List (Nat × Value) := lv.map (fun q => (q.1, to_V b q.2))
def At_ (v : Evx) (g : Gvx) (nL : Nat) (h : Hpx) (M : Msx) (k n pc : Nat) (lv : List (Nat × Vlx)) (st : List Vlx) : Prop :=
  ∀ (H : Heap) (locs : List Loc) (ls : Array Slot), Wd_ v g h M H locs → lv_has ls nL (lv_m g.2.2 lv) → W_ v H locs k n (F0 (e_m v) pc ls (st.map (to_V g.2.2)))
/-! locals -/
def lv_g : List (Nat × Vlx) → Nat → Option Vlx
  | [], _ => none
  | q :: r, i => cond (Nat.beq q.1 i) (some q.2) (lv_g r i)
def lv_i (y : Nat × Vlx) : List (Nat × Vlx) → List (Nat × Vlx)
  | [] => [y]
  | q :: r => cond (Nat.blt y.1 q.1) (y :: q :: r) (q :: lv_i y r)
def lv_f (i : Nat) (lng : Bool) (q : Nat × Vlx) : Bool := !(q.1 == i) && (!(lng && q.1 == i + 1) && !(q.1 + 1 == i && is_L q.2))
def lv_p (i : Nat) (x : Vlx) (lv : List (Nat × Vlx)) : List (Nat × Vlx) := lv_i (i, x) (lv.filter (lv_f i (is_L x)))
theorem lv_i_mem {y q : Nat × Vlx} : ∀ {l : List (Nat × Vlx)}, q ∈ lv_i y l → q = y ∨ q ∈ l
  | [], h => Or.inl (List.mem_singleton.mp h)
  | a :: r, h => by
    unfold lv_i at h
    cases hb : Nat.blt y.1 a.1 with
    | true =>
      rw [hb] at h
      rcases List.mem_cons.mp h with h | h
      · exact Or.inl h
      · exact Or.inr h
    | false =>
      rw [hb] at h
      rcases List.mem_cons.mp h with h | h
      · exact Or.inr (List.mem_cons.mpr (Or.inl h))
      · rcases lv_i_mem h with h | h
        · exact Or.inl h
        · exact Or.inr (List.mem_cons.mpr (Or.inr h))
theorem lv_g_mem {i : Nat} {x : Vlx} : ∀ {lv : List (Nat × Vlx)}, lv_g lv i = some x → (i, x) ∈ lv
  | [], h => by cases h
  | (j, y) :: r, h => by
    unfold lv_g at h
    cases hb : Nat.beq j i with
    | true =>
      have e : j = i := Nat.eq_of_beq_eq_true hb
      rw [hb] at h
      have e2 : y = x := Option.some.inj h
      rw [e, e2]
      exact List.mem_cons_self
    | false =>
      rw [hb] at h
      exact List.mem_cons_of_mem _ (lv_g_mem h)
theorem lv_at_ {ls : Array Slot} {nL b i : Nat} {lv : List (Nat × Vlx)} {x : Vlx} (h : lv_has ls nL (lv_m b lv)) (hg : lv_g lv i = some x) : ls[i]? = some (.val (to_V b x)) :=
  h.2.2 (i, to_V b x) (List.mem_map.mpr ⟨(i, x), lv_g_mem hg, rfl⟩)
theorem lv_sub_ {ls : Array Slot} {nL : Nat} {l l' : List (Nat × Value)} (h : lv_has ls nL l) (hs : ∀ q ∈ l', q ∈ l) : lv_has ls nL l' := ⟨h.1, h.2.1, fun q hq => h.2.2 q (hs q hq)⟩
theorem lv_st_ {ls : Array Slot} {nL b i : Nat} {lv : List (Nat × Vlx)} {x : Vlx} {f : Nat × Value → Bool} (h : lv_has ls nL ((i, to_V b x) :: (lv_m b lv).filter f)) (hf : ∀ q : Nat × Vlx, lv_f i (is_L x) q = true → f (q.1, to_V b q.2) = true) : lv_has ls nL (lv_m b (lv_p i x lv)) := by
  refine lv_sub_ h fun q hq => ?_
  obtain ⟨z, hz, rfl⟩ := List.mem_map.mp hq
  rcases lv_i_mem hz with rfl | hz
  · exact List.mem_cons_self
  · obtain ⟨h1, h2⟩ := List.mem_filter.mp hz
    exact List.mem_cons_of_mem _ (List.mem_filter.mpr ⟨List.mem_map.mpr ⟨z, h1, rfl⟩, hf z h2⟩)
theorem lv_f1 {b i : Nat} {x : Vlx} (q : Nat × Vlx) (h : lv_f i (is_L x) q = true) : (!(q.1 == i) && !(q.1 + 1 == i && (to_V b q.2).category == 2)) = true := by
  simp only [lv_f, Bool.and_eq_true, Bool.not_eq_true', Bool.and_eq_false_iff] at h ⊢
  refine ⟨h.1, ?_⟩
  rcases h.2.2 with h | h
  · exact Or.inl h
  · right
    rw [to_V_cat, h]
    rfl
theorem lv_f2 {b i : Nat} {x : Vlx} (hx : is_L x = true) (q : Nat × Vlx) (h : lv_f i (is_L x) q = true) : (!(q.1 == i) && (!(q.1 == i + 1) && !(q.1 + 1 == i && (to_V b q.2).category == 2))) = true := by
  rw [hx] at h
  simp only [lv_f, Bool.and_eq_true, Bool.not_eq_true', Bool.and_eq_false_iff, Bool.true_and] at h ⊢
  refine ⟨h.1, h.2.1, ?_⟩
  rcases h.2.2 with h | h
  · exact Or.inl h
  · right
    rw [to_V_cat, h]
    rfl
def lv_s : List (Nat × Vlx) → Nat
  | [] => 0
  | q :: r => cond (is_L q.2) 2 1 + lv_s r
def st_w : List Vlx → Nat
  | [] => 0
  | q :: r => cond (is_L q) 2 1 + st_w r
theorem st_w_eq (b : Nat) : ∀ st : List Vlx, (((st.map (to_V b)).map fun v => v.category)).sum = st_w st
  | [] => rfl
  | x :: r => by
    simp only [List.map_cons, List.sum_cons, st_w]
    rw [st_w_eq b r, to_V_cat]
    cases is_L x <;> rfl
/-- the locals with which a method begins -/
def lv_a : Nat → List Vlx → List (Nat × Vlx)
  | _, [] => []
  | i, x :: r => (i, x) :: lv_a (cond (is_L x) (i + 2) (i + 1)) r
theorem lv_a_eq (b : Nat) : ∀ (As : List Vlx) (i : Nat), lv_args i (As.map (to_V b)) = lv_m b (lv_a i As)
  | [], _ => rfl
  | x :: r, i => by
    simp only [List.map_cons, lv_args, lv_a, lv_m]
    rw [to_V_cat]
    have := lv_a_eq b r (cond (is_L x) (i + 2) (i + 1))
    unfold lv_m at this
    rw [← this]
    cases is_L x <;> rfl
theorem lg_len (b : Nat) : ∀ As : List Vlx, (lg_sl (As.map (to_V b))).length = st_w As
  | [] => rfl
  | x :: r => by
    have := lg_len b r
    unfold lg_sl at this ⊢
    simp only [List.map_cons, List.flatMap_cons, List.length_append, st_w]
    rw [this, to_V_cat]
    cases is_L x <;> rfl
theorem in_z {v : Evx} {g : Gvx} {h : Hpx} {M : Msx} {H : Heap} {locs : List Loc} (w : Wd_ v g h M H locs) {a c : Nat} (hk : h_k h a = c + 1) : a < h_z h := by
  rcases Nat.lt_or_ge a (h_z h) with q | q
  · exact q
  · rw [w.2.2.2 a q] at hk
    cases hk
section RW1
variable {v : Evx} {g : Gvx} {cc : ByteArray} {nL : Nat} {own nm : String} {rt : Option FieldType} {rm : Room} {h : Hpx} {M : Msx} {k n pc : Nat} {lv lv' : List (Nat × Vlx)} {st : List Vlx} {ρ : Type} {res : ρ} {A B : Option ρ}
theorem a_sub (hs : lv'.all (fun q => lv.any (fun z => Nat.beq z.1 q.1) ) = true) (he : ∀ q ∈ lv', q ∈ lv) (kk : At_ v g nL h M k n pc lv' st) : At_ v g nL h M k n pc lv st := fun H locs ls w hl => kk H locs ls w (lv_sub_ hl (fun q hq => by
  obtain ⟨z, hz, rfl⟩ := List.mem_map.mp hq
  exact List.mem_map.mpr ⟨z, he z hz, rfl⟩))
def lv_k (l : List (Nat × Vlx)) (ks : List Nat) : List (Nat × Vlx) := ks.filterMap (fun k => l[k]?)
theorem a_pick (ks : List Nat) (hl : lv_k lv ks = lv') (kk : At_ v g nL h M k n pc lv' st) : At_ v g nL h M k n pc lv st := fun H locs ls w hl0 => kk H locs ls w (lv_sub_ hl0 (fun q hq => by
  subst hl
  obtain ⟨z, hz, rfl⟩ := List.mem_map.mp hq
  obtain ⟨i, -, hi⟩ := List.mem_filterMap.mp hz
  exact List.mem_map.mpr ⟨z, List.mem_of_getElem? hi, rfl⟩))
theorem a_iconst (X : Cx_ v g cc nL own nm rt rm) {z : Int} {x : Int32} (hd : decode cc pc = .ok (.iconst z, 1)) (hv : Int32.ofInt z = x) (kk : At_ v g nL h M k n (pc + 1) lv (v_I x :: st)) : At_ v g nL h M k n pc lv st := fun H locs ls w hl => lv_iconst X.1 X.2.1 hd hv (kk H locs ls w hl)
theorem a_bipush (X : Cx_ v g cc nL own nm rt rm) {z : Int} {x : Int32} (hd : decode cc pc = .ok (.bipush z, 2)) (hv : (Int8.ofInt z).toInt32 = x) (kk : At_ v g nL h M k n (pc + 2) lv (v_I x :: st)) : At_ v g nL h M k n pc lv st := fun H locs ls w hl => lv_bipush X.1 X.2.1 hd hv (kk H locs ls w hl)
theorem a_sipush (X : Cx_ v g cc nL own nm rt rm) {z : Int} {x : Int32} (hd : decode cc pc = .ok (.sipush z, 3)) (hv : (Int16.ofInt z).toInt32 = x) (kk : At_ v g nL h M k n (pc + 3) lv (v_I x :: st)) : At_ v g nL h M k n pc lv st := fun H locs ls w hl => lv_sipush X.1 X.2.1 hd hv (kk H locs ls w hl)
theorem a_lconst (X : Cx_ v g cc nL own nm rt rm) {z : Fin 2} {x : Int64} (hd : decode cc pc = .ok (.lconst z, 1)) (hv : Int64.ofNat (z : Nat) = x) (kk : At_ v g nL h M k n (pc + 1) lv (v_J x :: st)) : At_ v g nL h M k n pc lv st := fun H locs ls w hl => lv_lconst X.1 X.2.1 hd hv (kk H locs ls w hl)
theorem a_ldcw (X : Cx_ v g cc nL own nm rt rm) {ix : Nat} {x : Int32} (hc : Cond.constant own ix x ∈ lw_g) (hd : decode cc pc = .ok (.ldc_w ix, 3)) (kk : At_ v g nL h M k n (pc + 3) lv (v_I x :: st)) : At_ v g nL h M k n pc lv st := fun H locs ls w hl => lv_ldcw X.1 X.2.1 X.2.2.2.1 (X.2.2.2.2.1 _ hc) hd (kk H locs ls w hl)
theorem a_ldc2 (X : Cx_ v g cc nL own nm rt rm) {ix : Nat} {x : Int64} (hc : Cond.constantLong own ix x ∈ lw_g) (hd : decode cc pc = .ok (.ldc2_w ix, 3)) (kk : At_ v g nL h M k n (pc + 3) lv (v_J x :: st)) : At_ v g nL h M k n pc lv st := fun H locs ls w hl => lv_ldc2 X.1 X.2.1 X.2.2.2.1 (X.2.2.2.2.1 _ hc) hd (kk H locs ls w hl)
theorem a_null (X : Cx_ v g cc nL own nm rt rm) (hd : decode cc pc = .ok (.aconst_null, 1)) (kk : At_ v g nL h M k n (pc + 1) lv (v_R none :: st)) : At_ v g nL h M k n pc lv st := fun H locs ls w hl => lv_null X.1 X.2.1 hd (kk H locs ls w hl)
theorem a_iload_n (X : Cx_ v g cc nL own nm rt rm) {i : Fin 4} {x : Int32} (hd : decode cc pc = .ok (.iload_n i, 1)) (hg : lv_g lv (i : Nat) = some (v_I x)) (kk : At_ v g nL h M k n (pc + 1) lv (v_I x :: st)) : At_ v g nL h M k n pc lv st := fun H locs ls w hl => lv_iload_n X.1 X.2.1 hd rfl (lv_at_ hl hg) (kk H locs ls w hl)
theorem a_iload (X : Cx_ v g cc nL own nm rt rm) {i : Nat} {x : Int32} (hd : decode cc pc = .ok (.iload i, 2)) (hg : lv_g lv i = some (v_I x)) (kk : At_ v g nL h M k n (pc + 2) lv (v_I x :: st)) : At_ v g nL h M k n pc lv st := fun H locs ls w hl => lv_iload X.1 X.2.1 hd (lv_at_ hl hg) (kk H locs ls w hl)
theorem a_lload_n (X : Cx_ v g cc nL own nm rt rm) {i : Fin 4} {x : Int64} (hd : decode cc pc = .ok (.lload_n i, 1)) (hg : lv_g lv (i : Nat) = some (v_J x)) (kk : At_ v g nL h M k n (pc + 1) lv (v_J x :: st)) : At_ v g nL h M k n pc lv st := fun H locs ls w hl => lv_lload_n X.1 X.2.1 hd rfl (lv_at_ hl hg) (kk H locs ls w hl)
theorem a_lload (X : Cx_ v g cc nL own nm rt rm) {i : Nat} {x : Int64} (hd : decode cc pc = .ok (.lload i, 2)) (hg : lv_g lv i = some (v_J x)) (kk : At_ v g nL h M k n (pc + 2) lv (v_J x :: st)) : At_ v g nL h M k n pc lv st := fun H locs ls w hl => lv_lload X.1 X.2.1 hd (lv_at_ hl hg) (kk H locs ls w hl)
theorem a_aload_n (X : Cx_ v g cc nL own nm rt rm) {i : Fin 4} {x : Option Nat} (hd : decode cc pc = .ok (.aload_n i, 1)) (hg : lv_g lv (i : Nat) = some (v_R x)) (kk : At_ v g nL h M k n (pc + 1) lv (v_R x :: st)) : At_ v g nL h M k n pc lv st := fun H locs ls w hl => by
  cases x with
  | none => exact lv_aload_nN X.1 X.2.1 hd rfl (lv_at_ hl hg) (kk H locs ls w hl)
  | some a => exact lv_aload_n X.1 X.2.1 hd rfl (lv_at_ hl hg) (kk H locs ls w hl)
theorem a_aload (X : Cx_ v g cc nL own nm rt rm) {i : Nat} {x : Option Nat} (hd : decode cc pc = .ok (.aload i, 2)) (hg : lv_g lv i = some (v_R x)) (kk : At_ v g nL h M k n (pc + 2) lv (v_R x :: st)) : At_ v g nL h M k n pc lv st := fun H locs ls w hl => by
  cases x with
  | none => exact lv_aloadN X.1 X.2.1 hd (lv_at_ hl hg) (kk H locs ls w hl)
  | some a => exact lv_aload X.1 X.2.1 hd (lv_at_ hl hg) (kk H locs ls w hl)
theorem a_xload_n (X : Cx_ v g cc nL own nm rt rm) {i : Fin 4} {x : Nat} (hd : decode cc pc = .ok (.aload_n i, 1)) (hg : lv_g lv (i : Nat) = some (v_X x)) (kk : At_ v g nL h M k n (pc + 1) lv (v_X x :: st)) : At_ v g nL h M k n pc lv st := fun H locs ls w hl => lv_aload_n X.1 X.2.1 hd rfl (lv_at_ hl hg) (kk H locs ls w hl)
theorem a_istore_n (X : Cx_ v g cc nL own nm rt rm) {i : Fin 4} {x : Int32} (hd : decode cc pc = .ok (.istore_n i, 1)) (hn : (i : Nat) < nL) (hl' : lv_p (i : Nat) (v_I x) lv = lv') (kk : At_ v g nL h M k n (pc + 1) lv' st) : At_ v g nL h M k n pc lv (v_I x :: st) := fun H locs ls w hl =>
  lv_istore_n X.1 X.2.1 hd rfl hl hn rfl (fun ls' h' => kk H locs ls' w (hl' ▸ lv_st_ (x := v_I x) h' (lv_f1 (x := v_I x))))
theorem a_istore (X : Cx_ v g cc nL own nm rt rm) {i : Nat} {x : Int32} (hd : decode cc pc = .ok (.istore i, 2)) (hn : i < nL) (hl' : lv_p i (v_I x) lv = lv') (kk : At_ v g nL h M k n (pc + 2) lv' st) : At_ v g nL h M k n pc lv (v_I x :: st) := fun H locs ls w hl =>
  lv_istore X.1 X.2.1 hd hl hn rfl (fun ls' h' => kk H locs ls' w (hl' ▸ lv_st_ (x := v_I x) h' (lv_f1 (x := v_I x))))
theorem a_lstore_n (X : Cx_ v g cc nL own nm rt rm) {i : Fin 4} {x : Int64} (hd : decode cc pc = .ok (.lstore_n i, 1)) (hn : (i : Nat) + 1 < nL) (hl' : lv_p (i : Nat) (v_J x) lv = lv') (kk : At_ v g nL h M k n (pc + 1) lv' st) : At_ v g nL h M k n pc lv (v_J x :: st) := fun H locs ls w hl =>
  lv_lstore_n X.1 X.2.1 hd rfl hl hn rfl (fun ls' h' => kk H locs ls' w (hl' ▸ lv_st_ (x := v_J x) h' (lv_f2 (x := v_J x) rfl)))
theorem a_lstore (X : Cx_ v g cc nL own nm rt rm) {i : Nat} {x : Int64} (hd : decode cc pc = .ok (.lstore i, 2)) (hn : i + 1 < nL) (hl' : lv_p i (v_J x) lv = lv') (kk : At_ v g nL h M k n (pc + 2) lv' st) : At_ v g nL h M k n pc lv (v_J x :: st) := fun H locs ls w hl =>
  lv_lstore X.1 X.2.1 hd hl hn rfl (fun ls' h' => kk H locs ls' w (hl' ▸ lv_st_ (x := v_J x) h' (lv_f2 (x := v_J x) rfl)))
theorem a_astore_n (X : Cx_ v g cc nL own nm rt rm) {i : Fin 4} {x : Option Nat} (hd : decode cc pc = .ok (.astore_n i, 1)) (hn : (i : Nat) < nL) (hl' : lv_p (i : Nat) (v_R x) lv = lv') (kk : At_ v g nL h M k n (pc + 1) lv' st) : At_ v g nL h M k n pc lv (v_R x :: st) := fun H locs ls w hl => by
  cases x with
  | none => exact lv_astore_nN X.1 X.2.1 hd rfl hl hn rfl (fun ls' h' => kk H locs ls' w (hl' ▸ lv_st_ (x := v_R none) h' (lv_f1 (x := v_R none))))
  | some a => exact lv_astore_n X.1 X.2.1 hd rfl hl hn rfl (fun ls' h' => kk H locs ls' w (hl' ▸ lv_st_ (x := v_R (some a)) h' (lv_f1 (x := v_R (some a)))))
theorem a_astore (X : Cx_ v g cc nL own nm rt rm) {i : Nat} {x : Option Nat} (hd : decode cc pc = .ok (.astore i, 2)) (hn : i < nL) (hl' : lv_p i (v_R x) lv = lv') (kk : At_ v g nL h M k n (pc + 2) lv' st) : At_ v g nL h M k n pc lv (v_R x :: st) := fun H locs ls w hl => by
  cases x with
  | none => exact lv_astoreN X.1 X.2.1 hd hl hn rfl (fun ls' h' => kk H locs ls' w (hl' ▸ lv_st_ (x := v_R none) h' (lv_f1 (x := v_R none))))
  | some a => exact lv_astore X.1 X.2.1 hd hl hn rfl (fun ls' h' => kk H locs ls' w (hl' ▸ lv_st_ (x := v_R (some a)) h' (lv_f1 (x := v_R (some a)))))
theorem a_iinc (X : Cx_ v g cc nL own nm rt rm) {i : Nat} {z : Int} {x y : Int32} (hd : decode cc pc = .ok (.iinc i z, 3)) (hg : lv_g lv i = some (v_I x)) (hy : x + Int32.ofInt z = y) (hn : i < nL) (hl' : lv_p i (v_I y) lv = lv') (kk : At_ v g nL h M k n (pc + 3) lv' st) : At_ v g nL h M k n pc lv st := fun H locs ls w hl => by
  obtain ⟨j, hj⟩ := List.getElem?_of_mem (List.mem_map.mpr ⟨(i, v_I x), lv_g_mem hg, rfl⟩ : (i, Value.int x) ∈ lv_m g.2.2 lv)
  exact lv_iinc X.1 X.2.1 hd hl hj hy hn rfl (fun ls' h' => kk H locs ls' w (hl' ▸ lv_st_ (x := v_I y) h' (lv_f1 (x := v_I y))))
theorem a_iadd (X : Cx_ v g cc nL own nm rt rm) {x y : Int32} (hd : decode cc pc = .ok (.iadd, 1)) (kk : At_ v g nL h M k n (pc + 1) lv (v_I (x + y) :: st)) : At_ v g nL h M k n pc lv (v_I y :: v_I x :: st) := fun H locs ls w hl => lv_iadd X.1 X.2.1 hd (kk H locs ls w hl)
theorem a_isub (X : Cx_ v g cc nL own nm rt rm) {x y : Int32} (hd : decode cc pc = .ok (.isub, 1)) (kk : At_ v g nL h M k n (pc + 1) lv (v_I (x - y) :: st)) : At_ v g nL h M k n pc lv (v_I y :: v_I x :: st) := fun H locs ls w hl => lv_isub X.1 X.2.1 hd (kk H locs ls w hl)
theorem a_imul (X : Cx_ v g cc nL own nm rt rm) {x y : Int32} (hd : decode cc pc = .ok (.imul, 1)) (kk : At_ v g nL h M k n (pc + 1) lv (v_I (x * y) :: st)) : At_ v g nL h M k n pc lv (v_I y :: v_I x :: st) := fun H locs ls w hl => lv_imul X.1 X.2.1 hd (kk H locs ls w hl)
theorem a_irem (X : Cx_ v g cc nL own nm rt rm) {x y : Int32} (hd : decode cc pc = .ok (.irem, 1)) (hne : ¬ y = 0) (kk : At_ v g nL h M k n (pc + 1) lv (v_I (x - x / y * y) :: st)) : At_ v g nL h M k n pc lv (v_I y :: v_I x :: st) := fun H locs ls w hl => lv_irem X.1 X.2.1 hd hne (kk H locs ls w hl)
theorem a_iand (X : Cx_ v g cc nL own nm rt rm) {x y : Int32} (hd : decode cc pc = .ok (.iand, 1)) (kk : At_ v g nL h M k n (pc + 1) lv (v_I (x &&& y) :: st)) : At_ v g nL h M k n pc lv (v_I y :: v_I x :: st) := fun H locs ls w hl => lv_iand X.1 X.2.1 hd (kk H locs ls w hl)
theorem a_ior (X : Cx_ v g cc nL own nm rt rm) {x y : Int32} (hd : decode cc pc = .ok (.ior, 1)) (kk : At_ v g nL h M k n (pc + 1) lv (v_I (x ||| y) :: st)) : At_ v g nL h M k n pc lv (v_I y :: v_I x :: st) := fun H locs ls w hl => lv_ior X.1 X.2.1 hd (kk H locs ls w hl)
theorem a_ishl (X : Cx_ v g cc nL own nm rt rm) {x y : Int32} (hd : decode cc pc = .ok (.ishl, 1)) (kk : At_ v g nL h M k n (pc + 1) lv (v_I (x <<< (y &&& 31)) :: st)) : At_ v g nL h M k n pc lv (v_I y :: v_I x :: st) := fun H locs ls w hl => lv_ishl X.1 X.2.1 hd (kk H locs ls w hl)
theorem a_ishr (X : Cx_ v g cc nL own nm rt rm) {x y : Int32} (hd : decode cc pc = .ok (.ishr, 1)) (kk : At_ v g nL h M k n (pc + 1) lv (v_I (x >>> (y &&& 31)) :: st)) : At_ v g nL h M k n pc lv (v_I y :: v_I x :: st) := fun H locs ls w hl => lv_ishr X.1 X.2.1 hd (kk H locs ls w hl)
theorem a_iushr (X : Cx_ v g cc nL own nm rt rm) {x y : Int32} (hd : decode cc pc = .ok (.iushr, 1)) (kk : At_ v g nL h M k n (pc + 1) lv (v_I ((x.toUInt32 >>> (y.toUInt32 &&& Int32.toUInt32 31)).toInt32) :: st)) : At_ v g nL h M k n pc lv (v_I y :: v_I x :: st) := fun H locs ls w hl => lv_iushr X.1 X.2.1 hd rfl (kk H locs ls w hl)
theorem a_i2l (X : Cx_ v g cc nL own nm rt rm) {x : Int32} (hd : decode cc pc = .ok (.i2l, 1)) (kk : At_ v g nL h M k n (pc + 1) lv (v_J x.toInt64 :: st)) : At_ v g nL h M k n pc lv (v_I x :: st) := fun H locs ls w hl => lv_i2l X.1 X.2.1 hd rfl (kk H locs ls w hl)
theorem a_land (X : Cx_ v g cc nL own nm rt rm) {x y : Int64} (hd : decode cc pc = .ok (.land, 1)) (kk : At_ v g nL h M k n (pc + 1) lv (v_J (x &&& y) :: st)) : At_ v g nL h M k n pc lv (v_J y :: v_J x :: st) := fun H locs ls w hl => lv_land X.1 X.2.1 hd (kk H locs ls w hl)
theorem a_lor (X : Cx_ v g cc nL own nm rt rm) {x y : Int64} (hd : decode cc pc = .ok (.lor, 1)) (kk : At_ v g nL h M k n (pc + 1) lv (v_J (x ||| y) :: st)) : At_ v g nL h M k n pc lv (v_J y :: v_J x :: st) := fun H locs ls w hl => lv_lor X.1 X.2.1 hd (kk H locs ls w hl)
theorem a_lcmp (X : Cx_ v g cc nL own nm rt rm) {x y : Int64} (hd : decode cc pc = .ok (.lcmp, 1)) (kk : At_ v g nL h M k n (pc + 1) lv (v_I (lg_cmp x y) :: st)) : At_ v g nL h M k n pc lv (v_J y :: v_J x :: st) := fun H locs ls w hl => W.lcmp X.1 X.2.1 hd (kk H locs ls w hl)
theorem a_dup (X : Cx_ v g cc nL own nm rt rm) {x : Vlx} (hd : decode cc pc = .ok (.dup, 1)) (hx : is_L x = false) (kk : At_ v g nL h M k n (pc + 1) lv (x :: x :: st)) : At_ v g nL h M k n pc lv (x :: st) := fun H locs ls w hl => lv_dup X.1 X.2.1 hd (by rw [to_V_cat, hx]; rfl) (kk H locs ls w hl)
theorem a_pop (X : Cx_ v g cc nL own nm rt rm) {x : Vlx} (hd : decode cc pc = .ok (.pop, 1)) (hx : is_L x = false) (kk : At_ v g nL h M k n (pc + 1) lv st) : At_ v g nL h M k n pc lv (x :: st) := fun H locs ls w hl => lv_pop X.1 X.2.1 hd (by rw [to_V_cat, hx]; rfl) (kk H locs ls w hl)
theorem a_dup2 (X : Cx_ v g cc nL own nm rt rm) {x y : Vlx} (hd : decode cc pc = .ok (.dup2, 1)) (hx : is_L x = false) (hy : is_L y = false) (kk : At_ v g nL h M k n (pc + 1) lv (x :: y :: x :: y :: st)) : At_ v g nL h M k n pc lv (x :: y :: st) := fun H locs ls w hl => lv_dup2_11 X.1 X.2.1 hd (by rw [to_V_cat, hx]; rfl) (by rw [to_V_cat, hy]; rfl) (kk H locs ls w hl)
theorem a_goto (X : Cx_ v g cc nL own nm rt rm) {off : Int} {tgt : Nat} (hd : decode cc pc = .ok (.goto off, 3)) (ht : (pc : Int) + off = (tgt : Int)) (kk : At_ v g nL h M k n tgt lv st) : At_ v g nL h M k n pc lv st := fun H locs ls w hl => lv_goto X.1 X.2.1 hd ht (kk H locs ls w hl)
theorem i_p {c : Prop} [Decidable c] {A B : Option ρ} (hm : (if c then A else B) = some res) (hc : c) : A = some res := by rw [if_pos hc] at hm; exact hm
theorem i_n {c : Prop} [Decidable c] {A B : Option ρ} (hm : (if c then A else B) = some res) (hc : ¬ c) : B = some res := by rw [if_neg hc] at hm; exact hm
theorem i_c {c : Prop} [Decidable c] {A : Option ρ} (hm : (if c then A else none) = some res) : c ∧ A = some res := by
  by_cases hc : c
  · exact ⟨hc, i_p hm hc⟩
  · rw [if_neg hc] at hm
    cases hm
theorem i_b {α : Type} {x : Option α} {F : α → Option ρ} (hm : x.bind F = some res) : ∃ a, x = some a ∧ F a = some res := by
  cases x with
  | none => cases hm
  | some a => exact ⟨a, rfl, hm⟩
def c_l {σ α β : Type} (x : Option (σ × α)) (f : σ → α → Option β) : Option β := x.bind fun q => f q.1 q.2
theorem i_l {σ α : Type} {x : Option (σ × α)} {F : σ → α → Option ρ} (hm : c_l x F = some res) : ∃ s a, x = some (s, a) ∧ F s a = some res := by
  cases x with
  | none => cases hm
  | some a => exact ⟨a.1, a.2, rfl, hm⟩
theorem a_if_eq (X : Cx_ v g cc nL own nm rt rm) {x : Int32} {off : Int} {tgt : Nat} (hd : decode cc pc = .ok (.ifCond .eq off, 3)) (ht : (pc : Int) + off = (tgt : Int)) (hm : (if x = 0 then A else B) = some res) (kt : x = 0 → A = some res → At_ v g nL h M k n tgt lv st) (kf : ¬ x = 0 → B = some res → At_ v g nL h M k n (pc + 3) lv st) : At_ v g nL h M k n pc lv (v_I x :: st) := fun H locs ls w hl => lv_if_eq X.1 X.2.1 hd ht (fun c => kt c (i_p hm c) H locs ls w hl) (fun c => kf c (i_n hm c) H locs ls w hl)
theorem a_if_ne (X : Cx_ v g cc nL own nm rt rm) {x : Int32} {off : Int} {tgt : Nat} (hd : decode cc pc = .ok (.ifCond .ne off, 3)) (ht : (pc : Int) + off = (tgt : Int)) (hm : (if x = 0 then B else A) = some res) (kt : ¬ x = 0 → A = some res → At_ v g nL h M k n tgt lv st) (kf : x = 0 → B = some res → At_ v g nL h M k n (pc + 3) lv st) : At_ v g nL h M k n pc lv (v_I x :: st) := fun H locs ls w hl => lv_if_ne X.1 X.2.1 hd ht (fun c => kt c (i_n hm c) H locs ls w hl) (fun c => kf c (i_p hm c) H locs ls w hl)
theorem a_if_lt (X : Cx_ v g cc nL own nm rt rm) {x : Int32} {off : Int} {tgt : Nat} (hd : decode cc pc = .ok (.ifCond .lt off, 3)) (ht : (pc : Int) + off = (tgt : Int)) (hm : (if x < 0 then A else B) = some res) (kt : x < 0 → A = some res → At_ v g nL h M k n tgt lv st) (kf : ¬ x < 0 → B = some res → At_ v g nL h M k n (pc + 3) lv st) : At_ v g nL h M k n pc lv (v_I x :: st) := fun H locs ls w hl => lv_if_lt X.1 X.2.1 hd ht (fun c => kt c (i_p hm c) H locs ls w hl) (fun c => kf c (i_n hm c) H locs ls w hl)
theorem a_if_ge (X : Cx_ v g cc nL own nm rt rm) {x : Int32} {off : Int} {tgt : Nat} (hd : decode cc pc = .ok (.ifCond .ge off, 3)) (ht : (pc : Int) + off = (tgt : Int)) (hm : (if 0 ≤ x then A else B) = some res) (kt : 0 ≤ x → A = some res → At_ v g nL h M k n tgt lv st) (kf : ¬ 0 ≤ x → B = some res → At_ v g nL h M k n (pc + 3) lv st) : At_ v g nL h M k n pc lv (v_I x :: st) := fun H locs ls w hl => lv_if_ge X.1 X.2.1 hd ht (fun c => kt c (i_p hm c) H locs ls w hl) (fun c => kf c (i_n hm c) H locs ls w hl)
theorem a_if_gt (X : Cx_ v g cc nL own nm rt rm) {x : Int32} {off : Int} {tgt : Nat} (hd : decode cc pc = .ok (.ifCond .gt off, 3)) (ht : (pc : Int) + off = (tgt : Int)) (hm : (if 0 < x then A else B) = some res) (kt : 0 < x → A = some res → At_ v g nL h M k n tgt lv st) (kf : ¬ 0 < x → B = some res → At_ v g nL h M k n (pc + 3) lv st) : At_ v g nL h M k n pc lv (v_I x :: st) := fun H locs ls w hl => lv_if_gt X.1 X.2.1 hd ht (fun c => kt c (i_p hm c) H locs ls w hl) (fun c => kf c (i_n hm c) H locs ls w hl)
theorem a_if_le (X : Cx_ v g cc nL own nm rt rm) {x : Int32} {off : Int} {tgt : Nat} (hd : decode cc pc = .ok (.ifCond .le off, 3)) (ht : (pc : Int) + off = (tgt : Int)) (hm : (if x ≤ 0 then A else B) = some res) (kt : x ≤ 0 → A = some res → At_ v g nL h M k n tgt lv st) (kf : ¬ x ≤ 0 → B = some res → At_ v g nL h M k n (pc + 3) lv st) : At_ v g nL h M k n pc lv (v_I x :: st) := fun H locs ls w hl => lv_if_le X.1 X.2.1 hd ht (fun c => kt c (i_p hm c) H locs ls w hl) (fun c => kf c (i_n hm c) H locs ls w hl)
theorem a_icmp_eq (X : Cx_ v g cc nL own nm rt rm) {x y : Int32} {off : Int} {tgt : Nat} (hd : decode cc pc = .ok (.if_icmp .eq off, 3)) (ht : (pc : Int) + off = (tgt : Int)) (hm : (if x = y then A else B) = some res) (kt : x = y → A = some res → At_ v g nL h M k n tgt lv st) (kf : ¬ x = y → B = some res → At_ v g nL h M k n (pc + 3) lv st) : At_ v g nL h M k n pc lv (v_I y :: v_I x :: st) := fun H locs ls w hl => lv_icmp_eq X.1 X.2.1 hd ht (fun c => kt c (i_p hm c) H locs ls w hl) (fun c => kf c (i_n hm c) H locs ls w hl)
theorem a_icmp_ne (X : Cx_ v g cc nL own nm rt rm) {x y : Int32} {off : Int} {tgt : Nat} (hd : decode cc pc = .ok (.if_icmp .ne off, 3)) (ht : (pc : Int) + off = (tgt : Int)) (hm : (if x = y then B else A) = some res) (kt : ¬ x = y → A = some res → At_ v g nL h M k n tgt lv st) (kf : x = y → B = some res → At_ v g nL h M k n (pc + 3) lv st) : At_ v g nL h M k n pc lv (v_I y :: v_I x :: st) := fun H locs ls w hl => lv_icmp_ne X.1 X.2.1 hd ht (fun c => kt c (i_n hm c) H locs ls w hl) (fun c => kf c (i_p hm c) H locs ls w hl)
theorem a_icmp_lt (X : Cx_ v g cc nL own nm rt rm) {x y : Int32} {off : Int} {tgt : Nat} (hd : decode cc pc = .ok (.if_icmp .lt off, 3)) (ht : (pc : Int) + off = (tgt : Int)) (hm : (if x < y then A else B) = some res) (kt : x < y → A = some res → At_ v g nL h M k n tgt lv st) (kf : ¬ x < y → B = some res → At_ v g nL h M k n (pc + 3) lv st) : At_ v g nL h M k n pc lv (v_I y :: v_I x :: st) := fun H locs ls w hl => lv_icmp_lt X.1 X.2.1 hd ht (fun c => kt c (i_p hm c) H locs ls w hl) (fun c => kf c (i_n hm c) H locs ls w hl)
theorem a_icmp_ge (X : Cx_ v g cc nL own nm rt rm) {x y : Int32} {off : Int} {tgt : Nat} (hd : decode cc pc = .ok (.if_icmp .ge off, 3)) (ht : (pc : Int) + off = (tgt : Int)) (hm : (if y ≤ x then A else B) = some res) (kt : y ≤ x → A = some res → At_ v g nL h M k n tgt lv st) (kf : ¬ y ≤ x → B = some res → At_ v g nL h M k n (pc + 3) lv st) : At_ v g nL h M k n pc lv (v_I y :: v_I x :: st) := fun H locs ls w hl => lv_icmp_ge X.1 X.2.1 hd ht (fun c => kt c (i_p hm c) H locs ls w hl) (fun c => kf c (i_n hm c) H locs ls w hl)
theorem a_icmp_gt (X : Cx_ v g cc nL own nm rt rm) {x y : Int32} {off : Int} {tgt : Nat} (hd : decode cc pc = .ok (.if_icmp .gt off, 3)) (ht : (pc : Int) + off = (tgt : Int)) (hm : (if y < x then A else B) = some res) (kt : y < x → A = some res → At_ v g nL h M k n tgt lv st) (kf : ¬ y < x → B = some res → At_ v g nL h M k n (pc + 3) lv st) : At_ v g nL h M k n pc lv (v_I y :: v_I x :: st) := fun H locs ls w hl => lv_icmp_gt X.1 X.2.1 hd ht (fun c => kt c (i_p hm c) H locs ls w hl) (fun c => kf c (i_n hm c) H locs ls w hl)
theorem a_icmp_le (X : Cx_ v g cc nL own nm rt rm) {x y : Int32} {off : Int} {tgt : Nat} (hd : decode cc pc = .ok (.if_icmp .le off, 3)) (ht : (pc : Int) + off = (tgt : Int)) (hm : (if x ≤ y then A else B) = some res) (kt : x ≤ y → A = some res → At_ v g nL h M k n tgt lv st) (kf : ¬ x ≤ y → B = some res → At_ v g nL h M k n (pc + 3) lv st) : At_ v g nL h M k n pc lv (v_I y :: v_I x :: st) := fun H locs ls w hl => lv_icmp_le X.1 X.2.1 hd ht (fun c => kt c (i_p hm c) H locs ls w hl) (fun c => kf c (i_n hm c) H locs ls w hl)
theorem a_ifnull (X : Cx_ v g cc nL own nm rt rm) {x : Option Nat} {off : Int} {tgt : Nat} (hd : decode cc pc = .ok (.ifnull off, 3)) (ht : (pc : Int) + off = (tgt : Int)) (hm : (if x = none then A else B) = some res) (kt : x = none → A = some res → At_ v g nL h M k n tgt lv st) (kf : ¬ x = none → B = some res → At_ v g nL h M k n (pc + 3) lv st) : At_ v g nL h M k n pc lv (v_R x :: st) := fun H locs ls w hl => by
  cases x with
  | none => exact lv_ifnullN X.1 X.2.1 hd ht (kt rfl (i_p hm rfl) H locs ls w hl)
  | some a => exact lv_ifnull X.1 X.2.1 hd (kf (fun q => by cases q) (i_n hm (fun q => by cases q)) H locs ls w hl)
theorem a_ifnonnull (X : Cx_ v g cc nL own nm rt rm) {x : Option Nat} {off : Int} {tgt : Nat} (hd : decode cc pc = .ok (.ifnonnull off, 3)) (ht : (pc : Int) + off = (tgt : Int)) (hm : (if x = none then B else A) = some res) (kt : ¬ x = none → A = some res → At_ v g nL h M k n tgt lv st) (kf : x = none → B = some res → At_ v g nL h M k n (pc + 3) lv st) : At_ v g nL h M k n pc lv (v_R x :: st) := fun H locs ls w hl => by
  cases x with
  | none => exact lv_ifnonnullN X.1 X.2.1 hd (kf rfl (i_p hm rfl) H locs ls w hl)
  | some a => exact lv_ifnonnull X.1 X.2.1 hd ht (kt (fun q => by cases q) (i_n hm (fun q => by cases q)) H locs ls w hl)
theorem a_tsIn (X : Cx_ v g cc nL own nm rt rm) {d lo hi : Int} {offs : Array Int} {len : Nat} {x c : Int32} {off : Int} {tgt : Nat} (hd : decode cc pc = .ok (.tableswitch d lo hi offs, len)) (hx : x = c) (h1 : ¬ c.toInt < lo) (h2 : ¬ hi < c.toInt) (ho : offs[(c.toInt - lo).toNat]? = some off) (ht : (pc : Int) + off = (tgt : Int)) (kk : At_ v g nL h M k n tgt lv st) : At_ v g nL h M k n pc lv (v_I x :: st) := fun H locs ls w hl => by
  subst hx
  exact lv_tableIn X.1 X.2.1 hd h1 h2 ho ht (kk H locs ls w hl)
theorem a_tsOut (X : Cx_ v g cc nL own nm rt rm) {d lo hi : Int} {offs : Array Int} {len : Nat} {x : Int32} {tgt : Nat} (hd : decode cc pc = .ok (.tableswitch d lo hi offs, len)) (h1 : x.toInt < lo ∨ hi < x.toInt) (ht : (pc : Int) + d = (tgt : Int)) (kk : At_ v g nL h M k n tgt lv st) : At_ v g nL h M k n pc lv (v_I x :: st) := fun H locs ls w hl => lv_tableOut X.1 X.2.1 hd h1 ht (kk H locs ls w hl)
theorem a_mmax (X : Cx_ v g cc nL own nm rt rm) {ix : Nat} {x y : Int32} (hlk : Cond.methodLink own ix Lib.Math.max.name ∈ lw_g) (hR : 1 ≤ rm.frames ∧ st_w st + 13 ≤ rm.locals ∧ k ≤ rm.cells ∧ n ≤ rm.slots) (hd : decode cc pc = .ok (.invokestatic ix, 3)) (kk : At_ v g nL h M k n (pc + 3) lv (v_I (if x < y then y else x) :: st)) : At_ v g nL h M k n pc lv (v_I y :: v_I x :: st) := fun H locs ls w hl =>
  va_mmax X.1 X.2.1 (X.2.2.1.trans hl.1.symm) X.2.2.2.1 (X.2.2.2.2.1 _ hlk) (X.2.2.2.2.1 _ sta_J9_max_7cf53) (X.2.2.2.2.1 _ ini_J9) (X.2.2.2.2.1 _ co_J9_max_7cf53) (by rw [X.2.2.2.2.2.2.2.1]; exact hR.1) (by rw [X.2.2.2.2.2.2.2.1, st_w_eq]; exact hR.2.1) (by rw [X.2.2.2.2.2.2.2.1]; exact hR.2.2.1) (by rw [X.2.2.2.2.2.2.2.1]; exact hR.2.2.2) hd (kk H locs ls w hl)
theorem a_mmin (X : Cx_ v g cc nL own nm rt rm) {ix : Nat} {x y : Int32} (hlk : Cond.methodLink own ix Lib.Math.min.name ∈ lw_g) (hR : 1 ≤ rm.frames ∧ st_w st + 13 ≤ rm.locals ∧ k ≤ rm.cells ∧ n ≤ rm.slots) (hd : decode cc pc = .ok (.invokestatic ix, 3)) (kk : At_ v g nL h M k n (pc + 3) lv (v_I (if y < x then y else x) :: st)) : At_ v g nL h M k n pc lv (v_I y :: v_I x :: st) := fun H locs ls w hl =>
  va_mmin X.1 X.2.1 (X.2.2.1.trans hl.1.symm) X.2.2.2.1 (X.2.2.2.2.1 _ hlk) (X.2.2.2.2.1 _ sta_J9_min_7cf53) (X.2.2.2.2.1 _ ini_J9) (X.2.2.2.2.1 _ co_J9_min_7cf53) (by rw [X.2.2.2.2.2.2.2.1]; exact hR.1) (by rw [X.2.2.2.2.2.2.2.1, st_w_eq]; exact hR.2.1) (by rw [X.2.2.2.2.2.2.2.1]; exact hR.2.2.1) (by rw [X.2.2.2.2.2.2.2.1]; exact hR.2.2.2) hd (kk H locs ls w hl)
theorem a_widen {k' n' : Nat} (h1 : k ≤ k') (h2 : n ≤ n') (kk : At_ v g nL h M k' n' pc lv st) : At_ v g nL h M k n pc lv st := fun H locs ls w hl => W.widen h1 h2 (kk H locs ls w hl)
theorem a_objInit (X : Cx_ v g cc nL own nm rt rm) {ix a : Nat} (hlk : Cond.methodLink own ix objectInit ∈ lw_g) (hR : 1 ≤ rm.frames ∧ st_w st + 12 ≤ rm.locals) (hd : decode cc pc = .ok (.invokespecial ix, 3)) (kk : At_ v g nL h M k n (pc + 3) lv st) : At_ v g nL h M k n pc lv (v_R (some a) :: st) := fun H locs ls w hl =>
  W.objInit X.1 X.2.1 X.2.2.2.1 (X.2.2.2.2.1 _ hlk) (X.2.2.2.2.1 _ im_java_lang_Object_init_) (X.2.2.2.2.1 _ co_java_lang_Object_init_) rfl (hl.1.trans X.2.2.1.symm) rfl hd (by rw [X.2.2.2.2.2.2.2.1]; exact hR.1) (by rw [X.2.2.2.2.2.2.2.1, st_w_eq]; show 2 * 0 + _ + 12 ≤ _; omega) (kk H locs ls w hl)
end RW1
end
section
/-! rows that read and write cells -/
theorem fs_get {b : Nat} {h : Hpx} {ci a kf : Nat} (hf : kf < f_N ci) : (f_fs b h ci a)[kf]? = some (f_val b h ci a kf) := by simp [f_fs, hf]
theorem fs_len {b : Nat} {h : Hpx} {ci a : Nat} : (f_fs b h ci a).length = f_N ci := by simp [f_fs]
section RW2
variable {v : Evx} {g : Gvx} {cc : ByteArray} {nL : Nat} {own nm : String} {rt : Option FieldType} {rm : Room} {h h' : Hpx} {M M' : Msx} {k n pc : Nat} {lv lv' : List (Nat × Vlx)} {st : List Vlx} {H H' : Heap} {locs : List Loc}
theorem wd_set (w : Wd_ v g h M H locs) {a sl : Nat} (ha : a < h_z h) (hat : va_at g.1 cls_ (g.2.2 + a, cell_ g.2.2 g.2.1 h' M' a) H') (z : H'.size = H.size) (oq : ∀ q, q ≠ g.2.2 + a → H'[q]? = H[q]?) (hz : h_z h' = h_z h) (hk : h_k h' = h_k h) (ho : ∀ c, c ≠ a → cell_ g.2.2 g.2.1 h' M' c = cell_ g.2.2 g.2.1 h M c) : Wd_ v g h' M' H' (locs ++ [⟨g.2.2 + a, sl⟩]) := by
  obtain ⟨w1, w2, w3, w4⟩ := w
  refine ⟨by rw [z, hz]; exact w1, ?_, w3.put z oq (Nat.le_add_right _ _), fun c hc => by rw [hk]; exact w4 c (by rw [← hz]; exact hc)⟩
  rw [← ws_set ha hz rfl ho]
  exact w2.set ws_D (ws_get ha rfl) hat oq
theorem a_getG (X : Cx_ v g cc nL own nm rt rm) {x : Option Nat} {a ci kf ix : Nat} {y : Vlx} (hx : x = some a) (hk : h_k h a = ci + 1) (hc : ci < 5) (hf : kf < f_N ci) (hy : f_val g.2.2 h ci a kf = to_V g.2.2 y) (hlk : Cond.fieldLink own ix (f_T ci kf).1 (f_T ci kf).2.1 (f_T ci kf).2.2.1 ∈ lw_g) (hd : decode cc pc = .ok (.getfield ix, 3)) (kk : At_ v g nL h M k n (pc + 3) lv (y :: st)) : At_ v g nL h M k n pc lv (v_R x :: st) := fun H locs ls w hl => by
  subst hx
  show W_ v H locs k n (F0 _ pc ls (.ref (g.2.2 + a) :: st.map (to_V g.2.2)))
  exact va_get (D := g.1) X.1 X.2.1 X.2.2.2.2.1 (cls_in ci hc) X.2.2.2.1 X.2.2.2.2.2.1 w.2.1 a (ws_get (in_z w hk) (cell_obj hk hc)) (cls_at ci hc) kf hf (X.2.2.2.2.1 _ hlk) (fun _ h9 => h9) (v := to_V g.2.2 y) (by rw [fs_get hf, hy]) hd (kk H locs ls w hl)
theorem a_getI (X : Cx_ v g cc nL own nm rt rm) {x : Option Nat} {a : Nat} (ci kf : Nat) {ix : Nat} (hx : x = some a) (hk : h_k h a = ci + 1) (hc : ci < 5 ∧ kf < f_N ci) (ht : f_ty ci kf = 0) (hlk : Cond.fieldLink own ix (f_T ci kf).1 (f_T ci kf).2.1 (f_T ci kf).2.2.1 ∈ lw_g) (hd : decode cc pc = .ok (.getfield ix, 3)) (kk : At_ v g nL h M k n (pc + 3) lv (v_I (h_I h a kf) :: st)) : At_ v g nL h M k n pc lv (v_R x :: st) :=
  a_getG X hx hk hc.1 hc.2 (by simp [f_val, ht, to_V]) hlk hd kk
theorem a_getJ (X : Cx_ v g cc nL own nm rt rm) {x : Option Nat} {a : Nat} (ci kf : Nat) {ix : Nat} (hx : x = some a) (hk : h_k h a = ci + 1) (hc : ci < 5 ∧ kf < f_N ci) (ht : f_ty ci kf = 1) (hlk : Cond.fieldLink own ix (f_T ci kf).1 (f_T ci kf).2.1 (f_T ci kf).2.2.1 ∈ lw_g) (hd : decode cc pc = .ok (.getfield ix, 3)) (kk : At_ v g nL h M k n (pc + 3) lv (v_J (h_J h a kf) :: st)) : At_ v g nL h M k n pc lv (v_R x :: st) :=
  a_getG X hx hk hc.1 hc.2 (by simp [f_val, ht, to_V]) hlk hd kk
theorem a_getR (X : Cx_ v g cc nL own nm rt rm) {x : Option Nat} {a : Nat} (ci kf : Nat) {ix : Nat} (hx : x = some a) (hk : h_k h a = ci + 1) (hc : ci < 5 ∧ kf < f_N ci) (ht : f_ty ci kf = 2) (hlk : Cond.fieldLink own ix (f_T ci kf).1 (f_T ci kf).2.1 (f_T ci kf).2.2.1 ∈ lw_g) (hd : decode cc pc = .ok (.getfield ix, 3)) (kk : At_ v g nL h M k n (pc + 3) lv (v_R (h_R h a kf) :: st)) : At_ v g nL h M k n pc lv (v_R x :: st) :=
  a_getG X hx hk hc.1 hc.2 (by simp [f_val, ht, to_V]) hlk hd kk
theorem a_putG (X : Cx_ v g cc nL own nm rt rm) {x : Option Nat} {a ci kf ix : Nat} {y : Vlx} (fin : Bool) (hx : x = some a) (hk : h_k h a = ci + 1) (hc : ci < 5) (hf : kf < f_N ci) (hfin : (f_T ci kf).2.2.2 = fin) (hini : fin = true → nm = "<init>" ∧ (f_T ci kf).1 = own) (hna : narrow (f_t ci kf) (to_V g.2.2 y) = to_V g.2.2 y) (hft : fits (f_t ci kf) (to_V g.2.2 y) = true) (hlk : Cond.fieldLink own ix (f_T ci kf).1 (f_T ci kf).2.1 (f_T ci kf).2.2.1 ∈ lw_g) (hd : decode cc pc = .ok (.putfield ix, 3))
    (hz : h_z h' = h_z h) (hk' : h_k h' = h_k h) (hset : (f_fs g.2.2 h ci a).set kf (to_V g.2.2 y) = f_fs g.2.2 h' ci a) (ho : ∀ c, c ≠ a → cell_ g.2.2 g.2.1 h' M c = cell_ g.2.2 g.2.1 h M c) (kk : At_ v g nL h' M k n (pc + 3) lv st) : At_ v g nL h M k n pc lv (y :: v_R x :: st) := fun H locs ls w hl => by
  subst hx
  show W_ v H locs k n (F0 _ pc ls (to_V g.2.2 y :: .ref (g.2.2 + a) :: st.map (to_V g.2.2)))
  have hin := cls_in ci hc
  have hts := X.2.2.2.2.1
  have hK := X.2.2.2.2.2.1
  have hcl := cls_at ci hc
  have hap := va_apart (own := own) hts hin (f_t ci) (cls_ty ci hc) (cls_nm ci hc) hK hcl
  obtain ⟨r, h1, cell, q1, q2, q3, q4⟩ := w.2.1 a _ (ws_get (in_z w hk) (cell_obj hk hc))
  have hr : r = (f_C ci, f_T ci, f_N ci) := Option.some.inj (h1.symm.trans hcl)
  subst hr
  obtain ⟨hS, hfc, kC, hkC, hkind⟩ := hK.1 ci _ hcl
  obtain ⟨cf, kf', fi, f, hi, hsl⟩ := hS kf hf
  have hlay := hts _ (hin _ (u_in_lay hf))
  unfold u_lay at hlay
  have hst := (u_facts hfc hkC (u_lays hts hin hf) hi).1
  have key : ∀ (H1 : Heap), H1[g.2.2 + a]? = some (cell.setSlot (g.1.2 ci kf) (to_V g.2.2 y)) → H1.size = H.size → (∀ q, q ≠ g.2.2 + a → H1[q]? = H[q]?) → W_ v H1 (locs ++ [⟨g.2.2 + a, g.1.2 ci kf⟩]) k n (F0 (e_m v) (pc + 3) ls (st.map (to_V g.2.2))) := by
    intro H1 e1 e2 e3
    refine kk H1 _ ls (wd_set w (in_z w hk) ?_ e2 e3 hz hk' ho) hl
    rw [cell_obj (by rw [hk']; exact hk) hc, ← hset]
    exact ⟨_, hcl, t_OB.to (V := updV (vp_V (f_fs g.2.2 h ci a)) kf (to_V g.2.2 y)) ⟨_, e1, q2, q3, t_set q4 hap hf _⟩ (fun j _ => vp_updV_set (by rw [fs_len]; exact hf) _ j)⟩
  cases fin with
  | false =>
    rw [if_neg (by rw [hfin]; decide)] at hlay
    have h6 := u_store hfc hkC hkind hlay hi (cls_ty ci hc kf hf) hna hft
    refine W.putK X.1 X.2.1 (f := f) ⟨X.2.2.2.1, hts _ hlk, ⟨_, _, _, hi⟩, hst⟩ (by rw [q2]; exact h6) q1 q3 (by rw [hsl]; exact k2_hasslot (q4 kf hf)) rfl rfl hd fun H1 e1 e2 e3 => ?_
    rw [hsl] at e1 ⊢
    exact key H1 e1 e2 e3
  | true =>
    rw [if_pos hfin] at hlay
    have hcf : (e_m v).cls = cf := by
      obtain ⟨_, _, c', _, _, _, -, -, hf', -, -, -, hown2, -⟩ := Cond.laysFinal_spec hlay
      have e1 : c' = cf := by have := hi.symm.trans hf'; simp at this; exact this.1.symm
      rw [(hini rfl).2] at hown2
      rw [← e1]; exact Option.some.inj (X.2.2.2.1.symm.trans hown2)
    have h6 := u_fits hfc hkC hkind (Or.inr hlay) hi (cls_ty ci hc kf hf) hna hft
    refine W.putFinK X.1 X.2.1 X.2.2.2.1 (hts _ hlk) hi hst hcf (X.2.2.2.2.2.2.2.2.2.2.1.trans (hini rfl).1) (by rw [q2]; exact h6) q1 q3 (by rw [hsl]; exact k2_hasslot (q4 kf hf)) rfl rfl hd fun H1 e1 e2 e3 => ?_
    rw [hsl] at e1 ⊢
    exact key H1 e1 e2 e3
theorem fs_setI {b : Nat} {ci a kf : Nat} {x : Int32} (hf : kf < f_N ci) (ht : f_ty ci kf = 0) : (f_fs b h ci a).set kf (.int x) = f_fs b (s_I h a kf x) ci a := by
  refine map_set hf ?_ fun j _ hj => ?_
  · simp [f_val, ht, s_I, h_I, va_up]
  · simp [f_val, s_I, h_I, h_J, h_R, va_up, hj]
theorem fs_setJ {b : Nat} {ci a kf : Nat} {x : Int64} (hf : kf < f_N ci) (ht : f_ty ci kf = 1) : (f_fs b h ci a).set kf (.long x) = f_fs b (s_J h a kf x) ci a := by
  refine map_set hf ?_ fun j _ hj => ?_
  · simp [f_val, ht, s_J, h_J, va_up]
  · simp [f_val, s_J, h_I, h_J, h_R, va_up, hj]
theorem fs_setR {b : Nat} {ci a kf : Nat} {x : Option Nat} (hf : kf < f_N ci) (ht : f_ty ci kf = 2) : (f_fs b h ci a).set kf (va_rf (x.map (b + ·))) = f_fs b (s_R h a kf x) ci a := by
  refine map_set hf ?_ fun j _ hj => ?_
  · simp [f_val, ht, s_R, h_R, va_up]
  · simp [f_val, s_R, h_I, h_J, h_R, va_up, hj]
theorem a_putI (X : Cx_ v g cc nL own nm rt rm) {x : Option Nat} {a : Nat} (ci kf : Nat) {ix : Nat} {y : Int32} (fin : Bool) (hx : x = some a) (hk : h_k h a = ci + 1) (hc : ci < 5 ∧ kf < f_N ci) (ht : f_ty ci kf = 0) (hfin : (f_T ci kf).2.2.2 = fin) (hini : fin = true → nm = "<init>" ∧ (f_T ci kf).1 = own) (hna : narrow (f_t ci kf) (.int y) = .int y) (hft : fits (f_t ci kf) (.int y) = true) (hlk : Cond.fieldLink own ix (f_T ci kf).1 (f_T ci kf).2.1 (f_T ci kf).2.2.1 ∈ lw_g) (hd : decode cc pc = .ok (.putfield ix, 3)) (kk : At_ v g nL (s_I h a kf y) M k n (pc + 3) lv st) : At_ v g nL h M k n pc lv (v_I y :: v_R x :: st) :=
  a_putG (h' := s_I h a kf y) (y := v_I y) X fin hx hk hc.1 hc.2 hfin hini hna hft hlk hd rfl rfl (fs_setI hc.2 ht) (fun c hc => cell_same rfl rfl (s_I_o hc) rfl rfl) kk
theorem a_putJ (X : Cx_ v g cc nL own nm rt rm) {x : Option Nat} {a : Nat} (ci kf : Nat) {ix : Nat} {y : Int64} (fin : Bool) (hx : x = some a) (hk : h_k h a = ci + 1) (hc : ci < 5 ∧ kf < f_N ci) (ht : f_ty ci kf = 1) (hfin : (f_T ci kf).2.2.2 = fin) (hini : fin = true → nm = "<init>" ∧ (f_T ci kf).1 = own) (hna : narrow (f_t ci kf) (.long y) = .long y) (hft : fits (f_t ci kf) (.long y) = true) (hlk : Cond.fieldLink own ix (f_T ci kf).1 (f_T ci kf).2.1 (f_T ci kf).2.2.1 ∈ lw_g) (hd : decode cc pc = .ok (.putfield ix, 3)) (kk : At_ v g nL (s_J h a kf y) M k n (pc + 3) lv st) : At_ v g nL h M k n pc lv (v_J y :: v_R x :: st) :=
  a_putG (h' := s_J h a kf y) (y := v_J y) X fin hx hk hc.1 hc.2 hfin hini hna hft hlk hd rfl rfl (fs_setJ hc.2 ht) (fun c hc => cell_same rfl rfl rfl (s_J_o hc) rfl) kk
theorem nar_rf {ty : FieldType} (hty : ty.isReference = true) (r : Option Nat) : narrow ty (va_rf r) = va_rf r ∧ fits ty (va_rf r) = true := by
  cases ty with
  | object C => cases r <;> exact ⟨rfl, rfl⟩
  | array C => cases r <;> exact ⟨rfl, rfl⟩
  | _ => cases hty
theorem a_putR (X : Cx_ v g cc nL own nm rt rm) {x : Option Nat} {a : Nat} (ci kf : Nat) {ix : Nat} {y : Option Nat} (fin : Bool) (hx : x = some a) (hk : h_k h a = ci + 1) (hc : ci < 5 ∧ kf < f_N ci) (ht : f_ty ci kf = 2) (hfin : (f_T ci kf).2.2.2 = fin) (hini : fin = true → nm = "<init>" ∧ (f_T ci kf).1 = own) (hre : (f_t ci kf).isReference = true) (hlk : Cond.fieldLink own ix (f_T ci kf).1 (f_T ci kf).2.1 (f_T ci kf).2.2.1 ∈ lw_g) (hd : decode cc pc = .ok (.putfield ix, 3)) (kk : At_ v g nL (s_R h a kf y) M k n (pc + 3) lv st) : At_ v g nL h M k n pc lv (v_R y :: v_R x :: st) :=
  a_putG (h' := s_R h a kf y) (y := v_R y) X fin hx hk hc.1 hc.2 hfin hini (nar_rf hre _).1 (nar_rf hre _).2 hlk hd rfl rfl (fs_setR hc.2 ht) (fun c hc => cell_same rfl rfl rfl rfl (s_R_o hc)) kk
/-! arrays of the class -/
theorem a_iald (X : Cx_ v g cc nL own nm rt rm) {x : Option Nat} {a : Nat} {i : Int32} (hx : x = some a) (hk : h_k h a = 6) (hi : in_b i (h_n h a) = true) (hd : decode cc pc = .ok (.iaload, 1)) (kk : At_ v g nL h M k n (pc + 1) lv (v_I (h_I h a i.toNatClampNeg) :: st)) : At_ v g nL h M k n pc lv (v_I i :: v_R x :: st) := fun H locs ls w hl => by
  subst hx
  show W_ v H locs k n (F0 _ pc ls (.int i :: .ref (g.2.2 + a) :: st.map (to_V g.2.2)))
  exact va_iald X.1 X.2.1 X.2.2.2.2.2.1 w.2.1 a 0 (ws_get (in_z w hk) (cell_I hk)) rfl (in_b_in hi) hd (kk H locs ls w hl)
theorem a_lald (X : Cx_ v g cc nL own nm rt rm) {x : Option Nat} {a : Nat} {i : Int32} (hx : x = some a) (hk : h_k h a = 7) (hi : in_b i (h_n h a) = true) (hd : decode cc pc = .ok (.laload, 1)) (kk : At_ v g nL h M k n (pc + 1) lv (v_J (h_J h a i.toNatClampNeg) :: st)) : At_ v g nL h M k n pc lv (v_I i :: v_R x :: st) := fun H locs ls w hl => by
  subst hx
  show W_ v H locs k n (F0 _ pc ls (.int i :: .ref (g.2.2 + a) :: st.map (to_V g.2.2)))
  exact va_lald X.1 X.2.1 X.2.2.2.2.2.1 w.2.1 a 1 (ws_get (in_z w hk) (cell_J hk)) rfl (in_b_in hi) hd (kk H locs ls w hl)
theorem a_aald (X : Cx_ v g cc nL own nm rt rm) {x : Option Nat} {a : Nat} (t : Nat) {C : String} {i : Int32} (hx : x = some a) (hk : h_k h a = t + 6) (ht : 3 ≤ t) (hC : (tys_ g.2.1)[t]? = some (g.2.1 t, .object C)) (hi : in_b i (h_n h a) = true) (hd : decode cc pc = .ok (.aaload, 1)) (kk : At_ v g nL h M k n (pc + 1) lv (v_R (h_R h a i.toNatClampNeg) :: st)) : At_ v g nL h M k n pc lv (v_I i :: v_R x :: st) := fun H locs ls w hl => by
  subst hx
  show W_ v H locs k n (F0 _ pc ls (.int i :: .ref (g.2.2 + a) :: st.map (to_V g.2.2)))
  exact va_aldq X.1 X.2.1 X.2.2.2.2.2.1 w.2.1 a t (ws_get (in_z w (c := t + 5) hk) (cell_R hk ht)) hC (in_b_in hi) hd (kk H locs ls w hl)
theorem a_alen (X : Cx_ v g cc nL own nm rt rm) {x : Option Nat} {a : Nat} (t : Nat) {C : String} (hx : x = some a) (hk : h_k h a = t + 6) (ht : 3 ≤ t) (hC : (tys_ g.2.1)[t]? = some (g.2.1 t, .object C)) (hd : decode cc pc = .ok (.arraylength, 1)) (kk : At_ v g nL h M k n (pc + 1) lv (v_I (nI (h_n h a)) :: st)) : At_ v g nL h M k n pc lv (v_R x :: st) := fun H locs ls w hl => by
  subst hx
  show W_ v H locs k n (F0 _ pc ls (.ref (g.2.2 + a) :: st.map (to_V g.2.2)))
  exact va_alen X.1 X.2.1 X.2.2.2.2.2.1 w.2.1 a t (ws_get (in_z w (c := t + 5) hk) (cell_R hk ht)) hC rfl hd (kk H locs ls w hl)
theorem a_alenI (X : Cx_ v g cc nL own nm rt rm) {x : Option Nat} {a : Nat} (hx : x = some a) (hk : h_k h a = 6) (hd : decode cc pc = .ok (.arraylength, 1)) (kk : At_ v g nL h M k n (pc + 1) lv (v_I (nI (h_n h a)) :: st)) : At_ v g nL h M k n pc lv (v_R x :: st) := fun H locs ls w hl => by
  subst hx
  show W_ v H locs k n (F0 _ pc ls (.ref (g.2.2 + a) :: st.map (to_V g.2.2)))
  exact va_alen X.1 X.2.1 X.2.2.2.2.2.1 w.2.1 a 0 (ws_get (in_z w hk) (cell_I hk)) rfl rfl hd (kk H locs ls w hl)
theorem a_alenJ (X : Cx_ v g cc nL own nm rt rm) {x : Option Nat} {a : Nat} (hx : x = some a) (hk : h_k h a = 7) (hd : decode cc pc = .ok (.arraylength, 1)) (kk : At_ v g nL h M k n (pc + 1) lv (v_I (nI (h_n h a)) :: st)) : At_ v g nL h M k n pc lv (v_R x :: st) := fun H locs ls w hl => by
  subst hx
  show W_ v H locs k n (F0 _ pc ls (.ref (g.2.2 + a) :: st.map (to_V g.2.2)))
  exact va_alen X.1 X.2.1 X.2.2.2.2.2.1 w.2.1 a 1 (ws_get (in_z w hk) (cell_J hk)) rfl rfl hd (kk H locs ls w hl)
theorem vup_i {f : Nat → Int32} {i : Nat} {x : Int32} : updV (fun j => Value.int (f j)) i (.int x) = fun j => .int (va_up f i x j) := by
  funext q
  by_cases hq : q = i
  · subst hq
    simp [updV, va_up]
  · simp [updV, va_up, hq]
theorem vup_l {f : Nat → Int64} {i : Nat} {x : Int64} : updV (fun j => Value.long (f j)) i (.long x) = fun j => .long (va_up f i x j) := by
  funext q
  by_cases hq : q = i
  · subst hq
    simp [updV, va_up]
  · simp [updV, va_up, hq]
theorem vup_r {b : Nat} {f : Nat → Option Nat} {i : Nat} {x : Option Nat} : updV (fun j => va_rf ((f j).map (b + ·))) i (va_rf (x.map (b + ·))) = fun j => va_rf ((va_up f i x j).map (b + ·)) := by
  funext q
  by_cases hq : q = i
  · subst hq
    simp [updV, va_up]
  · simp [updV, va_up, hq]
theorem a_iast (X : Cx_ v g cc nL own nm rt rm) {x : Option Nat} {a : Nat} {i y : Int32} (hx : x = some a) (hk : h_k h a = 6) (hi : in_b i (h_n h a) = true) (hd : decode cc pc = .ok (.iastore, 1)) (kk : At_ v g nL (s_I h a i.toNatClampNeg y) M k n (pc + 1) lv st) : At_ v g nL h M k n pc lv (v_I y :: v_I i :: v_R x :: st) := fun H locs ls w hl => by
  subst hx
  show W_ v H locs k n (F0 _ pc ls (.int y :: .int i :: .ref (g.2.2 + a) :: st.map (to_V g.2.2)))
  have hc : H[g.2.2 + a]? = some (vp_cell (g.2.1 0) (h_n h a, .inl (h_I h a))) := w.2.1 a _ (ws_get (in_z w hk) (cell_I hk))
  refine W.iast X.1 X.2.1 hc ((X.2.2.2.2.2.1.2 0 _ rfl).1 (h_n h a) (fun j => .int (h_I h a j))) (fun q => by cases q) (by show ¬ (i < 0 ∨ (arrV _ _ _).slots.size ≤ _); rw [arrV_size]; exact in_b_in hi) rfl rfl hd fun H1 e z oq => ?_
  refine kk H1 _ ls (wd_set w (in_z w hk) ?_ z oq rfl rfl (fun c hc => cell_same rfl rfl (s_I_o hc) rfl rfl)) hl
  rw [cell_I (h := s_I h a i.toNatClampNeg y) hk]
  show H1[g.2.2 + a]? = some (vp_cell _ _)
  rw [e, vp_cell_i, vp_cell_i, arrV_store, vup_i]
  simp [s_I, h_I, h_n, va_up]
theorem a_last (X : Cx_ v g cc nL own nm rt rm) {x : Option Nat} {a : Nat} {i : Int32} {y : Int64} (hx : x = some a) (hk : h_k h a = 7) (hi : in_b i (h_n h a) = true) (hd : decode cc pc = .ok (.lastore, 1)) (kk : At_ v g nL (s_J h a i.toNatClampNeg y) M k n (pc + 1) lv st) : At_ v g nL h M k n pc lv (v_J y :: v_I i :: v_R x :: st) := fun H locs ls w hl => by
  subst hx
  show W_ v H locs k n (F0 _ pc ls (.long y :: .int i :: .ref (g.2.2 + a) :: st.map (to_V g.2.2)))
  have hc : H[g.2.2 + a]? = some (vp_cell (g.2.1 1) (h_n h a, .inr (.inl (h_J h a)))) := w.2.1 a _ (ws_get (in_z w hk) (cell_J hk))
  refine W.last X.1 X.2.1 hc ((X.2.2.2.2.2.1.2 1 _ rfl).1 (h_n h a) (fun j => .long (h_J h a j))) (fun q => by cases q) (by show ¬ (i < 0 ∨ (arrV _ _ _).slots.size ≤ _); rw [arrV_size]; exact in_b_in hi) rfl rfl hd fun H1 e z oq => ?_
  refine kk H1 _ ls (wd_set w (in_z w hk) ?_ z oq rfl rfl (fun c hc => cell_same rfl rfl rfl (s_J_o hc) rfl)) hl
  rw [cell_J (h := s_J h a i.toNatClampNeg y) hk]
  show H1[g.2.2 + a]? = some (vp_cell _ _)
  rw [e, vp_cell_l, vp_cell_l, arrV_store, vup_l]
  simp [s_J, h_J, h_n, va_up]
theorem a_aast (X : Cx_ v g cc nL own nm rt rm) {x y : Option Nat} {a c : Nat} (t ci : Nat) {i : Int32} (hx : x = some a) (hy : y = some c) (hk : h_k h a = t + 6) (ht : 3 ≤ t) (hkc : h_k h c = ci + 1) (hci : ci < 5) (hC : (tys_ g.2.1)[t]? = some (g.2.1 t, .object (f_C ci))) (hi : in_b i (h_n h a) = true) (hd : decode cc pc = .ok (.aastore, 1)) (kk : At_ v g nL (s_R h a i.toNatClampNeg y) M k n (pc + 1) lv st) : At_ v g nL h M k n pc lv (v_R y :: v_I i :: v_R x :: st) := fun H locs ls w hl => by
  subst hx
  subst hy
  show W_ v H locs k n (F0 _ pc ls (.ref (g.2.2 + c) :: .int i :: .ref (g.2.2 + a) :: st.map (to_V g.2.2)))
  have hc : H[g.2.2 + a]? = some (vp_cell (g.2.1 t) (h_n h a, .inr (.inr (.inr (.inr (fun i => (h_R h a i).map (g.2.2 + ·))))))) := w.2.1 a _ (ws_get (in_z w (c := t + 5) hk) (cell_R hk ht))
  obtain ⟨r', hr', cellV, g1, g2, g3, -⟩ := w.2.1 c _ (ws_get (in_z w hkc) (cell_obj hkc hci))
  have hK := X.2.2.2.2.2.1
  have hcls := (hK.1 ci _ (cls_at ci hci)).2
  obtain ⟨kA, comp, k1, k2, k3, -⟩ := (hK.2 t _ hC).2
  have hcomp : comp = g.1.1 ci := Option.some.inj (k3.symm.trans hcls.1)
  subst hcomp
  obtain ⟨kC, hkC, -⟩ := hcls.2
  have hb := in_b_in hi
  have hlt : i.toNatClampNeg < h_n h a := Nat.not_le.mp fun q => hb (Or.inr q)
  refine W.aast X.1 X.2.1 hc (fun q h => by cases h) (fun h => by cases h) k1 k2 rfl hkC ⟨fun q => hb (Or.inl q), by show _ < (arrV _ _ _).slots.size; rw [arrV_size]; exact hlt⟩ g1 (fun q h => by rw [g3] at h; cases h) (by rw [g2]; exact hkC) (by rw [g2]; exact va_assign hcls) rfl rfl hd fun H1 e z oq => ?_
  refine kk H1 _ ls (wd_set w (in_z w (c := t + 5) hk) ?_ z oq rfl rfl (fun c hc => cell_same rfl rfl rfl rfl (s_R_o hc))) hl
  rw [cell_R (h := s_R h a i.toNatClampNeg (some c)) (t := t) hk ht]
  show H1[g.2.2 + a]? = some (vp_cell _ _)
  rw [e, vp_cell_q, vp_cell_q, arrV_store]
  have := vup_r (b := g.2.2) (f := h_R h a) (i := i.toNatClampNeg) (x := some c)
  simp only [Option.map_some, va_rf] at this
  rw [show (updV (fun j => va_rf (Option.map (fun x => g.2.2 + x) (h_R h a j))) i.toNatClampNeg (Value.ref (g.2.2 + c))) = _ from this]
  simp [s_R, h_R, h_n, va_up, va_rf]
end RW2
end
section
/-! rows that make cells, calls, entries, ends -/
def Wl_ (g : Gvx) (h : Hpx) (M : Msx) (U : State) : Prop := U.heap.size = g.2.2 + h_z h ∧ va_P g.1 cls_ (ws_ g.2.2 g.2.1 h M) U.heap ∧ va_K g.1 cls_ (tys_ g.2.1) U ∧ (va_AO RX0 U ∧ va_AO RX1 U ∧ va_AO RX2 U) ∧ ∀ a, h_z h ≤ a → h_k h a = 0
def Qr_ (g : Gvx) (r : Option Vlx) (h' : Hpx) (M' : Msx) : Array Value → State → Outcome → State → Prop := fun _ st o t => o = .returned (r.map (to_V g.2.2)) ∧ Wl_ g h' M' t ∧ va_F (fun q => g.2.2 ≤ q) st t
/-- a method's contract: from the world h, M with these arguments it answers r and leaves the world h', M' -/
def Mt_ (l : Launch) (g : Gvx) (y : MethodName) (cc : ByteArray) (nL : Nat) (rt : Option FieldType) (rm : Room) (As : List Vlx) (h : Hpx) (M : Msx) (r : Option Vlx) (h' : Hpx) (M' : Msx) : Prop :=
  Met l y (.code y cc nL rt :: lw_g) rm (va_Pc (As.map (to_V g.2.2)) (Wl_ g h M)) (Qr_ g r h' M') rm.cells rm.slots (fun q => g.2.2 ≤ q)
def Fi_ (v : Evx) (g : Gvx) (rm : Room) (r : Option Vlx) (h' : Hpx) (M' : Msx) : Prop := e_Q v = MQ (e_b v) (Qr_ g r h' M') (e_a v) (e_s v) rm.cells rm.slots (fun q => g.2.2 ≤ q)
theorem wl_moved {g : Gvx} {h : Hpx} {M : Msx} {u U : State} (hvm : u.vm.Alike U.vm) (hh : U.heap = u.heap) (w : Wl_ g h M u) : Wl_ g h M U := ⟨by rw [hh]; exact w.1, by rw [hh]; exact w.2.1, va_K.moved hvm w.2.2.1, ⟨w.2.2.2.1.1.moved hvm, w.2.2.2.1.2.1.moved hvm, w.2.2.2.1.2.2.moved hvm⟩, w.2.2.2.2⟩
theorem wl_of {v : Evx} {g : Gvx} {cc : ByteArray} {nL : Nat} {own nm : String} {rt : Option FieldType} {rm : Room} {h : Hpx} {M : Msx} {H : Heap} {locs : List Loc} (X : Cx_ v g cc nL own nm rt rm) (w : Wd_ v g h M H locs) {U : State} (hU : U.heap = H) (hvm : (e_s v).vm.Alike U.vm) : Wl_ g h M U := ⟨by rw [hU]; exact w.1, by rw [hU]; exact w.2.1, va_K.moved hvm X.2.2.2.2.2.1, ⟨X.2.2.2.2.2.2.2.2.2.2.2.1.moved hvm, X.2.2.2.2.2.2.2.2.2.2.2.2.1.moved hvm, X.2.2.2.2.2.2.2.2.2.2.2.2.2.moved hvm⟩, w.2.2.2⟩
theorem blind_ {g : Gvx} {h : Hpx} {M : Msx} {As : List Value} : FrameBlind (va_Pc As (Wl_ g h M)) := fun a U g' mk q => ⟨q.1, wl_moved (u := U) (U := U.calling g' mk a) (Vm.Alike.refl U.vm) rfl q.2⟩
theorem good_ {w : Cond} (h : w ∈ lw_g) : GoodIn lw_g (w :: lw_g) := fun z hz => by
  rcases List.mem_cons.mp hz with rfl | hz
  · exact ⟨h, good_of_word (lw_good _ h)⟩
  · exact ⟨hz, good_of_word (lw_good _ hz)⟩
def Yv_ (y : MethodName) (cc : ByteArray) (nL : Nat) (rt : Option FieldType) (n ci : Nat) : Prop := y.cls = f_C ci ∧ ci < 5 ∧ (y.cls ≠ "java/lang/invoke/MethodHandle" ∧ y.cls ≠ "java/lang/invoke/VarHandle" ∧ (parseMethodDescriptor y.desc).map (fun d => d.parameters.length) = some n) ∧ Cond.code y cc nL rt ∈ lw_g ∧ Cond.instanceMethod y ∈ lw_g ∧ Cond.selects (f_C ci) y y ∈ lw_g ∧ Cond.initialized y.cls ∈ lw_g
def Yi_ (y : MethodName) (cc : ByteArray) (nL : Nat) (n : Nat) : Prop := y.name = "<init>" ∧ (y.cls ≠ "java/lang/invoke/MethodHandle" ∧ y.cls ≠ "java/lang/invoke/VarHandle" ∧ (parseMethodDescriptor y.desc).map (fun d => d.parameters.length) = some n) ∧ Cond.code y cc nL none ∈ lw_g ∧ Cond.instanceMethod y ∈ lw_g ∧ Cond.initialized y.cls ∈ lw_g
def Ys_ (y : MethodName) (cc : ByteArray) (nL : Nat) (rt : Option FieldType) (n : Nat) : Prop := (y.cls ≠ "java/lang/invoke/MethodHandle" ∧ y.cls ≠ "java/lang/invoke/VarHandle" ∧ (parseMethodDescriptor y.desc).map (fun d => d.parameters.length) = some n) ∧ Cond.code y cc nL rt ∈ lw_g ∧ Cond.static y ∈ lw_g ∧ Cond.initialized y.cls ∈ lw_g
section RW3
variable {v : Evx} {g : Gvx} {cc : ByteArray} {nL : Nat} {own nm : String} {rt : Option FieldType} {rm : Room} {h h' : Hpx} {M M' : Msx} {k n k' n' pc : Nat} {lv lv' : List (Nat × Vlx)} {st st0 st' : List Vlx} {H H' : Heap} {locs : List Loc}
theorem wd_push (w : Wd_ v g h M H locs) (hz : h_z h' = h_z h + 1) (hat : va_at g.1 cls_ (g.2.2 + h_z h, cell_ g.2.2 g.2.1 h' M (h_z h)) H') (z : H'.size = g.2.2 + h_z h + 1) (oq : ∀ q, q < g.2.2 + h_z h → H'[q]? = H[q]?) (ho : ∀ c, c < h_z h → cell_ g.2.2 g.2.1 h' M c = cell_ g.2.2 g.2.1 h M c) (hk0 : ∀ c, h_z h' ≤ c → h_k h' c = 0) : Wd_ v g h' M H' locs := by
  obtain ⟨w1, w2, w3, w4⟩ := w
  refine ⟨by rw [z, hz]; omega, ?_, ⟨by rw [z]; have := w3.1; omega, fun q q1 q2 => ?_, w3.2.2⟩, hk0⟩
  · rw [← ws_push hz rfl ho]
    refine va_P.app (w2.kept fun i q hq => ?_) fun i q hq => ?_
    · have hs := ws_some hq
      rw [hs.2]
      exact oq _ (by show g.2.2 + i < _; omega)
    · have hz : i < 1 := (List.getElem?_eq_some_iff.mp hq).1
      rw [show i = 0 by omega] at hq
      cases hq
      exact hat
  · rw [oq q (by have := w3.1; omega)]
    exact w3.2.1 q q1 q2
theorem new_o {kd m c : Nat} (hc : c < h_z h) : cell_ g.2.2 g.2.1 (h_new h kd m) M c = cell_ g.2.2 g.2.1 h M c := by
  have e : c ≠ h_z h := Nat.ne_of_lt hc
  exact cell_same (va_up_ne _ _ e) (va_up_ne _ _ e) (va_up_ne _ _ e) (va_up_ne _ _ e) (va_up_ne _ _ e)
theorem new_0 (w : Wd_ v g h M H locs) {kd m : Nat} (c : Nat) (hc : h_z (h_new h kd m) ≤ c) : h_k (h_new h kd m) c = 0 := by
  have hc : h_z h + 1 ≤ c := hc
  show va_up (h_k h) (h_z h) kd c = 0
  rw [va_up_ne _ _ (by omega)]
  exact w.2.2.2 c (by omega)
theorem new_k {kd m : Nat} : h_k (h_new h kd m) (h_z h) = kd := va_up_self _ _ _
theorem a_new (X : Cx_ v g cc nL own nm rt rm) (ci : Nat) {ix : Nat} (hc : ci < 5) (hcl : Cond.classLink own ix (f_C ci) ∈ lw_g) (hib : Cond.instantiable (f_C ci) (f_N ci) ∈ lw_g) (hin : Cond.initialized (f_C ci) ∈ lw_g) (hR : k + 1 ≤ rm.cells ∧ n + f_N ci ≤ rm.slots) (hk : k + 1 = k') (hn : n + f_N ci = n') (hd : decode cc pc = .ok (.new ix, 3)) (kk : At_ v g nL (h_new h (ci + 1) 0) M k' n' (pc + 3) lv (v_R (some (h_z h)) :: st)) : At_ v g nL h M k n pc lv st := fun H locs ls w hl => by
  subst hk
  subst hn
  have hts := X.2.2.2.2.1
  have hKn := X.2.2.2.2.2.1.1 ci _ (cls_at ci hc)
  refine W.newcK X.1 X.2.1 X.2.2.2.1 (hts _ hcl) (hts _ hib) (hts _ hin) rfl hd (by rw [X.2.2.2.2.2.2.2.1]; exact hR.1) (by rw [X.2.2.2.2.2.2.2.1]; exact hR.2) hKn.2.1 w.1 fun H1 kC hkC e1 z1 o1 => ?_
  refine kk H1 locs ls (wd_push w rfl ?_ z1 o1 (fun c hc => new_o hc) (new_0 w)) hl
  rw [cell_obj new_k hc]
  refine ⟨_, cls_at ci hc, (u_born (f_t ci) hts (cls_in ci hc) hKn hkC e1 (cls_ty ci hc)).to fun j hj => ?_⟩
  rw [cls_df ci hc j hj]
  have e : vp_V (f_fs g.2.2 (h_new h (ci + 1) 0) ci (h_z h)) j = f_val g.2.2 (h_new h (ci + 1) 0) ci (h_z h) j := by
    simp [vp_V, fs_get hj]
  rw [e]
  unfold f_val
  have e1 : h_I (h_new h (ci + 1) 0) (h_z h) = fun _ => 0 := va_up_self _ _ _
  have e2 : h_J (h_new h (ci + 1) 0) (h_z h) = fun _ => 0 := va_up_self _ _ _
  have e3 : h_R (h_new h (ci + 1) 0) (h_z h) = fun _ => none := va_up_self _ _ _
  rw [e1, e2, e3]
  rfl
theorem a_newI (X : Cx_ v g cc nL own nm rt rm) {x : Int32} {N : Nat} (hx : ¬ x < 0) (hN : x.toNatClampNeg = N) (hb : N * 4 ≤ 536870912) (hR : k + 1 ≤ rm.cells ∧ n + N ≤ rm.slots) (hk : k + 1 = k') (hn : n + N = n') (hd : decode cc pc = .ok (.newarray .int, 2)) (kk : At_ v g nL (h_new h 6 N) M k' n' (pc + 2) lv (v_R (some (h_z h)) :: st)) : At_ v g nL h M k n pc lv (v_I x :: st) := fun H locs ls w hl => by
  subst hk
  subst hn
  refine va_newaK (atype := .int) X.1 X.2.1 (X.2.2.2.2.1 _ arc_Jvm_ClassFile_FieldType_int) rfl hd rfl hx hN hb (by rw [X.2.2.2.2.2.2.2.1]; exact hR.1) (by rw [X.2.2.2.2.2.2.2.1]; exact hR.2) w.1 fun H1 cA e1 z1 o1 hAr hNm => ?_
  have hA : cA = g.2.1 0 := Option.some.inj (hNm.symm.trans (X.2.2.2.2.2.1.2 0 _ rfl).2)
  subst hA
  refine kk H1 locs ls (wd_push w rfl ?_ z1 o1 (fun c hc => new_o hc) (new_0 w)) hl
  rw [cell_I new_k]
  show H1[_]? = some (vp_cell _ _)
  rw [e1, vp_cell_i, show h_I (h_new h 6 N) (h_z h) = fun _ => 0 from va_up_self _ _ _, show h_n (h_new h 6 N) (h_z h) = N from va_up_self _ _ _]
  rfl
theorem a_newZ (X : Cx_ v g cc nL own nm rt rm) {x : Int32} {N : Nat} (hx : ¬ x < 0) (hN : x.toNatClampNeg = N) (hb : N * 1 ≤ 536870912) (hR : k + 1 ≤ rm.cells ∧ n + N ≤ rm.slots) (hk : k + 1 = k') (hn : n + N = n') (hd : decode cc pc = .ok (.newarray .boolean, 2)) (kk : At_ v g nL (h_new h 8 N) M k' n' (pc + 2) lv (v_R (some (h_z h)) :: st)) : At_ v g nL h M k n pc lv (v_I x :: st) := fun H locs ls w hl => by
  subst hk
  subst hn
  refine va_newaK (atype := .boolean) X.1 X.2.1 (X.2.2.2.2.1 _ arc_Jvm_ClassFile_FieldType_boolean) rfl hd rfl hx hN hb (by rw [X.2.2.2.2.2.2.2.1]; exact hR.1) (by rw [X.2.2.2.2.2.2.2.1]; exact hR.2) w.1 fun H1 cA e1 z1 o1 hAr hNm => ?_
  have hA : cA = g.2.1 2 := Option.some.inj (hNm.symm.trans (X.2.2.2.2.2.1.2 2 _ rfl).2)
  subst hA
  refine kk H1 locs ls (wd_push w rfl ?_ z1 o1 (fun c hc => new_o hc) (new_0 w)) hl
  rw [cell_Z new_k]
  show H1[_]? = some (vp_cell _ _)
  rw [e1, vp_cell_i, show h_I (h_new h 8 N) (h_z h) = fun _ => 0 from va_up_self _ _ _, show h_n (h_new h 8 N) (h_z h) = N from va_up_self _ _ _]
  rfl
theorem a_newJ (X : Cx_ v g cc nL own nm rt rm) {x : Int32} {N : Nat} (hx : ¬ x < 0) (hN : x.toNatClampNeg = N) (hb : N * 8 ≤ 536870912) (hR : k + 1 ≤ rm.cells ∧ n + N ≤ rm.slots) (hk : k + 1 = k') (hn : n + N = n') (hd : decode cc pc = .ok (.newarray .long, 2)) (kk : At_ v g nL (h_new h 7 N) M k' n' (pc + 2) lv (v_R (some (h_z h)) :: st)) : At_ v g nL h M k n pc lv (v_I x :: st) := fun H locs ls w hl => by
  subst hk
  subst hn
  refine va_newaK (atype := .long) X.1 X.2.1 (X.2.2.2.2.1 _ arc_Jvm_ClassFile_FieldType_long) rfl hd rfl hx hN hb (by rw [X.2.2.2.2.2.2.2.1]; exact hR.1) (by rw [X.2.2.2.2.2.2.2.1]; exact hR.2) w.1 fun H1 cA e1 z1 o1 hAr hNm => ?_
  have hA : cA = g.2.1 1 := Option.some.inj (hNm.symm.trans (X.2.2.2.2.2.1.2 1 _ rfl).2)
  subst hA
  refine kk H1 locs ls (wd_push w rfl ?_ z1 o1 (fun c hc => new_o hc) (new_0 w)) hl
  rw [cell_J new_k]
  show H1[_]? = some (vp_cell _ _)
  rw [e1, vp_cell_l, show h_J (h_new h 7 N) (h_z h) = fun _ => 0 from va_up_self _ _ _, show h_n (h_new h 7 N) (h_z h) = N from va_up_self _ _ _]
  rfl
theorem a_newR (X : Cx_ v g cc nL own nm rt rm) (t : Nat) {C : String} {ix cap : Nat} {x : Int32} (ht : 3 ≤ t) (hC : (tys_ g.2.1)[t]? = some (g.2.1 t, .object C)) (hcl : Cond.classLink own ix C ∈ lw_g) (hao : va_AO C (e_s v)) (hx : in_b x (cap + 1) = true) (hcap : cap * 4 ≤ 536870912) (hR : k + 1 ≤ rm.cells ∧ n + cap ≤ rm.slots) (hk : k + 1 = k') (hn : n + cap = n') (hd : decode cc pc = .ok (.anewarray ix, 3)) (kk : At_ v g nL (h_new h (t + 6) x.toNatClampNeg) M k' n' (pc + 3) lv (v_R (some (h_z h)) :: st)) : At_ v g nL h M k n pc lv (v_I x :: st) := fun H locs ls w hl => by
  subst hk
  subst hn
  have hb := in_b_in hx
  have hlt : x.toNatClampNeg < cap + 1 := Nat.not_le.mp fun q => hb (Or.inr q)
  refine W.anew X.1 X.2.1 X.2.2.2.1 (X.2.2.2.2.1 _ hcl) (va_AO.use hao) rfl hd rfl (fun q => hb (Or.inl q)) (by omega) (by rw [X.2.2.2.2.2.2.2.1]; exact hR.1) (by rw [X.2.2.2.2.2.2.2.1]; omega) fun cA kA comp f1 f2 f3 f4 => ?_
  obtain ⟨kA', comp', -, -, -, f5⟩ := (X.2.2.2.2.2.1.2 t _ hC).2
  have hA : cA = g.2.1 t := Option.some.inj (f1.symm.trans f5)
  subst hA
  generalize hH1 : H.push ({ cls := g.2.1 t, slots := Array.replicate x.toNatClampNeg .null, vm := .none } : Cell) = H1
  have z1 : H1.size = H.size + 1 := by rw [← hH1, Array.size_push]
  have e1 : H1[H.size]? = some (arrV (g.2.1 t) x.toNatClampNeg (fun _ => .null)) := by rw [← hH1, Array.getElem?_push_size, ← arrV_new]
  have o1 : ∀ q : Nat, q < H.size → H1[q]? = H[q]? := fun q hq => by rw [← hH1, Array.getElem?_push, if_neg (Nat.ne_of_lt hq)]
  rw [w.1] at z1 e1 o1 ⊢
  refine W.widen (Nat.le_refl _) (show n + x.toNatClampNeg ≤ n + cap by omega) ?_
  refine kk H1 locs ls (wd_push w rfl ?_ z1 o1 (fun c hc => new_o hc) (new_0 w)) hl
  rw [cell_R (t := t) new_k ht]
  show H1[_]? = some (vp_cell _ _)
  rw [e1, vp_cell_q, show h_R (h_new h (t + 6) x.toNatClampNeg) (h_z h) = fun _ => none from va_up_self _ _ _, show h_n (h_new h (t + 6) x.toNatClampNeg) (h_z h) = x.toNatClampNeg from va_up_self _ _ _]
  rfl
/-! calls -/
theorem a_run {r : Option Vlx} {mc ms : Nat} {a : Array Value} {st0 : List Value} {ls : Array Slot} (hr : va_Run (e_p v) (e_l v) (e_e v) (e_R v) (e_s v) (e_m v) (e_a v) (e_b v) (e_M v) (e_c v) H locs k n mc ms (F0 (e_m v) pc ls st0) (st.map (to_V g.2.2)) (Qr_ g r h' M' a) (fun q => g.2.2 ≤ q)) (w : Wd_ v g h M H locs) (hl : lv_has ls nL (lv_m g.2.2 lv)) (hst : r.toList ++ st = st') (kk : At_ v g nL h' M' (k + mc) (n + ms) (pc + 3) lv st') : W_ v H locs k n (F0 (e_m v) pc ls st0) := by
  intro T hT XX
  obtain ⟨vv, st₀, t, T', L, h0, X', hL, e1, e2, ⟨ho, hw, hz, hk⟩, step⟩ := hr T hT XX
  have hv : vv = r.map (to_V g.2.2) := by injection ho
  subst hv
  subst hst
  rw [h0] at hz hk
  have hs : va_S (fun q => g.2.2 ≤ q) (e_s v).heap T'.heap (locs ++ L) := ⟨Nat.le_trans w.2.2.1.1 (by rw [e1]; exact hz), fun q h1 h2 => by rw [e1, hk q (Nat.lt_of_lt_of_le h1 w.2.2.1.1) h2]; exact w.2.2.1.2.1 q h1 h2, fun q hq => by
    rcases List.mem_append.mp hq with h | h
    · exact w.2.2.1.2.2 q h
    · exact hL q h⟩
  obtain ⟨t2, a1, b1⟩ := kk T'.heap (locs ++ L) ls ⟨by rw [e1]; exact hw.1, by rw [e1]; exact hw.2.1, hs, hw.2.2.2.2⟩ hl T' rfl X'
  refine ⟨t2, step t2 ?_, b1⟩
  cases r with
  | none => exact a1
  | some y => exact a1
theorem a_callV (X : Cx_ v g cc nL own nm rt rm) {y : MethodName} {cc' : ByteArray} {nL' b ci ix : Nat} {rt' : Option FieldType} {rm' : Room} {As : List Vlx} {r : Option Vlx} {x : Option Nat} (hM : Mt_ (e_l v) g y cc' nL' rt' rm' (v_R (some b) :: As) h M r h' M') (Y : Yv_ y cc' nL' rt' As.length ci) (hlk : Cond.methodLink own ix y ∈ lw_g) (hx : x = some b) (hrc : h_k h b = ci + 1 ∨ (b = 5 ∧ ci = 4 ∧ h_k h 5 = 0 ∧ 5 < h_z h)) (hR : rm'.frames + 1 ≤ rm.frames ∧ 8 + (nL' + 11) + rm'.locals ≤ rm.locals ∧ k + rm'.cells ≤ rm.cells ∧ n + rm'.slots ≤ rm.slots ∧ st_w st ≤ 8) (hk : k + rm'.cells = k') (hn : n + rm'.slots = n') (hd : decode cc pc = .ok (.invokevirtual ix, 3)) (hs : As.reverse ++ v_R x :: st = st0) (hst : r.toList ++ st = st') (kk : At_ v g nL h' M' k' n' (pc + 3) lv st') : At_ v g nL h M k n pc lv st0 := fun H locs ls w hl => by
  subst hx
  subst hk
  subst hn
  subst hs
  obtain ⟨y1, y2, y3, y4, y5, y6, y7⟩ := Y
  have hts := X.2.2.2.2.1
  have hR0 := X.2.2.2.2.2.2.2.1
  have hrv : ∃ cell : Cell, H[g.2.2 + b]? = some cell ∧ cell.vm.isStatics = false ∧ (e_s v).vm.findClass (f_C ci) = some cell.cls := by
    rcases hrc with hrc | ⟨rfl, rfl, hrc, hz⟩
    · exact va_recv X.2.2.2.2.2.1 w.2.1 (cls_at ci y2) (ws_get (in_z w hrc) (cell_obj hrc y2))
    · refine va_recv X.2.2.2.2.2.1 w.2.1 (cls_at 4 y2) (ws_get (x := .inr (4, (List.range 42).map (m_val g.2.2 M))) hz ?_)
      unfold cell_ cell_m
      rw [if_pos hrc, if_pos rfl]
  have e0 : (As.reverse ++ v_R (some b) :: st).map (to_V g.2.2) = (As.map (to_V g.2.2)).reverse ++ Value.ref (g.2.2 + b) :: st.map (to_V g.2.2) := by
    rw [List.map_append, List.map_reverse]
    rfl
  rw [e0]
  refine a_run (va_runV (As := As.map (to_V g.2.2)) (n := As.length) (C := f_C ci) ⟨X.1, X.2.1, X.2.2.1, X.2.2.2.1, hts⟩ hM ⟨callB_of As.length hts (good_ y4) rfl rfl rfl (hts _ y7) (hts _ hlk) y3 (by rw [hR0]; exact ⟨hR.1, hR.2.1⟩), hts _ y5, hts _ y6⟩ ⟨blind_, hrv, fun U hU hW => ⟨rfl, wl_of X w hU hW.alike⟩⟩ rfl (by simp) hl.1 rfl (lv_room (by rw [st_w_eq]; exact hR.2.2.2.2)) hd (by rw [hR0]; exact ⟨hR.2.2.1, hR.2.2.2.1⟩)) w hl hst kk
theorem a_callI (X : Cx_ v g cc nL own nm rt rm) {y : MethodName} {cc' : ByteArray} {nL' b ix : Nat} {rm' : Room} {As : List Vlx} {x : Option Nat} (hM : Mt_ (e_l v) g y cc' nL' none rm' (v_R (some b) :: As) h M none h' M') (Y : Yi_ y cc' nL' As.length) (hlk : Cond.methodLink own ix y ∈ lw_g) (hx : x = some b) (hR : rm'.frames + 1 ≤ rm.frames ∧ 8 + (nL' + 11) + rm'.locals ≤ rm.locals ∧ k + rm'.cells ≤ rm.cells ∧ n + rm'.slots ≤ rm.slots ∧ st_w st ≤ 8) (hk : k + rm'.cells = k') (hn : n + rm'.slots = n') (hd : decode cc pc = .ok (.invokespecial ix, 3)) (hs : As.reverse ++ v_R x :: st = st0) (kk : At_ v g nL h' M' k' n' (pc + 3) lv st) : At_ v g nL h M k n pc lv st0 := fun H locs ls w hl => by
  subst hx
  subst hk
  subst hn
  subst hs
  obtain ⟨y1, y3, y4, y5, y7⟩ := Y
  have hts := X.2.2.2.2.1
  have hR0 := X.2.2.2.2.2.2.2.1
  have e0 : (As.reverse ++ v_R (some b) :: st).map (to_V g.2.2) = (As.map (to_V g.2.2)).reverse ++ Value.ref (g.2.2 + b) :: st.map (to_V g.2.2) := by
    rw [List.map_append, List.map_reverse]
    rfl
  rw [e0]
  exact a_run (va_runI (As := As.map (to_V g.2.2)) (n := As.length) ⟨X.1, X.2.1, X.2.2.1, X.2.2.2.1, hts⟩ hM ⟨callB_of As.length hts (good_ y4) rfl rfl rfl (hts _ y7) (hts _ hlk) y3 (by rw [hR0]; exact ⟨hR.1, hR.2.1⟩), y1, hts _ y5⟩ ⟨blind_, fun U hU hW => ⟨rfl, wl_of X w hU hW.alike⟩⟩ rfl (by simp) hl.1 rfl (lv_room (by rw [st_w_eq]; exact hR.2.2.2.2)) hd (by rw [hR0]; exact ⟨hR.2.2.1, hR.2.2.2.1⟩)) w hl rfl kk
theorem a_callS (X : Cx_ v g cc nL own nm rt rm) {y : MethodName} {cc' : ByteArray} {nL' ix : Nat} {rt' : Option FieldType} {rm' : Room} {As : List Vlx} {r : Option Vlx} (hM : Mt_ (e_l v) g y cc' nL' rt' rm' As h M r h' M') (Y : Ys_ y cc' nL' rt' As.length) (hlk : Cond.methodLink own ix y ∈ lw_g) (hR : rm'.frames + 1 ≤ rm.frames ∧ 8 + (nL' + 11) + rm'.locals ≤ rm.locals ∧ k + rm'.cells ≤ rm.cells ∧ n + rm'.slots ≤ rm.slots ∧ st_w st ≤ 8) (hk : k + rm'.cells = k') (hn : n + rm'.slots = n') (hd : decode cc pc = .ok (.invokestatic ix, 3)) (hs : As.reverse ++ st = st0) (hst : r.toList ++ st = st') (kk : At_ v g nL h' M' k' n' (pc + 3) lv st') : At_ v g nL h M k n pc lv st0 := fun H locs ls w hl => by
  subst hk
  subst hn
  subst hs
  obtain ⟨y3, y4, y5, y7⟩ := Y
  have hts := X.2.2.2.2.1
  have hR0 := X.2.2.2.2.2.2.2.1
  have e0 : (As.reverse ++ st).map (to_V g.2.2) = (As.map (to_V g.2.2)).reverse ++ st.map (to_V g.2.2) := by
    rw [List.map_append, List.map_reverse]
  rw [e0]
  exact a_run (va_runS (As := As.map (to_V g.2.2)) (n := As.length) ⟨X.1, X.2.1, X.2.2.1, X.2.2.2.1, hts⟩ hM ⟨callB_of As.length hts (good_ y4) rfl rfl rfl (hts _ y7) (hts _ hlk) y3 (by rw [hR0]; exact ⟨hR.1, hR.2.1⟩), hts _ y5⟩ ⟨blind_, fun U hU hW => ⟨rfl, wl_of X w hU hW.alike⟩⟩ rfl (by simp) hl.1 rfl (lv_room (by rw [st_w_eq]; exact hR.2.2.2.2)) hd (by rw [hR0]; exact ⟨hR.2.2.1, hR.2.2.2.1⟩)) w hl hst kk
/-! ends -/
theorem a_iret (X : Cx_ v g cc nL own nm (some .int) rm) {x y : Int32} (hF : Fi_ v g rm (some (v_I y)) h' M') (hh : h = h' ∧ M = M' ∧ x = y) (hkn : k ≤ rm.cells ∧ n ≤ rm.slots) (hd : decode cc pc = .ok (.ireturn, 1)) : At_ v g nL h M k n pc lv [v_I x] := fun H locs ls w hl => by
  obtain ⟨rfl, rfl, rfl⟩ := hh
  refine W.widen hkn.1 hkn.2 ?_
  rw [hF]
  exact W.iret X.1 X.2.1 X.2.2.2.2.2.2.2.2.1 (fun t ht hW => ⟨rfl, wl_of X w ht hW.alike, w.2.2.1.F ht⟩) w.2.2.1.2.2 hd X.2.2.2.2.2.2.2.2.2.1
theorem a_zret (X : Cx_ v g cc nL own nm (some .boolean) rm) {x y : Int32} (hF : Fi_ v g rm (some (v_I y)) h' M') (hb : x = 0 ∨ x = 1) (hh : h = h' ∧ M = M' ∧ x = y) (hkn : k ≤ rm.cells ∧ n ≤ rm.slots) (hd : decode cc pc = .ok (.ireturn, 1)) : At_ v g nL h M k n pc lv [v_I x] := fun H locs ls w hl => by
  obtain ⟨rfl, rfl, rfl⟩ := hh
  refine W.widen hkn.1 hkn.2 ?_
  rw [hF]
  exact W.zret X.1 X.2.1 X.2.2.2.2.2.2.2.2.1 (by rcases hb with rfl | rfl <;> rfl) (fun t ht hW => ⟨rfl, wl_of X w ht hW.alike, w.2.2.1.F ht⟩) w.2.2.1.2.2 hd X.2.2.2.2.2.2.2.2.2.1
theorem a_lret (X : Cx_ v g cc nL own nm (some .long) rm) {x y : Int64} (hF : Fi_ v g rm (some (v_J y)) h' M') (hh : h = h' ∧ M = M' ∧ x = y) (hkn : k ≤ rm.cells ∧ n ≤ rm.slots) (hd : decode cc pc = .ok (.lreturn, 1)) : At_ v g nL h M k n pc lv [v_J x] := fun H locs ls w hl => by
  obtain ⟨rfl, rfl, rfl⟩ := hh
  refine W.widen hkn.1 hkn.2 ?_
  rw [hF]
  exact W.lret X.1 X.2.1 X.2.2.2.2.2.2.2.2.1 (fun t ht hW => ⟨rfl, wl_of X w ht hW.alike, w.2.2.1.F ht⟩) w.2.2.1.2.2 hd X.2.2.2.2.2.2.2.2.2.1
theorem a_aret (C : String) (X : Cx_ v g cc nL own nm (some (.object C)) rm) {x y : Option Nat} (hF : Fi_ v g rm (some (v_R y)) h' M') (hh : h = h' ∧ M = M' ∧ x = y) (hkn : k ≤ rm.cells ∧ n ≤ rm.slots) (hd : decode cc pc = .ok (.areturn, 1)) : At_ v g nL h M k n pc lv [v_R x] := fun H locs ls w hl => by
  obtain ⟨rfl, rfl, rfl⟩ := hh
  refine W.widen hkn.1 hkn.2 ?_
  rw [hF]
  exact W.aret X.1 X.2.1 X.2.2.2.2.2.2.2.2.1 (Or.inl ⟨C, rfl⟩) (va_rf_or _) (fun t ht hW => ⟨rfl, wl_of X w ht hW.alike, w.2.2.1.F ht⟩) w.2.2.1.2.2 hd X.2.2.2.2.2.2.2.2.2.1
theorem a_vret (X : Cx_ v g cc nL own nm none rm) (hF : Fi_ v g rm none h' M') (hh : h = h' ∧ M = M') (hkn : k ≤ rm.cells ∧ n ≤ rm.slots) (hd : decode cc pc = .ok (.return_, 1)) : At_ v g nL h M k n pc lv [] := fun H locs ls w hl => by
  obtain ⟨rfl, rfl⟩ := hh
  refine W.widen hkn.1 hkn.2 ?_
  rw [hF]
  exact W.vret X.1 X.2.1 X.2.2.2.2.2.2.2.2.1 (fun t ht hW => ⟨rfl, wl_of X w ht hW.alike, w.2.2.1.F ht⟩) w.2.2.1.2.2 hd X.2.2.2.2.2.2.2.2.2.1
/-- a contract out of a walk of the body -/
theorem mt_of {l : Launch} {y : MethodName} {As : List Vlx} {r : Option Vlx} (hy : plainName y.cls = true) (hs : st_w As ≤ nL) (body : ∀ v : Evx, e_l v = l → Cx_ v g cc nL y.cls y.name rt rm → Fi_ v g rm r h' M' → At_ v g nL h M 0 0 0 (lv_a 0 As) []) : Mt_ l g y cc nL rt rm As h M r h' M' := by
  refine Met.ofW (cc := cc) (maxL := nL) (ret := rt) hy rfl ?_
  intro p e s m args below meth c s₁ B hml hv
  obtain ⟨rfl, h1, h2, h3, h4, h5⟩ := hv
  have hts := atoms_spec (ws := .code y cc nL rt :: lw_g) B.pre
  have hle := lv_entry (As.map (to_V g.2.2)) (n := nL) (by rw [lg_len]; exact hs)
  rw [lv_a_eq] at hle
  rw [lg_entry_eq]
  exact body (p, l, e, rm, s, m, (As.map (to_V g.2.2)).toArray, below, meth, c, MQ below (Qr_ g r h' M') (As.map (to_V g.2.2)).toArray s rm.cells rm.slots (fun q => g.2.2 ≤ q)) rfl ⟨B.exec, B.bytes, hml, findClass_of_methodNamed B.named, fun w hw => hts w (List.mem_cons_of_mem _ hw), h3, by rw [h1]; exact Nat.le_add_right _ _, rfl, B.returns, B.notSynchronized, (name_of_methodNamed B.named B.method).1, h4⟩ rfl s.heap [] _ ⟨h1, h2, va_S.rf, h5⟩ hle
end RW3
end
section
/-! System.arraycopy of longs; rows of the reference's own cells -/
section RW4
variable {v : Evx} {g : Gvx} {cc : ByteArray} {nL : Nat} {own nm : String} {rt : Option FieldType} {rm : Room} {h h' : Hpx} {M M' : Msx} {k n k' n' pc : Nat} {lv lv' : List (Nat × Vlx)} {st st0 st' : List Vlx} {H H' : Heap} {locs : List Loc}
theorem nn_ (z : Int32) (hz : ¬ z < 0) : z.toInt = (z.toNatClampNeg : Int) := by
  have hz0 : (0 : Int) ≤ z.toInt := by
    have := Int32.not_lt.mp hz
    simpa using Int32.le_iff_toInt_le.mp this
  show z.toInt = ((z.toInt.toNat : Nat) : Int)
  omega
theorem a_copyJ (X : Cx_ v g cc nL own nm rt rm) {x y : Option Nat} {a b ix : Nat} {sp dp m : Int32} (hx : x = some a) (hy : y = some b) (hka : h_k h a = 7) (hkb : h_k h b = 7) (h1 : ¬ sp < 0) (h2 : ¬ dp < 0) (h3 : ¬ m < 0) (h4 : sp.toNatClampNeg + m.toNatClampNeg ≤ h_n h a) (h5 : dp.toNatClampNeg + m.toNatClampNeg ≤ h_n h b) (hlk : Cond.methodLink own ix arraycopyName ∈ lw_g) (hR : 1 ≤ rm.frames ∧ st_w st + (nativeFrameWords "java/lang/System" "arraycopy" 5 + 11) ≤ rm.locals) (hd : decode cc pc = .ok (.invokestatic ix, 3)) (kk : At_ v g nL (c_J h a b sp.toNatClampNeg dp.toNatClampNeg m.toNatClampNeg) M k n (pc + 3) lv st) : At_ v g nL h M k n pc lv (v_I m :: v_I dp :: v_R y :: v_I sp :: v_R x :: st) := fun H locs ls w hl => by
  subst hx
  subst hy
  show W_ v H locs k n (F0 _ pc ls (.int m :: .int dp :: .ref (g.2.2 + b) :: .int sp :: .ref (g.2.2 + a) :: st.map (to_V g.2.2)))
  have hts := X.2.2.2.2.1
  have hR0 := X.2.2.2.2.2.2.2.1
  intro T hT XX
  have hc0 : H[g.2.2 + a]? = some (vp_cell (g.2.1 1) (h_n h a, .inr (.inl (h_J h a)))) := w.2.1 a _ (ws_get (in_z w hka) (cell_J hka))
  have hc1 : H[g.2.2 + b]? = some (vp_cell (g.2.1 1) (h_n h b, .inr (.inl (h_J h b)))) := w.2.1 b _ (ws_get (in_z w hkb) (cell_J hkb))
  obtain ⟨-, k0, hk0, cm0, hkk0⟩ := (X.2.2.2.2.2.1.2 1 _ rfl).1 (h_n h a) (fun j => .long (h_J h a j))
  obtain ⟨-, k1, hk1, cm1, hkk1⟩ := (X.2.2.2.2.2.1.2 1 _ rfl).1 (h_n h b) (fun j => .long (h_J h b j))
  obtain ⟨vm', X', step⟩ := XX.arraycopy X.1 X.2.2.2.1 (hts _ hlk) (hts _ nat_java_lang_Systemarraycopy) (hts _ sta_java_lang_Systemarraycopy) (hts _ ini_J10) (src := g.2.2 + a) (dst := g.2.2 + b) (cs := vp_cell (g.2.1 1) (h_n h a, .inr (.inl (h_J h a)))) (cd := vp_cell (g.2.1 1) (h_n h b, .inr (.inl (h_J h b)))) (srcPos := sp) (destPos := dp) (n := m) (by rw [hT]; exact hc0) (by rw [hT]; exact hc1)
    (fun _ h => by cases h) (fun _ h => by cases h) (fun h => by cases h) (fun h => by cases h) hk0 hk1 hkk0 hkk1 (by simp [refKind]) h1 h2 h3
    (by rw [nn_ sp h1, nn_ m h3]; show ¬ _ > ((arrV _ (h_n h a) (fun j => .long (h_J h a j))).slots.size : Int); rw [arrV_size]; omega)
    (by rw [nn_ dp h2, nn_ m h3]; show ¬ _ > ((arrV _ (h_n h b) (fun j => .long (h_J h b j))).slots.size : Int); rw [arrV_size]; omega)
    (fun vm₁ _ i hi => by
      have e : (vp_cell (g.2.1 1) (h_n h a, .inr (.inl (h_J h a)))).slots.getD (sp.toNatClampNeg + i) .null = .long (h_J h a (sp.toNatClampNeg + i)) := by
        show (arrV _ (h_n h a) (fun j => .long (h_J h a j))).slots.getD _ _ = _
        rw [Array.getD_eq_getD_getElem?, arrV_read _ _ (by omega)]
        rfl
      refine ⟨?_, ?_⟩
      · rw [e]
        rfl
      · rw [e]
        exact trivial)
    (g := F0 (e_m v) pc ls (.int m :: .int dp :: .ref (g.2.2 + b) :: .int sp :: .ref (g.2.2 + a) :: st.map (to_V g.2.2))) rfl (hl.1.trans X.2.2.1.symm) (rest := st.map (to_V g.2.2)) rfl (by rw [X.2.1]; exact hd) (by rw [hR0]; exact hR.1) (by rw [hR0, st_w_eq]; show 2 * 0 + _ + _ ≤ _; have := hR.2; omega)
  have e1 : copied (vp_cell (g.2.1 1) (h_n h a, .inr (.inl (h_J h a)))) (vp_cell (g.2.1 1) (h_n h b, .inr (.inl (h_J h b)))) sp dp m = vp_cell (g.2.1 1) (h_n h b, .inr (.inl (va_cpy (h_J h a) (h_J h b) sp.toNatClampNeg dp.toNatClampNeg m.toNatClampNeg))) := va_copied (fun z => .long z) (g.2.1 1) (g.2.1 1) (h_J h a) (h_J h b) h4
  rw [e1] at X' step
  have hlt : g.2.2 + b < H.size := (Array.getElem?_eq_some_iff.mp hc1).1
  have hheap : ((T.setVm vm').setCell (g.2.2 + b) (vp_cell (g.2.1 1) (h_n h b, .inr (.inl (va_cpy (h_J h a) (h_J h b) sp.toNatClampNeg dp.toNatClampNeg m.toNatClampNeg))))).heap = H.setIfInBounds (g.2.2 + b) (vp_cell (g.2.1 1) (h_n h b, .inr (.inl (va_cpy (h_J h a) (h_J h b) sp.toNatClampNeg dp.toNatClampNeg m.toNatClampNeg)))) := by rw [← hT]; rfl
  have oq : ∀ q : Nat, q ≠ g.2.2 + b → (H.setIfInBounds (g.2.2 + b) (vp_cell (g.2.1 1) (h_n h b, .inr (.inl (va_cpy (h_J h a) (h_J h b) sp.toNatClampNeg dp.toNatClampNeg m.toNatClampNeg)))))[q]? = H[q]? := fun q hq => by simp [Array.getElem?_setIfInBounds, Ne.symm hq]
  have w' := wd_set (h' := c_J h a b sp.toNatClampNeg dp.toNatClampNeg m.toNatClampNeg) (sl := 0) w (in_z w hkb) (by
    rw [cell_J (h := c_J h a b sp.toNatClampNeg dp.toNatClampNeg m.toNatClampNeg) hkb]
    show (H.setIfInBounds (g.2.2 + b) _)[g.2.2 + b]? = some (vp_cell _ _)
    rw [show h_J (c_J h a b sp.toNatClampNeg dp.toNatClampNeg m.toNatClampNeg) b = va_cpy (h_J h a) (h_J h b) sp.toNatClampNeg dp.toNatClampNeg m.toNatClampNeg from va_up_self _ _ _]
    rw [Array.getElem?_setIfInBounds]
    simp [hlt]
    rfl) (by simp) oq rfl rfl (fun c hc => cell_same rfl rfl rfl (c_J_o hc) rfl)
  obtain ⟨t, a1, b1⟩ := kk _ _ ls ⟨w'.1, w'.2.1, ⟨w'.2.2.1.1, w'.2.2.1.2.1, fun q hq => by
      rcases List.mem_append.mp hq with h | h
      · exact w.2.2.1.2.2 q h
      · obtain ⟨z, -, hz⟩ := List.mem_map.mp h
        rw [← hz]
        exact Nat.le_add_right _ _⟩, w'.2.2.2⟩ hl _ hheap X'
  exact ⟨t, step t a1, b1⟩
/-- the reference's cells stand: nothing of the class lies there -/
def MR_ (h : Hpx) : Prop := 41 ≤ h_z h ∧ ∀ a, 5 ≤ a → a < 41 → h_k h a = 0
theorem m_tab : ∀ kf, kf < 42 → f_ty 4 kf = 2 → 6 ≤ m_at kf ∧ m_at kf < 41 ∧ m_fd (m_at kf) = kf := by decide +kernel
theorem m_sc : ∀ kf, kf < 42 → f_ty 4 kf = 0 ∨ f_ty 4 kf = 2 := by decide +kernel
theorem m_fds : ∀ c, c < 41 → ∀ kf, kf < 42 → f_ty 4 kf = 0 → m_fd c ≠ kf := by decide +kernel
theorem m_fda : ∀ c, c < 41 → ∀ kf, kf < 42 → m_fd c = kf → c = m_at kf := by decide +kernel
theorem m_fdb {c : Nat} (hc : 41 ≤ c) : m_fd c = 99 := by
  unfold m_fd
  split <;> first | omega | rfl
theorem cell_mo {b : Nat} {ac : Nat → ClassId} (hm : MR_ h) : cell_ b ac h M 5 = .inr (4, (List.range 42).map (m_val b M)) := by
  unfold cell_ cell_m
  rw [if_pos (hm.2 5 (by omega) (by omega)), if_pos rfl]
theorem cell_mI {b : Nat} {ac : Nat → ClassId} (hm : MR_ h) {kf : Nat} (hk : kf < 42) (ht : f_ty 4 kf = 2) {t : Nat} (hd : m_kd kf = t) (hn : t ≠ 1) : cell_ b ac h M (m_at kf) = .inl (ac t, m_len kf, .inl (m_I M kf)) := by
  obtain ⟨h1, h2, h3⟩ := m_tab kf hk ht
  subst hd
  unfold cell_ cell_m
  rw [if_pos (hm.2 _ (by omega) h2), if_neg (by omega), h3, if_neg hn]
theorem cell_mJ {b : Nat} {ac : Nat → ClassId} (hm : MR_ h) {kf : Nat} (hk : kf < 42) (ht : f_ty 4 kf = 2) (hd : m_kd kf = 1) : cell_ b ac h M (m_at kf) = .inl (ac 1, m_len kf, .inr (.inl (m_J M kf))) := by
  obtain ⟨h1, h2, h3⟩ := m_tab kf hk ht
  unfold cell_ cell_m
  rw [if_pos (hm.2 _ (by omega) h2), if_neg (by omega), h3, if_pos hd]
theorem n_I_o {kf c i : Nat} {x : Int32} (e : c ≠ kf) : m_I (n_I M kf i x) c = m_I M c := va_up_ne _ _ e
theorem n_J_o {kf c i : Nat} {x : Int64} (e : c ≠ kf) : m_J (n_J M kf i x) c = m_J M c := va_up_ne _ _ e
theorem m_valI {b kf i j : Nat} {x : Int32} (ht : f_ty 4 kf = 2) : m_val b (n_I M kf i x) j = m_val b M j := by
  unfold m_val
  by_cases e : j = kf
  · subst e
    rw [if_neg (by omega), if_neg (by omega)]
  · rw [n_I_o e]
theorem cell_nI {b : Nat} {ac : Nat → ClassId} {kf i : Nat} {x : Int32} (hk : kf < 42) {c : Nat} (hc : c ≠ (if f_ty 4 kf = 2 then m_at kf else 5)) : cell_ b ac h (n_I M kf i x) c = cell_ b ac h M c := by
  have key : cell_m b ac (n_I M kf i x) c = cell_m b ac M c := by
    unfold cell_m
    by_cases e5 : c = 5
    · rw [if_pos e5, if_pos e5]
      rcases m_sc kf hk with ht | ht
      · rw [if_neg (by omega)] at hc
        exact absurd e5 hc
      · rw [show m_val b (n_I M kf i x) = m_val b M from funext fun j => m_valI ht]
    · have e : m_fd c ≠ kf := by
        rcases Nat.lt_or_ge c 41 with q | q
        · rcases m_sc kf hk with ht | ht
          · exact m_fds c q kf hk ht
          · rw [if_pos ht] at hc
            exact fun z => hc (m_fda c q kf hk z)
        · rw [m_fdb q]
          omega
      rw [if_neg e5, if_neg e5, n_I_o e]
      rfl
  unfold cell_
  rw [key]
theorem cell_nJ {b : Nat} {ac : Nat → ClassId} {kf i : Nat} {x : Int64} (hk : kf < 42) (ht : f_ty 4 kf = 2) {c : Nat} (hc : c ≠ m_at kf) : cell_ b ac h (n_J M kf i x) c = cell_ b ac h M c := by
  have key : cell_m b ac (n_J M kf i x) c = cell_m b ac M c := by
    unfold cell_m
    by_cases e5 : c = 5
    · rw [if_pos e5, if_pos e5]
      rfl
    · have e : m_fd c ≠ kf := by
        rcases Nat.lt_or_ge c 41 with q | q
        · exact fun z => hc (m_fda c q kf hk z)
        · rw [m_fdb q]
          omega
      rw [if_neg e5, if_neg e5, n_J_o e]
      rfl
  unfold cell_
  rw [key]
theorem a_mgetI (X : Cx_ v g cc nL own nm rt rm) (hm : MR_ h) (kf : Nat) {ix : Nat} (hk : kf < 42) (ht : f_ty 4 kf = 0) (hlk : Cond.fieldLink own ix (TX4 kf).1 (TX4 kf).2.1 (TX4 kf).2.2.1 ∈ lw_g) (hd : decode cc pc = .ok (.getfield ix, 3)) (kk : At_ v g nL h M k n (pc + 3) lv (v_I (m_I M kf 0) :: st)) : At_ v g nL h M k n pc lv (v_R (some 5) :: st) := fun H locs ls w hl => by
  show W_ v H locs k n (F0 _ pc ls (.ref (g.2.2 + 5) :: st.map (to_V g.2.2)))
  exact va_get (D := g.1) X.1 X.2.1 X.2.2.2.2.1 iX4 X.2.2.2.1 X.2.2.2.2.2.1 w.2.1 5 (ws_get (by have := hm.1; omega) (cell_mo hm)) rfl kf hk (X.2.2.2.2.1 _ hlk) (fun _ h9 => h9) (v := .int (m_I M kf 0)) (by simp [hk, m_val, ht]) hd (kk H locs ls w hl)
theorem a_mgetA (X : Cx_ v g cc nL own nm rt rm) (hm : MR_ h) (kf : Nat) {ix a : Nat} (hk : kf < 42) (ht : f_ty 4 kf = 2) (ha : m_at kf = a) (hlk : Cond.fieldLink own ix (TX4 kf).1 (TX4 kf).2.1 (TX4 kf).2.2.1 ∈ lw_g) (hd : decode cc pc = .ok (.getfield ix, 3)) (kk : At_ v g nL h M k n (pc + 3) lv (v_R (some a) :: st)) : At_ v g nL h M k n pc lv (v_R (some 5) :: st) := fun H locs ls w hl => by
  subst ha
  show W_ v H locs k n (F0 _ pc ls (.ref (g.2.2 + 5) :: st.map (to_V g.2.2)))
  exact va_get (D := g.1) X.1 X.2.1 X.2.2.2.2.1 iX4 X.2.2.2.1 X.2.2.2.2.2.1 w.2.1 5 (ws_get (by have := hm.1; omega) (cell_mo hm)) rfl kf hk (X.2.2.2.2.1 _ hlk) (fun _ h9 => h9) (v := .ref (g.2.2 + m_at kf)) (by simp [hk, m_val, ht]) hd (kk H locs ls w hl)
theorem a_maldI (X : Cx_ v g cc nL own nm rt rm) (hm : MR_ h) (kf : Nat) {a : Nat} {i : Int32} (hk : kf < 42) (ht : f_ty 4 kf = 2) (ha : m_at kf = a) (hkd : m_kd kf = 0) (hi : in_b i (m_len kf) = true) (hd : decode cc pc = .ok (.iaload, 1)) (kk : At_ v g nL h M k n (pc + 1) lv (v_I (m_I M kf i.toNatClampNeg) :: st)) : At_ v g nL h M k n pc lv (v_I i :: v_R (some a) :: st) := fun H locs ls w hl => by
  subst ha
  show W_ v H locs k n (F0 _ pc ls (.int i :: .ref (g.2.2 + m_at kf) :: st.map (to_V g.2.2)))
  have hz : m_at kf < h_z h := Nat.lt_of_lt_of_le (m_tab kf hk ht).2.1 hm.1
  exact va_iald X.1 X.2.1 X.2.2.2.2.2.1 w.2.1 (m_at kf) 0 (ws_get hz (cell_mI hm hk ht hkd (by decide))) rfl (in_b_in hi) hd (kk H locs ls w hl)
theorem a_maldZ (X : Cx_ v g cc nL own nm rt rm) (hm : MR_ h) (kf : Nat) {a : Nat} {i : Int32} (hk : kf < 42) (ht : f_ty 4 kf = 2) (ha : m_at kf = a) (hkd : m_kd kf = 2) (hi : in_b i (m_len kf) = true) (hd : decode cc pc = .ok (.baload, 1)) (kk : At_ v g nL h M k n (pc + 1) lv (v_I (m_I M kf i.toNatClampNeg) :: st)) : At_ v g nL h M k n pc lv (v_I i :: v_R (some a) :: st) := fun H locs ls w hl => by
  subst ha
  show W_ v H locs k n (F0 _ pc ls (.int i :: .ref (g.2.2 + m_at kf) :: st.map (to_V g.2.2)))
  have hz : m_at kf < h_z h := Nat.lt_of_lt_of_le (m_tab kf hk ht).2.1 hm.1
  exact va_zald X.1 X.2.1 X.2.2.2.2.2.1 w.2.1 (m_at kf) 2 (ws_get hz (cell_mI hm hk ht hkd (by decide))) rfl (in_b_in hi) hd (kk H locs ls w hl)
theorem a_maldJ (X : Cx_ v g cc nL own nm rt rm) (hm : MR_ h) (kf : Nat) {a : Nat} {i : Int32} (hk : kf < 42) (ht : f_ty 4 kf = 2) (ha : m_at kf = a) (hkd : m_kd kf = 1) (hi : in_b i (m_len kf) = true) (hd : decode cc pc = .ok (.laload, 1)) (kk : At_ v g nL h M k n (pc + 1) lv (v_J (m_J M kf i.toNatClampNeg) :: st)) : At_ v g nL h M k n pc lv (v_I i :: v_R (some a) :: st) := fun H locs ls w hl => by
  subst ha
  show W_ v H locs k n (F0 _ pc ls (.int i :: .ref (g.2.2 + m_at kf) :: st.map (to_V g.2.2)))
  have hz : m_at kf < h_z h := Nat.lt_of_lt_of_le (m_tab kf hk ht).2.1 hm.1
  exact va_lald X.1 X.2.1 X.2.2.2.2.2.1 w.2.1 (m_at kf) 1 (ws_get hz (cell_mJ hm hk ht hkd)) rfl (in_b_in hi) hd (kk H locs ls w hl)
theorem a_mastI (X : Cx_ v g cc nL own nm rt rm) (hm : MR_ h) (kf : Nat) {a : Nat} {i y : Int32} (hk : kf < 42) (ht : f_ty 4 kf = 2) (ha : m_at kf = a) (hkd : m_kd kf = 0) (hi : in_b i (m_len kf) = true) (hd : decode cc pc = .ok (.iastore, 1)) (kk : At_ v g nL h (n_I M kf i.toNatClampNeg y) k n (pc + 1) lv st) : At_ v g nL h M k n pc lv (v_I y :: v_I i :: v_R (some a) :: st) := fun H locs ls w hl => by
  subst ha
  show W_ v H locs k n (F0 _ pc ls (.int y :: .int i :: .ref (g.2.2 + m_at kf) :: st.map (to_V g.2.2)))
  have hz : m_at kf < h_z h := Nat.lt_of_lt_of_le (m_tab kf hk ht).2.1 hm.1
  have hc : H[g.2.2 + m_at kf]? = some (vp_cell (g.2.1 0) (m_len kf, .inl (m_I M kf))) := w.2.1 _ _ (ws_get hz (cell_mI hm hk ht hkd (by decide)))
  refine W.iast X.1 X.2.1 hc ((X.2.2.2.2.2.1.2 0 _ rfl).1 (m_len kf) (fun j => .int (m_I M kf j))) (fun q => by cases q) (by show ¬ (i < 0 ∨ (arrV _ _ _).slots.size ≤ _); rw [arrV_size]; exact in_b_in hi) rfl rfl hd fun H1 e z oq => ?_
  refine kk H1 _ ls (wd_set w hz ?_ z oq rfl rfl (fun c hc => cell_nI hk (by rw [if_pos ht]; exact hc))) hl
  rw [cell_mI hm hk ht hkd (by decide)]
  show H1[g.2.2 + m_at kf]? = some (vp_cell _ _)
  rw [e, vp_cell_i, vp_cell_i, arrV_store, vup_i]
  simp [n_I, m_I, va_up]
theorem a_mastZ (X : Cx_ v g cc nL own nm rt rm) (hm : MR_ h) (kf : Nat) {a : Nat} {i y : Int32} (hk : kf < 42) (ht : f_ty 4 kf = 2) (ha : m_at kf = a) (hkd : m_kd kf = 2) (hi : in_b i (m_len kf) = true) (hy : y = 0 ∨ y = 1) (hd : decode cc pc = .ok (.bastore, 1)) (kk : At_ v g nL h (n_I M kf i.toNatClampNeg y) k n (pc + 1) lv st) : At_ v g nL h M k n pc lv (v_I y :: v_I i :: v_R (some a) :: st) := fun H locs ls w hl => by
  subst ha
  show W_ v H locs k n (F0 _ pc ls (.int y :: .int i :: .ref (g.2.2 + m_at kf) :: st.map (to_V g.2.2)))
  have hz : m_at kf < h_z h := Nat.lt_of_lt_of_le (m_tab kf hk ht).2.1 hm.1
  have hc : H[g.2.2 + m_at kf]? = some (vp_cell (g.2.1 2) (m_len kf, .inl (m_I M kf))) := w.2.1 _ _ (ws_get hz (cell_mI hm hk ht hkd (by decide)))
  have hny : narrow .boolean (.int y) = .int y := by rcases hy with rfl | rfl <;> rfl
  refine W.zast X.1 X.2.1 hc ((X.2.2.2.2.2.1.2 2 _ rfl).1 (m_len kf) (fun j => .int (m_I M kf j))) (fun q => by cases q) (by show ¬ (i < 0 ∨ (arrV _ _ _).slots.size ≤ _); rw [arrV_size]; exact in_b_in hi) rfl rfl hd fun H1 e z oq => ?_
  refine kk H1 _ ls (wd_set w hz ?_ z oq rfl rfl (fun c hc => cell_nI hk (by rw [if_pos ht]; exact hc))) hl
  rw [cell_mI hm hk ht hkd (by decide)]
  show H1[g.2.2 + m_at kf]? = some (vp_cell _ _)
  rw [e, hny, vp_cell_i, vp_cell_i, arrV_store, vup_i]
  simp [n_I, m_I, va_up]
theorem a_mastJ (X : Cx_ v g cc nL own nm rt rm) (hm : MR_ h) (kf : Nat) {a : Nat} {i : Int32} {y : Int64} (hk : kf < 42) (ht : f_ty 4 kf = 2) (ha : m_at kf = a) (hkd : m_kd kf = 1) (hi : in_b i (m_len kf) = true) (hd : decode cc pc = .ok (.lastore, 1)) (kk : At_ v g nL h (n_J M kf i.toNatClampNeg y) k n (pc + 1) lv st) : At_ v g nL h M k n pc lv (v_J y :: v_I i :: v_R (some a) :: st) := fun H locs ls w hl => by
  subst ha
  show W_ v H locs k n (F0 _ pc ls (.long y :: .int i :: .ref (g.2.2 + m_at kf) :: st.map (to_V g.2.2)))
  have hz : m_at kf < h_z h := Nat.lt_of_lt_of_le (m_tab kf hk ht).2.1 hm.1
  have hc : H[g.2.2 + m_at kf]? = some (vp_cell (g.2.1 1) (m_len kf, .inr (.inl (m_J M kf)))) := w.2.1 _ _ (ws_get hz (cell_mJ hm hk ht hkd))
  refine W.last X.1 X.2.1 hc ((X.2.2.2.2.2.1.2 1 _ rfl).1 (m_len kf) (fun j => .long (m_J M kf j))) (fun q => by cases q) (by show ¬ (i < 0 ∨ (arrV _ _ _).slots.size ≤ _); rw [arrV_size]; exact in_b_in hi) rfl rfl hd fun H1 e z oq => ?_
  refine kk H1 _ ls (wd_set w hz ?_ z oq rfl rfl (fun c hc => cell_nJ hk ht hc)) hl
  rw [cell_mJ hm hk ht hkd]
  show H1[g.2.2 + m_at kf]? = some (vp_cell _ _)
  rw [e, vp_cell_l, vp_cell_l, arrV_store, vup_l]
  simp [n_J, m_J, va_up]
theorem a_mputI (X : Cx_ v g cc nL own nm rt rm) (hm : MR_ h) (kf : Nat) {ix : Nat} {y : Int32} (hk : kf < 42) (ht : f_ty 4 kf = 0) (hfin : (TX4 kf).2.2.2 = false) (hna : narrow (tyX4 kf) (.int y) = .int y) (hft : fits (tyX4 kf) (.int y) = true) (hlk : Cond.fieldLink own ix (TX4 kf).1 (TX4 kf).2.1 (TX4 kf).2.2.1 ∈ lw_g) (hd : decode cc pc = .ok (.putfield ix, 3)) (kk : At_ v g nL h (n_I M kf 0 y) k n (pc + 3) lv st) : At_ v g nL h M k n pc lv (v_I y :: v_R (some 5) :: st) := fun H locs ls w hl => by
  show W_ v H locs k n (F0 _ pc ls (.int y :: .ref (g.2.2 + 5) :: st.map (to_V g.2.2)))
  have hts := X.2.2.2.2.1
  have hK := X.2.2.2.2.2.1
  have hcl : cls_[4]? = some (RX4, TX4, 42) := rfl
  have hz : 5 < h_z h := by have := hm.1; omega
  have hap := va_apart (own := own) hts iX4 tyX4 tyX4_ok nmX4 hK hcl
  obtain ⟨r, h1, cell, q1, q2, q3, q4⟩ := w.2.1 5 _ (ws_get hz (cell_mo hm))
  have hr : r = (RX4, TX4, 42) := Option.some.inj (h1.symm.trans hcl)
  subst hr
  obtain ⟨hS, hfc, kC, hkC, hkind⟩ := hK.1 4 _ hcl
  obtain ⟨cf, kf', fi, f, hi, hsl⟩ := hS kf hk
  have hlay := hts _ (iX4 _ (u_in_lay hk))
  unfold u_lay at hlay
  rw [if_neg (by rw [hfin]; decide)] at hlay
  have hst := (u_facts hfc hkC (u_lays hts iX4 hk) hi).1
  have h6 := u_store hfc hkC hkind hlay hi (tyX4_ok kf hk) hna hft
  refine W.putK X.1 X.2.1 (f := f) ⟨X.2.2.2.1, hts _ hlk, ⟨_, _, _, hi⟩, hst⟩ (by rw [q2]; exact h6) q1 q3 (by rw [hsl]; exact k2_hasslot (q4 kf hk)) rfl rfl hd fun H1 e1 e2 e3 => ?_
  rw [hsl] at e1 ⊢
  refine kk H1 _ ls (wd_set w hz ?_ e2 e3 rfl rfl (fun c hc => cell_nI hk (by rw [if_neg (by omega)]; exact hc))) hl
  rw [cell_mo hm]
  have e9 : ((List.range 42).map (m_val g.2.2 M)).set kf (.int y) = (List.range 42).map (m_val g.2.2 (n_I M kf 0 y)) := by
    refine map_set hk ?_ fun j _ hj => ?_
    · simp [m_val, ht, n_I, m_I, va_up]
    · simp [m_val, n_I, m_I, va_up, hj]
  rw [← e9]
  exact ⟨_, hcl, t_OB.to (V := updV (vp_V ((List.range 42).map (m_val g.2.2 M))) kf (.int y)) ⟨_, e1, q2, q3, t_set q4 hap hk _⟩ (fun j _ => vp_updV_set (by simp [hk]) _ j)⟩
end RW4
end
