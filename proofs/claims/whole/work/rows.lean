section
-- ===== PART A: goes FIRST, ahead of the names: the tables' words, and 'selects' of the private methods out of them =====
/-- a private method of a class that the tables say can be made, by its rows of tables_1 -/
def lw_okq (q : MethodName × Nat) : Prop := (q.1.cls ≠ "java/lang/invoke/MethodHandle" ∧ q.1.cls ≠ "java/lang/invoke/VarHandle") ∧ Cond.instantiable q.1.cls q.2 ∈ tables_1 ∧ Cond.privateMethod q.1 ∈ tables_1 ∧ Cond.instanceMethod q.1 ∈ tables_1
theorem lw_p0 : lw_okq (⟨"PictureReel$StreamReader", "dropControl", "()V"⟩, 11) := ⟨⟨by decide +kernel, by decide +kernel⟩, List.mem_of_getElem? (i := 24) (by decide +kernel), List.mem_of_getElem? (i := 419) (by decide +kernel), List.mem_of_getElem? (i := 420) (by decide +kernel)⟩
theorem lw_p1 : lw_okq (⟨"PictureReel$StreamReader", "parseStart", "()V"⟩, 11) := ⟨⟨by decide +kernel, by decide +kernel⟩, List.mem_of_getElem? (i := 24) (by decide +kernel), List.mem_of_getElem? (i := 424) (by decide +kernel), List.mem_of_getElem? (i := 425) (by decide +kernel)⟩
theorem lw_p2 : lw_okq (⟨"PictureReel$StreamReader", "nextByte", "()I"⟩, 11) := ⟨⟨by decide +kernel, by decide +kernel⟩, List.mem_of_getElem? (i := 24) (by decide +kernel), List.mem_of_getElem? (i := 428) (by decide +kernel), List.mem_of_getElem? (i := 429) (by decide +kernel)⟩
theorem lw_p3 : lw_okq (⟨"PictureReel$StreamReader", "refuse", "(II)V"⟩, 11) := ⟨⟨by decide +kernel, by decide +kernel⟩, List.mem_of_getElem? (i := 24) (by decide +kernel), List.mem_of_getElem? (i := 432) (by decide +kernel), List.mem_of_getElem? (i := 433) (by decide +kernel)⟩
theorem lw_p4 : lw_okq (⟨"PictureReel$StreamReader", "parseScreen", "()V"⟩, 11) := ⟨⟨by decide +kernel, by decide +kernel⟩, List.mem_of_getElem? (i := 24) (by decide +kernel), List.mem_of_getElem? (i := 442) (by decide +kernel), List.mem_of_getElem? (i := 443) (by decide +kernel)⟩
theorem lw_p5 : lw_okq (⟨"PictureReel$StreamReader", "nextNumber", "()I"⟩, 11) := ⟨⟨by decide +kernel, by decide +kernel⟩, List.mem_of_getElem? (i := 24) (by decide +kernel), List.mem_of_getElem? (i := 446) (by decide +kernel), List.mem_of_getElem? (i := 447) (by decide +kernel)⟩
theorem lw_p6 : lw_okq (⟨"PictureReel$StreamReader", "parseTable", "(LPictureReel$Table;)V"⟩, 11) := ⟨⟨by decide +kernel, by decide +kernel⟩, List.mem_of_getElem? (i := 24) (by decide +kernel), List.mem_of_getElem? (i := 457) (by decide +kernel), List.mem_of_getElem? (i := 458) (by decide +kernel)⟩
theorem lw_p7 : lw_okq (⟨"PictureReel$StreamReader", "parseBlock", "()V"⟩, 11) := ⟨⟨by decide +kernel, by decide +kernel⟩, List.mem_of_getElem? (i := 24) (by decide +kernel), List.mem_of_getElem? (i := 461) (by decide +kernel), List.mem_of_getElem? (i := 462) (by decide +kernel)⟩
theorem lw_p8 : lw_okq (⟨"PictureReel$StreamReader", "parseImage", "(I)V"⟩, 11) := ⟨⟨by decide +kernel, by decide +kernel⟩, List.mem_of_getElem? (i := 24) (by decide +kernel), List.mem_of_getElem? (i := 465) (by decide +kernel), List.mem_of_getElem? (i := 466) (by decide +kernel)⟩
theorem lw_p9 : lw_okq (⟨"PictureReel$StreamReader", "parseFrame", "(I)LPictureReel$Frame;"⟩, 11) := ⟨⟨by decide +kernel, by decide +kernel⟩, List.mem_of_getElem? (i := 24) (by decide +kernel), List.mem_of_getElem? (i := 469) (by decide +kernel), List.mem_of_getElem? (i := 470) (by decide +kernel)⟩
theorem lw_p10 : lw_okq (⟨"PictureReel$StreamReader", "gatherRows", "()V"⟩, 11) := ⟨⟨by decide +kernel, by decide +kernel⟩, List.mem_of_getElem? (i := 24) (by decide +kernel), List.mem_of_getElem? (i := 506) (by decide +kernel), List.mem_of_getElem? (i := 507) (by decide +kernel)⟩
theorem lw_p11 : lw_okq (⟨"PictureReel$CodeReader", "start", "(I)V"⟩, 12) := ⟨⟨by decide +kernel, by decide +kernel⟩, List.mem_of_getElem? (i := 52) (by decide +kernel), List.mem_of_getElem? (i := 524) (by decide +kernel), List.mem_of_getElem? (i := 525) (by decide +kernel)⟩
theorem lw_p12 : lw_okq (⟨"PictureReel$CodeReader", "forget", "()V"⟩, 12) := ⟨⟨by decide +kernel, by decide +kernel⟩, List.mem_of_getElem? (i := 52) (by decide +kernel), List.mem_of_getElem? (i := 528) (by decide +kernel), List.mem_of_getElem? (i := 529) (by decide +kernel)⟩
theorem lw_p13 : lw_okq (⟨"PictureReel$CodeReader", "nextCode", "()I"⟩, 12) := ⟨⟨by decide +kernel, by decide +kernel⟩, List.mem_of_getElem? (i := 52) (by decide +kernel), List.mem_of_getElem? (i := 532) (by decide +kernel), List.mem_of_getElem? (i := 533) (by decide +kernel)⟩
theorem lw_p14 : lw_okq (⟨"PictureReel$CodeReader", "isKnown", "(I)Z"⟩, 12) := ⟨⟨by decide +kernel, by decide +kernel⟩, List.mem_of_getElem? (i := 52) (by decide +kernel), List.mem_of_getElem? (i := 540) (by decide +kernel), List.mem_of_getElem? (i := 541) (by decide +kernel)⟩
theorem lw_p15 : lw_okq (⟨"PictureReel$CodeReader", "tell", "(I)V"⟩, 12) := ⟨⟨by decide +kernel, by decide +kernel⟩, List.mem_of_getElem? (i := 52) (by decide +kernel), List.mem_of_getElem? (i := 544) (by decide +kernel), List.mem_of_getElem? (i := 545) (by decide +kernel)⟩
def lw_privs_1 : List (MethodName × Nat) := [(⟨"PictureReel$StreamReader", "dropControl", "()V"⟩, 11), (⟨"PictureReel$StreamReader", "parseStart", "()V"⟩, 11), (⟨"PictureReel$StreamReader", "nextByte", "()I"⟩, 11), (⟨"PictureReel$StreamReader", "refuse", "(II)V"⟩, 11), (⟨"PictureReel$StreamReader", "parseScreen", "()V"⟩, 11), (⟨"PictureReel$StreamReader", "nextNumber", "()I"⟩, 11), (⟨"PictureReel$StreamReader", "parseTable", "(LPictureReel$Table;)V"⟩, 11), (⟨"PictureReel$StreamReader", "parseBlock", "()V"⟩, 11), (⟨"PictureReel$StreamReader", "parseImage", "(I)V"⟩, 11), (⟨"PictureReel$StreamReader", "parseFrame", "(I)LPictureReel$Frame;"⟩, 11), (⟨"PictureReel$StreamReader", "gatherRows", "()V"⟩, 11), (⟨"PictureReel$CodeReader", "start", "(I)V"⟩, 12), (⟨"PictureReel$CodeReader", "forget", "()V"⟩, 12), (⟨"PictureReel$CodeReader", "nextCode", "()I"⟩, 12), (⟨"PictureReel$CodeReader", "isKnown", "(I)Z"⟩, 12), (⟨"PictureReel$CodeReader", "tell", "(I)V"⟩, 12)]
theorem lw_r1 : ∀ q ∈ lw_privs_1, lw_okq q := List.forall_mem_cons.mpr ⟨lw_p0, List.forall_mem_cons.mpr ⟨lw_p1, List.forall_mem_cons.mpr ⟨lw_p2, List.forall_mem_cons.mpr ⟨lw_p3, List.forall_mem_cons.mpr ⟨lw_p4, List.forall_mem_cons.mpr ⟨lw_p5, List.forall_mem_cons.mpr ⟨lw_p6, List.forall_mem_cons.mpr ⟨lw_p7, List.forall_mem_cons.mpr ⟨lw_p8, List.forall_mem_cons.mpr ⟨lw_p9, List.forall_mem_cons.mpr ⟨lw_p10, List.forall_mem_cons.mpr ⟨lw_p11, List.forall_mem_cons.mpr ⟨lw_p12, List.forall_mem_cons.mpr ⟨lw_p13, List.forall_mem_cons.mpr ⟨lw_p14, List.forall_mem_cons.mpr ⟨lw_p15, fun _ h => absurd h List.not_mem_nil⟩⟩⟩⟩⟩⟩⟩⟩⟩⟩⟩⟩⟩⟩⟩⟩
theorem lw_p16 : lw_okq (⟨"PictureReel$CodeReader", "putOut", "(III)Z"⟩, 12) := ⟨⟨by decide +kernel, by decide +kernel⟩, List.mem_of_getElem? (i := 52) (by decide +kernel), List.mem_of_getElem? (i := 548) (by decide +kernel), List.mem_of_getElem? (i := 549) (by decide +kernel)⟩
theorem lw_p17 : lw_okq (⟨"PictureReel$Frame", "lineOf", "(I)I"⟩, 8) := ⟨⟨by decide +kernel, by decide +kernel⟩, List.mem_of_getElem? (i := 164) (by decide +kernel), List.mem_of_getElem? (i := 556) (by decide +kernel), List.mem_of_getElem? (i := 557) (by decide +kernel)⟩
theorem lw_p18 : lw_okq (⟨"PictureReel$StreamReader", "parseExtension", "()V"⟩, 11) := ⟨⟨by decide +kernel, by decide +kernel⟩, List.mem_of_getElem? (i := 24) (by decide +kernel), List.mem_of_getElem? (i := 565) (by decide +kernel), List.mem_of_getElem? (i := 566) (by decide +kernel)⟩
theorem lw_p19 : lw_okq (⟨"PictureReel$StreamReader", "expect", "(I)V"⟩, 11) := ⟨⟨by decide +kernel, by decide +kernel⟩, List.mem_of_getElem? (i := 24) (by decide +kernel), List.mem_of_getElem? (i := 569) (by decide +kernel), List.mem_of_getElem? (i := 570) (by decide +kernel)⟩
theorem lw_p20 : lw_okq (⟨"PictureReel$StreamReader", "skip", "(I)V"⟩, 11) := ⟨⟨by decide +kernel, by decide +kernel⟩, List.mem_of_getElem? (i := 24) (by decide +kernel), List.mem_of_getElem? (i := 573) (by decide +kernel), List.mem_of_getElem? (i := 574) (by decide +kernel)⟩
theorem lw_p21 : lw_okq (⟨"PictureReel$StreamReader", "parseControl", "()V"⟩, 11) := ⟨⟨by decide +kernel, by decide +kernel⟩, List.mem_of_getElem? (i := 24) (by decide +kernel), List.mem_of_getElem? (i := 577) (by decide +kernel), List.mem_of_getElem? (i := 578) (by decide +kernel)⟩
theorem lw_p22 : lw_okq (⟨"PictureReel$StreamReader", "parseEnd", "()V"⟩, 11) := ⟨⟨by decide +kernel, by decide +kernel⟩, List.mem_of_getElem? (i := 24) (by decide +kernel), List.mem_of_getElem? (i := 582) (by decide +kernel), List.mem_of_getElem? (i := 583) (by decide +kernel)⟩
theorem lw_p23 : lw_okq (⟨"PictureReel", "tableAt", "(I)LPictureReel$Table;"⟩, 6) := ⟨⟨by decide +kernel, by decide +kernel⟩, List.mem_of_getElem? (i := 16) (by decide +kernel), List.mem_of_getElem? (i := 617) (by decide +kernel), List.mem_of_getElem? (i := 618) (by decide +kernel)⟩
theorem lw_p24 : lw_okq (⟨"PictureReel$StreamWriter", "putScreen", "(LPictureReel$Picture;)V"⟩, 2) := ⟨⟨by decide +kernel, by decide +kernel⟩, List.mem_of_getElem? (i := 304) (by decide +kernel), List.mem_of_getElem? (i := 660) (by decide +kernel), List.mem_of_getElem? (i := 661) (by decide +kernel)⟩
theorem lw_p25 : lw_okq (⟨"PictureReel$StreamWriter", "putTable", "(LPictureReel$Table;)V"⟩, 2) := ⟨⟨by decide +kernel, by decide +kernel⟩, List.mem_of_getElem? (i := 304) (by decide +kernel), List.mem_of_getElem? (i := 682) (by decide +kernel), List.mem_of_getElem? (i := 683) (by decide +kernel)⟩
theorem lw_p26 : lw_okq (⟨"PictureReel$StreamWriter", "putControl", "(LPictureReel$Ways;)V"⟩, 2) := ⟨⟨by decide +kernel, by decide +kernel⟩, List.mem_of_getElem? (i := 304) (by decide +kernel), List.mem_of_getElem? (i := 686) (by decide +kernel), List.mem_of_getElem? (i := 687) (by decide +kernel)⟩
theorem lw_p27 : lw_okq (⟨"PictureReel$StreamWriter", "putImage", "(LPictureReel$Frame;I)V"⟩, 2) := ⟨⟨by decide +kernel, by decide +kernel⟩, List.mem_of_getElem? (i := 304) (by decide +kernel), List.mem_of_getElem? (i := 693) (by decide +kernel), List.mem_of_getElem? (i := 694) (by decide +kernel)⟩
theorem lw_p28 : lw_okq (⟨"PictureReel$CodeWriter", "putClear", "(I)V"⟩, 12) := ⟨⟨by decide +kernel, by decide +kernel⟩, List.mem_of_getElem? (i := 310) (by decide +kernel), List.mem_of_getElem? (i := 707) (by decide +kernel), List.mem_of_getElem? (i := 708) (by decide +kernel)⟩
theorem lw_p29 : lw_okq (⟨"PictureReel$CodeWriter", "putCode", "(II)V"⟩, 12) := ⟨⟨by decide +kernel, by decide +kernel⟩, List.mem_of_getElem? (i := 310) (by decide +kernel), List.mem_of_getElem? (i := 711) (by decide +kernel), List.mem_of_getElem? (i := 712) (by decide +kernel)⟩
theorem lw_p30 : lw_okq (⟨"PictureReel$CodeWriter", "putLongest", "(I)V"⟩, 12) := ⟨⟨by decide +kernel, by decide +kernel⟩, List.mem_of_getElem? (i := 310) (by decide +kernel), List.mem_of_getElem? (i := 716) (by decide +kernel), List.mem_of_getElem? (i := 717) (by decide +kernel)⟩
theorem lw_p31 : lw_okq (⟨"PictureReel$CodeWriter", "tell", "(I)V"⟩, 12) := ⟨⟨by decide +kernel, by decide +kernel⟩, List.mem_of_getElem? (i := 310) (by decide +kernel), List.mem_of_getElem? (i := 720) (by decide +kernel), List.mem_of_getElem? (i := 721) (by decide +kernel)⟩
def lw_privs_2 : List (MethodName × Nat) := [(⟨"PictureReel$CodeReader", "putOut", "(III)Z"⟩, 12), (⟨"PictureReel$Frame", "lineOf", "(I)I"⟩, 8), (⟨"PictureReel$StreamReader", "parseExtension", "()V"⟩, 11), (⟨"PictureReel$StreamReader", "expect", "(I)V"⟩, 11), (⟨"PictureReel$StreamReader", "skip", "(I)V"⟩, 11), (⟨"PictureReel$StreamReader", "parseControl", "()V"⟩, 11), (⟨"PictureReel$StreamReader", "parseEnd", "()V"⟩, 11), (⟨"PictureReel", "tableAt", "(I)LPictureReel$Table;"⟩, 6), (⟨"PictureReel$StreamWriter", "putScreen", "(LPictureReel$Picture;)V"⟩, 2), (⟨"PictureReel$StreamWriter", "putTable", "(LPictureReel$Table;)V"⟩, 2), (⟨"PictureReel$StreamWriter", "putControl", "(LPictureReel$Ways;)V"⟩, 2), (⟨"PictureReel$StreamWriter", "putImage", "(LPictureReel$Frame;I)V"⟩, 2), (⟨"PictureReel$CodeWriter", "putClear", "(I)V"⟩, 12), (⟨"PictureReel$CodeWriter", "putCode", "(II)V"⟩, 12), (⟨"PictureReel$CodeWriter", "putLongest", "(I)V"⟩, 12), (⟨"PictureReel$CodeWriter", "tell", "(I)V"⟩, 12)]
theorem lw_r2 : ∀ q ∈ lw_privs_2, lw_okq q := List.forall_mem_cons.mpr ⟨lw_p16, List.forall_mem_cons.mpr ⟨lw_p17, List.forall_mem_cons.mpr ⟨lw_p18, List.forall_mem_cons.mpr ⟨lw_p19, List.forall_mem_cons.mpr ⟨lw_p20, List.forall_mem_cons.mpr ⟨lw_p21, List.forall_mem_cons.mpr ⟨lw_p22, List.forall_mem_cons.mpr ⟨lw_p23, List.forall_mem_cons.mpr ⟨lw_p24, List.forall_mem_cons.mpr ⟨lw_p25, List.forall_mem_cons.mpr ⟨lw_p26, List.forall_mem_cons.mpr ⟨lw_p27, List.forall_mem_cons.mpr ⟨lw_p28, List.forall_mem_cons.mpr ⟨lw_p29, List.forall_mem_cons.mpr ⟨lw_p30, List.forall_mem_cons.mpr ⟨lw_p31, fun _ h => absurd h List.not_mem_nil⟩⟩⟩⟩⟩⟩⟩⟩⟩⟩⟩⟩⟩⟩⟩⟩
theorem lw_p32 : lw_okq (⟨"PictureReel$CodeWriter", "longest", "(I)I"⟩, 12) := ⟨⟨by decide +kernel, by decide +kernel⟩, List.mem_of_getElem? (i := 310) (by decide +kernel), List.mem_of_getElem? (i := 724) (by decide +kernel), List.mem_of_getElem? (i := 725) (by decide +kernel)⟩
theorem lw_p33 : lw_okq (⟨"PictureReel$CodeWriter", "childOf", "(II)I"⟩, 12) := ⟨⟨by decide +kernel, by decide +kernel⟩, List.mem_of_getElem? (i := 310) (by decide +kernel), List.mem_of_getElem? (i := 728) (by decide +kernel), List.mem_of_getElem? (i := 729) (by decide +kernel)⟩
theorem lw_p34 : lw_okq (⟨"PictureReel$StreamWriter", "putRows", "()V"⟩, 2) := ⟨⟨by decide +kernel, by decide +kernel⟩, List.mem_of_getElem? (i := 304) (by decide +kernel), List.mem_of_getElem? (i := 732) (by decide +kernel), List.mem_of_getElem? (i := 733) (by decide +kernel)⟩
theorem lw_p35 : lw_okq (⟨"PictureReel$Picture", "leftBehind", "(LPictureReel$Frame;IIII)I"⟩, 7) := ⟨⟨by decide +kernel, by decide +kernel⟩, List.mem_of_getElem? (i := 136) (by decide +kernel), List.mem_of_getElem? (i := 772) (by decide +kernel), List.mem_of_getElem? (i := 773) (by decide +kernel)⟩
theorem lw_p36 : lw_okq (⟨"PictureReel$Picture", "shown", "(LPictureReel$Frame;III)I"⟩, 7) := ⟨⟨by decide +kernel, by decide +kernel⟩, List.mem_of_getElem? (i := 136) (by decide +kernel), List.mem_of_getElem? (i := 780) (by decide +kernel), List.mem_of_getElem? (i := 781) (by decide +kernel)⟩
theorem lw_p37 : lw_okq (⟨"PictureReelModel", "readHead", "()V"⟩, 38) := ⟨⟨by decide +kernel, by decide +kernel⟩, List.mem_of_getElem? (i := 789) (by decide +kernel), List.mem_of_getElem? (i := 928) (by decide +kernel), List.mem_of_getElem? (i := 929) (by decide +kernel)⟩
theorem lw_p38 : lw_okq (⟨"PictureReelModel", "must", "(II)V"⟩, 38) := ⟨⟨by decide +kernel, by decide +kernel⟩, List.mem_of_getElem? (i := 789) (by decide +kernel), List.mem_of_getElem? (i := 932) (by decide +kernel), List.mem_of_getElem? (i := 933) (by decide +kernel)⟩
theorem lw_p39 : lw_okq (⟨"PictureReelModel", "one", "()I"⟩, 38) := ⟨⟨by decide +kernel, by decide +kernel⟩, List.mem_of_getElem? (i := 789) (by decide +kernel), List.mem_of_getElem? (i := 936) (by decide +kernel), List.mem_of_getElem? (i := 937) (by decide +kernel)⟩
theorem lw_p40 : lw_okq (⟨"PictureReelModel", "good", "()Z"⟩, 38) := ⟨⟨by decide +kernel, by decide +kernel⟩, List.mem_of_getElem? (i := 789) (by decide +kernel), List.mem_of_getElem? (i := 940) (by decide +kernel), List.mem_of_getElem? (i := 941) (by decide +kernel)⟩
theorem lw_p41 : lw_okq (⟨"PictureReelModel", "wrong", "(II)V"⟩, 38) := ⟨⟨by decide +kernel, by decide +kernel⟩, List.mem_of_getElem? (i := 789) (by decide +kernel), List.mem_of_getElem? (i := 944) (by decide +kernel), List.mem_of_getElem? (i := 945) (by decide +kernel)⟩
theorem lw_p42 : lw_okq (⟨"PictureReelModel", "two", "()I"⟩, 38) := ⟨⟨by decide +kernel, by decide +kernel⟩, List.mem_of_getElem? (i := 789) (by decide +kernel), List.mem_of_getElem? (i := 948) (by decide +kernel), List.mem_of_getElem? (i := 949) (by decide +kernel)⟩
theorem lw_p43 : lw_okq (⟨"PictureReelModel", "readTable", "([III)V"⟩, 38) := ⟨⟨by decide +kernel, by decide +kernel⟩, List.mem_of_getElem? (i := 789) (by decide +kernel), List.mem_of_getElem? (i := 952) (by decide +kernel), List.mem_of_getElem? (i := 953) (by decide +kernel)⟩
theorem lw_p44 : lw_okq (⟨"PictureReelModel", "readBlocks", "()V"⟩, 38) := ⟨⟨by decide +kernel, by decide +kernel⟩, List.mem_of_getElem? (i := 789) (by decide +kernel), List.mem_of_getElem? (i := 956) (by decide +kernel), List.mem_of_getElem? (i := 957) (by decide +kernel)⟩
theorem lw_p45 : lw_okq (⟨"PictureReelModel", "forget", "()V"⟩, 38) := ⟨⟨by decide +kernel, by decide +kernel⟩, List.mem_of_getElem? (i := 789) (by decide +kernel), List.mem_of_getElem? (i := 960) (by decide +kernel), List.mem_of_getElem? (i := 961) (by decide +kernel)⟩
theorem lw_p46 : lw_okq (⟨"PictureReelModel", "readImage", "(I)V"⟩, 38) := ⟨⟨by decide +kernel, by decide +kernel⟩, List.mem_of_getElem? (i := 789) (by decide +kernel), List.mem_of_getElem? (i := 964) (by decide +kernel), List.mem_of_getElem? (i := 965) (by decide +kernel)⟩
theorem lw_p47 : lw_okq (⟨"PictureReelModel", "setField", "(IIII)V"⟩, 38) := ⟨⟨by decide +kernel, by decide +kernel⟩, List.mem_of_getElem? (i := 789) (by decide +kernel), List.mem_of_getElem? (i := 971) (by decide +kernel), List.mem_of_getElem? (i := 972) (by decide +kernel)⟩
def lw_privs_3 : List (MethodName × Nat) := [(⟨"PictureReel$CodeWriter", "longest", "(I)I"⟩, 12), (⟨"PictureReel$CodeWriter", "childOf", "(II)I"⟩, 12), (⟨"PictureReel$StreamWriter", "putRows", "()V"⟩, 2), (⟨"PictureReel$Picture", "leftBehind", "(LPictureReel$Frame;IIII)I"⟩, 7), (⟨"PictureReel$Picture", "shown", "(LPictureReel$Frame;III)I"⟩, 7), (⟨"PictureReelModel", "readHead", "()V"⟩, 38), (⟨"PictureReelModel", "must", "(II)V"⟩, 38), (⟨"PictureReelModel", "one", "()I"⟩, 38), (⟨"PictureReelModel", "good", "()Z"⟩, 38), (⟨"PictureReelModel", "wrong", "(II)V"⟩, 38), (⟨"PictureReelModel", "two", "()I"⟩, 38), (⟨"PictureReelModel", "readTable", "([III)V"⟩, 38), (⟨"PictureReelModel", "readBlocks", "()V"⟩, 38), (⟨"PictureReelModel", "forget", "()V"⟩, 38), (⟨"PictureReelModel", "readImage", "(I)V"⟩, 38), (⟨"PictureReelModel", "setField", "(IIII)V"⟩, 38)]
theorem lw_r3 : ∀ q ∈ lw_privs_3, lw_okq q := List.forall_mem_cons.mpr ⟨lw_p32, List.forall_mem_cons.mpr ⟨lw_p33, List.forall_mem_cons.mpr ⟨lw_p34, List.forall_mem_cons.mpr ⟨lw_p35, List.forall_mem_cons.mpr ⟨lw_p36, List.forall_mem_cons.mpr ⟨lw_p37, List.forall_mem_cons.mpr ⟨lw_p38, List.forall_mem_cons.mpr ⟨lw_p39, List.forall_mem_cons.mpr ⟨lw_p40, List.forall_mem_cons.mpr ⟨lw_p41, List.forall_mem_cons.mpr ⟨lw_p42, List.forall_mem_cons.mpr ⟨lw_p43, List.forall_mem_cons.mpr ⟨lw_p44, List.forall_mem_cons.mpr ⟨lw_p45, List.forall_mem_cons.mpr ⟨lw_p46, List.forall_mem_cons.mpr ⟨lw_p47, fun _ h => absurd h List.not_mem_nil⟩⟩⟩⟩⟩⟩⟩⟩⟩⟩⟩⟩⟩⟩⟩⟩
theorem lw_p48 : lw_okq (⟨"PictureReelModel", "gather", "()V"⟩, 38) := ⟨⟨by decide +kernel, by decide +kernel⟩, List.mem_of_getElem? (i := 789) (by decide +kernel), List.mem_of_getElem? (i := 975) (by decide +kernel), List.mem_of_getElem? (i := 976) (by decide +kernel)⟩
theorem lw_p49 : lw_okq (⟨"PictureReelModel", "codes", "(II)Z"⟩, 38) := ⟨⟨by decide +kernel, by decide +kernel⟩, List.mem_of_getElem? (i := 789) (by decide +kernel), List.mem_of_getElem? (i := 979) (by decide +kernel), List.mem_of_getElem? (i := 980) (by decide +kernel)⟩
theorem lw_p50 : lw_okq (⟨"PictureReelModel", "places", "(II)I"⟩, 38) := ⟨⟨by decide +kernel, by decide +kernel⟩, List.mem_of_getElem? (i := 789) (by decide +kernel), List.mem_of_getElem? (i := 983) (by decide +kernel), List.mem_of_getElem? (i := 984) (by decide +kernel)⟩
theorem lw_p51 : lw_okq (⟨"PictureReelModel", "field", "(III)I"⟩, 38) := ⟨⟨by decide +kernel, by decide +kernel⟩, List.mem_of_getElem? (i := 789) (by decide +kernel), List.mem_of_getElem? (i := 987) (by decide +kernel), List.mem_of_getElem? (i := 988) (by decide +kernel)⟩
theorem lw_p52 : lw_okq (⟨"PictureReelModel", "colours", "(II)I"⟩, 38) := ⟨⟨by decide +kernel, by decide +kernel⟩, List.mem_of_getElem? (i := 789) (by decide +kernel), List.mem_of_getElem? (i := 991) (by decide +kernel), List.mem_of_getElem? (i := 992) (by decide +kernel)⟩
theorem lw_p53 : lw_okq (⟨"PictureReelModel", "alone", "(I)V"⟩, 38) := ⟨⟨by decide +kernel, by decide +kernel⟩, List.mem_of_getElem? (i := 789) (by decide +kernel), List.mem_of_getElem? (i := 995) (by decide +kernel), List.mem_of_getElem? (i := 996) (by decide +kernel)⟩
theorem lw_p54 : lw_okq (⟨"PictureReelModel", "restart", "(I)V"⟩, 38) := ⟨⟨by decide +kernel, by decide +kernel⟩, List.mem_of_getElem? (i := 789) (by decide +kernel), List.mem_of_getElem? (i := 999) (by decide +kernel), List.mem_of_getElem? (i := 1000) (by decide +kernel)⟩
theorem lw_p55 : lw_okq (⟨"PictureReelModel", "code", "()I"⟩, 38) := ⟨⟨by decide +kernel, by decide +kernel⟩, List.mem_of_getElem? (i := 789) (by decide +kernel), List.mem_of_getElem? (i := 1003) (by decide +kernel), List.mem_of_getElem? (i := 1004) (by decide +kernel)⟩
theorem lw_p56 : lw_okq (⟨"PictureReelModel", "put", "(IZIIII)Z"⟩, 38) := ⟨⟨by decide +kernel, by decide +kernel⟩, List.mem_of_getElem? (i := 789) (by decide +kernel), List.mem_of_getElem? (i := 1007) (by decide +kernel), List.mem_of_getElem? (i := 1008) (by decide +kernel)⟩
theorem lw_p57 : lw_okq (⟨"PictureReelModel", "placeOf", "(III)I"⟩, 38) := ⟨⟨by decide +kernel, by decide +kernel⟩, List.mem_of_getElem? (i := 789) (by decide +kernel), List.mem_of_getElem? (i := 1011) (by decide +kernel), List.mem_of_getElem? (i := 1012) (by decide +kernel)⟩
theorem lw_p58 : lw_okq (⟨"PictureReelModel", "setIndex", "(IIII)V"⟩, 38) := ⟨⟨by decide +kernel, by decide +kernel⟩, List.mem_of_getElem? (i := 789) (by decide +kernel), List.mem_of_getElem? (i := 1018) (by decide +kernel), List.mem_of_getElem? (i := 1019) (by decide +kernel)⟩
theorem lw_p59 : lw_okq (⟨"PictureReelModel", "tell", "(I)V"⟩, 38) := ⟨⟨by decide +kernel, by decide +kernel⟩, List.mem_of_getElem? (i := 789) (by decide +kernel), List.mem_of_getElem? (i := 1023) (by decide +kernel), List.mem_of_getElem? (i := 1024) (by decide +kernel)⟩
theorem lw_p60 : lw_okq (⟨"PictureReelModel", "readMore", "()V"⟩, 38) := ⟨⟨by decide +kernel, by decide +kernel⟩, List.mem_of_getElem? (i := 789) (by decide +kernel), List.mem_of_getElem? (i := 1027) (by decide +kernel), List.mem_of_getElem? (i := 1028) (by decide +kernel)⟩
theorem lw_p61 : lw_okq (⟨"PictureReelModel", "length", "(I)V"⟩, 38) := ⟨⟨by decide +kernel, by decide +kernel⟩, List.mem_of_getElem? (i := 789) (by decide +kernel), List.mem_of_getElem? (i := 1031) (by decide +kernel), List.mem_of_getElem? (i := 1032) (by decide +kernel)⟩
theorem lw_p62 : lw_okq (⟨"PictureReelModel", "skip", "(I)V"⟩, 38) := ⟨⟨by decide +kernel, by decide +kernel⟩, List.mem_of_getElem? (i := 789) (by decide +kernel), List.mem_of_getElem? (i := 1035) (by decide +kernel), List.mem_of_getElem? (i := 1036) (by decide +kernel)⟩
theorem lw_p63 : lw_okq (⟨"PictureReelModel", "rows", "()V"⟩, 38) := ⟨⟨by decide +kernel, by decide +kernel⟩, List.mem_of_getElem? (i := 789) (by decide +kernel), List.mem_of_getElem? (i := 1039) (by decide +kernel), List.mem_of_getElem? (i := 1040) (by decide +kernel)⟩
def lw_privs_4 : List (MethodName × Nat) := [(⟨"PictureReelModel", "gather", "()V"⟩, 38), (⟨"PictureReelModel", "codes", "(II)Z"⟩, 38), (⟨"PictureReelModel", "places", "(II)I"⟩, 38), (⟨"PictureReelModel", "field", "(III)I"⟩, 38), (⟨"PictureReelModel", "colours", "(II)I"⟩, 38), (⟨"PictureReelModel", "alone", "(I)V"⟩, 38), (⟨"PictureReelModel", "restart", "(I)V"⟩, 38), (⟨"PictureReelModel", "code", "()I"⟩, 38), (⟨"PictureReelModel", "put", "(IZIIII)Z"⟩, 38), (⟨"PictureReelModel", "placeOf", "(III)I"⟩, 38), (⟨"PictureReelModel", "setIndex", "(IIII)V"⟩, 38), (⟨"PictureReelModel", "tell", "(I)V"⟩, 38), (⟨"PictureReelModel", "readMore", "()V"⟩, 38), (⟨"PictureReelModel", "length", "(I)V"⟩, 38), (⟨"PictureReelModel", "skip", "(I)V"⟩, 38), (⟨"PictureReelModel", "rows", "()V"⟩, 38)]
theorem lw_r4 : ∀ q ∈ lw_privs_4, lw_okq q := List.forall_mem_cons.mpr ⟨lw_p48, List.forall_mem_cons.mpr ⟨lw_p49, List.forall_mem_cons.mpr ⟨lw_p50, List.forall_mem_cons.mpr ⟨lw_p51, List.forall_mem_cons.mpr ⟨lw_p52, List.forall_mem_cons.mpr ⟨lw_p53, List.forall_mem_cons.mpr ⟨lw_p54, List.forall_mem_cons.mpr ⟨lw_p55, List.forall_mem_cons.mpr ⟨lw_p56, List.forall_mem_cons.mpr ⟨lw_p57, List.forall_mem_cons.mpr ⟨lw_p58, List.forall_mem_cons.mpr ⟨lw_p59, List.forall_mem_cons.mpr ⟨lw_p60, List.forall_mem_cons.mpr ⟨lw_p61, List.forall_mem_cons.mpr ⟨lw_p62, List.forall_mem_cons.mpr ⟨lw_p63, fun _ h => absurd h List.not_mem_nil⟩⟩⟩⟩⟩⟩⟩⟩⟩⟩⟩⟩⟩⟩⟩⟩
theorem lw_p64 : lw_okq (⟨"PictureReelModel", "frames", "()I"⟩, 38) := ⟨⟨by decide +kernel, by decide +kernel⟩, List.mem_of_getElem? (i := 789) (by decide +kernel), List.mem_of_getElem? (i := 1043) (by decide +kernel), List.mem_of_getElem? (i := 1044) (by decide +kernel)⟩
theorem lw_p65 : lw_okq (⟨"PictureReelModel", "isColour", "(II)Z"⟩, 38) := ⟨⟨by decide +kernel, by decide +kernel⟩, List.mem_of_getElem? (i := 789) (by decide +kernel), List.mem_of_getElem? (i := 1065) (by decide +kernel), List.mem_of_getElem? (i := 1066) (by decide +kernel)⟩
theorem lw_p66 : lw_okq (⟨"PictureReelModel", "isFrame", "(I)Z"⟩, 38) := ⟨⟨by decide +kernel, by decide +kernel⟩, List.mem_of_getElem? (i := 789) (by decide +kernel), List.mem_of_getElem? (i := 1069) (by decide +kernel), List.mem_of_getElem? (i := 1070) (by decide +kernel)⟩
theorem lw_p67 : lw_okq (⟨"PictureReelModel", "say", "(I)V"⟩, 38) := ⟨⟨by decide +kernel, by decide +kernel⟩, List.mem_of_getElem? (i := 789) (by decide +kernel), List.mem_of_getElem? (i := 1091) (by decide +kernel), List.mem_of_getElem? (i := 1092) (by decide +kernel)⟩
theorem lw_p68 : lw_okq (⟨"PictureReelModel", "sayTwo", "(I)V"⟩, 38) := ⟨⟨by decide +kernel, by decide +kernel⟩, List.mem_of_getElem? (i := 789) (by decide +kernel), List.mem_of_getElem? (i := 1095) (by decide +kernel), List.mem_of_getElem? (i := 1096) (by decide +kernel)⟩
theorem lw_p69 : lw_okq (⟨"PictureReelModel", "sayTable", "([III)V"⟩, 38) := ⟨⟨by decide +kernel, by decide +kernel⟩, List.mem_of_getElem? (i := 789) (by decide +kernel), List.mem_of_getElem? (i := 1102) (by decide +kernel), List.mem_of_getElem? (i := 1103) (by decide +kernel)⟩
theorem lw_p70 : lw_okq (⟨"PictureReelModel", "sayFrame", "(I)V"⟩, 38) := ⟨⟨by decide +kernel, by decide +kernel⟩, List.mem_of_getElem? (i := 789) (by decide +kernel), List.mem_of_getElem? (i := 1106) (by decide +kernel), List.mem_of_getElem? (i := 1107) (by decide +kernel)⟩
theorem lw_p71 : lw_okq (⟨"PictureReelModel", "sayCodes", "(II)V"⟩, 38) := ⟨⟨by decide +kernel, by decide +kernel⟩, List.mem_of_getElem? (i := 789) (by decide +kernel), List.mem_of_getElem? (i := 1110) (by decide +kernel), List.mem_of_getElem? (i := 1111) (by decide +kernel)⟩
theorem lw_p72 : lw_okq (⟨"PictureReelModel", "sayBits", "(II)V"⟩, 38) := ⟨⟨by decide +kernel, by decide +kernel⟩, List.mem_of_getElem? (i := 789) (by decide +kernel), List.mem_of_getElem? (i := 1114) (by decide +kernel), List.mem_of_getElem? (i := 1115) (by decide +kernel)⟩
theorem lw_p73 : lw_okq (⟨"PictureReelModel", "sayRow", "()V"⟩, 38) := ⟨⟨by decide +kernel, by decide +kernel⟩, List.mem_of_getElem? (i := 789) (by decide +kernel), List.mem_of_getElem? (i := 1118) (by decide +kernel), List.mem_of_getElem? (i := 1119) (by decide +kernel)⟩
theorem lw_p74 : lw_okq (⟨"PictureReelModel", "sayLongest", "(III)I"⟩, 38) := ⟨⟨by decide +kernel, by decide +kernel⟩, List.mem_of_getElem? (i := 789) (by decide +kernel), List.mem_of_getElem? (i := 1122) (by decide +kernel), List.mem_of_getElem? (i := 1123) (by decide +kernel)⟩
theorem lw_p75 : lw_okq (⟨"PictureReelModel", "indexOf", "(II)I"⟩, 38) := ⟨⟨by decide +kernel, by decide +kernel⟩, List.mem_of_getElem? (i := 789) (by decide +kernel), List.mem_of_getElem? (i := 1126) (by decide +kernel), List.mem_of_getElem? (i := 1127) (by decide +kernel)⟩
theorem lw_p76 : lw_okq (⟨"PictureReelModel", "indexAt", "(III)I"⟩, 38) := ⟨⟨by decide +kernel, by decide +kernel⟩, List.mem_of_getElem? (i := 789) (by decide +kernel), List.mem_of_getElem? (i := 1130) (by decide +kernel), List.mem_of_getElem? (i := 1131) (by decide +kernel)⟩
theorem lw_p77 : lw_okq (⟨"PictureReelModel", "stands", "(IIII)Z"⟩, 38) := ⟨⟨by decide +kernel, by decide +kernel⟩, List.mem_of_getElem? (i := 789) (by decide +kernel), List.mem_of_getElem? (i := 1134) (by decide +kernel), List.mem_of_getElem? (i := 1135) (by decide +kernel)⟩
theorem lw_p78 : lw_okq (⟨"PictureReelModel", "covers", "(III)I"⟩, 38) := ⟨⟨by decide +kernel, by decide +kernel⟩, List.mem_of_getElem? (i := 789) (by decide +kernel), List.mem_of_getElem? (i := 1162) (by decide +kernel), List.mem_of_getElem? (i := 1163) (by decide +kernel)⟩
def lw_privs_5 : List (MethodName × Nat) := [(⟨"PictureReelModel", "frames", "()I"⟩, 38), (⟨"PictureReelModel", "isColour", "(II)Z"⟩, 38), (⟨"PictureReelModel", "isFrame", "(I)Z"⟩, 38), (⟨"PictureReelModel", "say", "(I)V"⟩, 38), (⟨"PictureReelModel", "sayTwo", "(I)V"⟩, 38), (⟨"PictureReelModel", "sayTable", "([III)V"⟩, 38), (⟨"PictureReelModel", "sayFrame", "(I)V"⟩, 38), (⟨"PictureReelModel", "sayCodes", "(II)V"⟩, 38), (⟨"PictureReelModel", "sayBits", "(II)V"⟩, 38), (⟨"PictureReelModel", "sayRow", "()V"⟩, 38), (⟨"PictureReelModel", "sayLongest", "(III)I"⟩, 38), (⟨"PictureReelModel", "indexOf", "(II)I"⟩, 38), (⟨"PictureReelModel", "indexAt", "(III)I"⟩, 38), (⟨"PictureReelModel", "stands", "(IIII)Z"⟩, 38), (⟨"PictureReelModel", "covers", "(III)I"⟩, 38)]
theorem lw_r5 : ∀ q ∈ lw_privs_5, lw_okq q := List.forall_mem_cons.mpr ⟨lw_p64, List.forall_mem_cons.mpr ⟨lw_p65, List.forall_mem_cons.mpr ⟨lw_p66, List.forall_mem_cons.mpr ⟨lw_p67, List.forall_mem_cons.mpr ⟨lw_p68, List.forall_mem_cons.mpr ⟨lw_p69, List.forall_mem_cons.mpr ⟨lw_p70, List.forall_mem_cons.mpr ⟨lw_p71, List.forall_mem_cons.mpr ⟨lw_p72, List.forall_mem_cons.mpr ⟨lw_p73, List.forall_mem_cons.mpr ⟨lw_p74, List.forall_mem_cons.mpr ⟨lw_p75, List.forall_mem_cons.mpr ⟨lw_p76, List.forall_mem_cons.mpr ⟨lw_p77, List.forall_mem_cons.mpr ⟨lw_p78, fun _ h => absurd h List.not_mem_nil⟩⟩⟩⟩⟩⟩⟩⟩⟩⟩⟩⟩⟩⟩⟩
def lw_privs : List (MethodName × Nat) := lw_privs_1 ++ (lw_privs_2 ++ (lw_privs_3 ++ (lw_privs_4 ++ (lw_privs_5))))
def lw_tbl : List Cond := k2_sels lw_privs ++ tables_1
theorem lw_privs_ok : ∀ q ∈ lw_privs, lw_okq q := by
  show ∀ q ∈ lw_privs_1 ++ (lw_privs_2 ++ (lw_privs_3 ++ (lw_privs_4 ++ (lw_privs_5)))), lw_okq q
  exact List.forall_mem_append.mpr ⟨lw_r1, List.forall_mem_append.mpr ⟨lw_r2, List.forall_mem_append.mpr ⟨lw_r3, List.forall_mem_append.mpr ⟨lw_r4, lw_r5⟩⟩⟩⟩
end
section
def RX0 : String := "PictureReel$ByteRow"
def TX0 : u_T := fun k => match k with
  | 0 => ("PictureReel$ByteRow", "bytes", "[I", true)
  | 1 => ("PictureReel$ByteRow", "size", "I", false)
  | _ => ("PictureReel$ByteRow", "over", "Z", false)
def tyX0 : Nat → FieldType := fun k => match k with
  | 0 => .array .int
  | 1 => .int
  | _ => .boolean
theorem nmX0 : ∀ a, a < 3 → ∀ b, b < 3 → a ≠ b → (TX0 a).2.1 ≠ (TX0 b).2.1 := by decide +kernel
theorem tyX0_ok : ∀ k, k < 3 → parseFieldDescriptor (TX0 k).2.2.1 = some (tyX0 k) := by decide +kernel
abbrev cX0_init : ByteArray := prog_2_method_1_code
def yX0_init : MethodName := ⟨RX0, "<init>", "()V"⟩
abbrev cX0_clear : ByteArray := prog_2_method_2_code
def yX0_clear : MethodName := ⟨RX0, "clear", "()V"⟩
abbrev cX0_add : ByteArray := prog_2_method_3_code
def yX0_add : MethodName := ⟨RX0, "add", "(I)V"⟩
abbrev cX0_addTwo : ByteArray := prog_2_method_4_code
def yX0_addTwo : MethodName := ⟨RX0, "addTwo", "(I)V"⟩
abbrev cX0_addFour : ByteArray := prog_2_method_5_code
def yX0_addFour : MethodName := ⟨RX0, "addFour", "(I)V"⟩
abbrev cX0_at : ByteArray := prog_2_method_6_code
def yX0_at : MethodName := ⟨RX0, "at", "(I)I"⟩
abbrev cX0_copyFrom : ByteArray := prog_2_method_7_code
def yX0_copyFrom : MethodName := ⟨RX0, "copyFrom", "(LPictureReel$ByteRow;)V"⟩
def RX1 : String := "PictureReel$CodeReader"
def TX1 : u_T := fun k => match k with
  | 0 => ("PictureReel$CodeReader", "bytes", "LPictureReel$ByteRow;", true)
  | 1 => ("PictureReel$CodeReader", "order", "[I", true)
  | 2 => ("PictureReel$CodeReader", "ahead", "[I", true)
  | 3 => ("PictureReel$CodeReader", "first", "[I", true)
  | 4 => ("PictureReel$CodeReader", "last", "[I", true)
  | 5 => ("PictureReel$CodeReader", "lengths", "[I", true)
  | 6 => ("PictureReel$CodeReader", "least", "I", false)
  | 7 => ("PictureReel$CodeReader", "bitAt", "I", false)
  | 8 => ("PictureReel$CodeReader", "bits", "I", false)
  | 9 => ("PictureReel$CodeReader", "next", "I", false)
  | 10 => ("PictureReel$CodeReader", "former", "I", false)
  | _ => ("PictureReel$CodeReader", "done", "I", false)
def tyX1 : Nat → FieldType := fun k => match k with
  | 0 => .object "PictureReel$ByteRow"
  | 1 => .array .int
  | 2 => .array .int
  | 3 => .array .int
  | 4 => .array .int
  | 5 => .array .int
  | 6 => .int
  | 7 => .int
  | 8 => .int
  | 9 => .int
  | 10 => .int
  | _ => .int
theorem nmX1 : ∀ a, a < 12 → ∀ b, b < 12 → a ≠ b → (TX1 a).2.1 ≠ (TX1 b).2.1 := by decide +kernel
theorem tyX1_ok : ∀ k, k < 12 → parseFieldDescriptor (TX1 k).2.2.1 = some (tyX1 k) := by decide +kernel
abbrev cX1_init : ByteArray := prog_3_method_1_code
def yX1_init : MethodName := ⟨RX1, "<init>", "()V"⟩
abbrev cX1_decode : ByteArray := prog_3_method_2_code
def yX1_decode : MethodName := ⟨RX1, "decode", "(III)Z"⟩
abbrev cX1_start : ByteArray := prog_3_method_3_code
def yX1_start : MethodName := ⟨RX1, "start", "(I)V"⟩
abbrev cX1_forget : ByteArray := prog_3_method_4_code
def yX1_forget : MethodName := ⟨RX1, "forget", "()V"⟩
abbrev cX1_nextCode : ByteArray := prog_3_method_5_code
def yX1_nextCode : MethodName := ⟨RX1, "nextCode", "()I"⟩
abbrev cX1_isKnown : ByteArray := prog_3_method_6_code
def yX1_isKnown : MethodName := ⟨RX1, "isKnown", "(I)Z"⟩
abbrev cX1_tell : ByteArray := prog_3_method_7_code
def yX1_tell : MethodName := ⟨RX1, "tell", "(I)V"⟩
abbrev cX1_putOut : ByteArray := prog_3_method_8_code
def yX1_putOut : MethodName := ⟨RX1, "putOut", "(III)Z"⟩
def RX2 : String := "PictureReel$CodeWriter"
def TX2 : u_T := fun k => match k with
  | 0 => ("PictureReel$CodeWriter", "bytes", "LPictureReel$ByteRow;", true)
  | 1 => ("PictureReel$CodeWriter", "order", "[I", true)
  | 2 => ("PictureReel$CodeWriter", "child", "[I", true)
  | 3 => ("PictureReel$CodeWriter", "sibling", "[I", true)
  | 4 => ("PictureReel$CodeWriter", "last", "[I", true)
  | 5 => ("PictureReel$CodeWriter", "least", "I", false)
  | 6 => ("PictureReel$CodeWriter", "bits", "I", false)
  | 7 => ("PictureReel$CodeWriter", "next", "I", false)
  | 8 => ("PictureReel$CodeWriter", "former", "I", false)
  | 9 => ("PictureReel$CodeWriter", "at", "I", false)
  | 10 => ("PictureReel$CodeWriter", "held", "I", false)
  | _ => ("PictureReel$CodeWriter", "heldBits", "I", false)
def tyX2 : Nat → FieldType := fun k => match k with
  | 0 => .object "PictureReel$ByteRow"
  | 1 => .array .int
  | 2 => .array .int
  | 3 => .array .int
  | 4 => .array .int
  | 5 => .int
  | 6 => .int
  | 7 => .int
  | 8 => .int
  | 9 => .int
  | 10 => .int
  | _ => .int
theorem nmX2 : ∀ a, a < 12 → ∀ b, b < 12 → a ≠ b → (TX2 a).2.1 ≠ (TX2 b).2.1 := by decide +kernel
theorem tyX2_ok : ∀ k, k < 12 → parseFieldDescriptor (TX2 k).2.2.1 = some (tyX2 k) := by decide +kernel
abbrev cX2_init : ByteArray := prog_4_method_1_code
def yX2_init : MethodName := ⟨RX2, "<init>", "()V"⟩
abbrev cX2_encode : ByteArray := prog_4_method_2_code
def yX2_encode : MethodName := ⟨RX2, "encode", "(II)V"⟩
abbrev cX2_putClear : ByteArray := prog_4_method_3_code
def yX2_putClear : MethodName := ⟨RX2, "putClear", "(I)V"⟩
abbrev cX2_putLongest : ByteArray := prog_4_method_4_code
def yX2_putLongest : MethodName := ⟨RX2, "putLongest", "(I)V"⟩
abbrev cX2_tell : ByteArray := prog_4_method_5_code
def yX2_tell : MethodName := ⟨RX2, "tell", "(I)V"⟩
abbrev cX2_longest : ByteArray := prog_4_method_6_code
def yX2_longest : MethodName := ⟨RX2, "longest", "(I)I"⟩
abbrev cX2_childOf : ByteArray := prog_4_method_7_code
def yX2_childOf : MethodName := ⟨RX2, "childOf", "(II)I"⟩
abbrev cX2_putCode : ByteArray := prog_4_method_8_code
def yX2_putCode : MethodName := ⟨RX2, "putCode", "(II)V"⟩
def RX3 : String := "PictureReel$Frame"
def TX3 : u_T := fun k => match k with
  | 0 => ("PictureReel$Frame", "left", "I", false)
  | 1 => ("PictureReel$Frame", "top", "I", false)
  | 2 => ("PictureReel$Frame", "width", "I", false)
  | 3 => ("PictureReel$Frame", "height", "I", false)
  | 4 => ("PictureReel$Frame", "interlaced", "Z", false)
  | 5 => ("PictureReel$Frame", "local", "LPictureReel$Table;", true)
  | 6 => ("PictureReel$Frame", "ways", "LPictureReel$Ways;", true)
  | _ => ("PictureReel$Frame", "places", "[I", true)
def tyX3 : Nat → FieldType := fun k => match k with
  | 0 => .int
  | 1 => .int
  | 2 => .int
  | 3 => .int
  | 4 => .boolean
  | 5 => .object "PictureReel$Table"
  | 6 => .object "PictureReel$Ways"
  | _ => .array .int
theorem nmX3 : ∀ a, a < 8 → ∀ b, b < 8 → a ≠ b → (TX3 a).2.1 ≠ (TX3 b).2.1 := by decide +kernel
theorem tyX3_ok : ∀ k, k < 8 → parseFieldDescriptor (TX3 k).2.2.1 = some (tyX3 k) := by decide +kernel
abbrev cX3_init : ByteArray := prog_5_method_1_code
def yX3_init : MethodName := ⟨RX3, "<init>", "()V"⟩
abbrev cX3_reset : ByteArray := prog_5_method_2_code
def yX3_reset : MethodName := ⟨RX3, "reset", "(IIII)V"⟩
abbrev cX3_size : ByteArray := prog_5_method_3_code
def yX3_size : MethodName := ⟨RX3, "size", "()I"⟩
abbrev cX3_fill : ByteArray := prog_5_method_4_code
def yX3_fill : MethodName := ⟨RX3, "fill", "(III)V"⟩
abbrev cX3_covers : ByteArray := prog_5_method_5_code
def yX3_covers : MethodName := ⟨RX3, "covers", "(II)Z"⟩
abbrev cX3_indexAt : ByteArray := prog_5_method_6_code
def yX3_indexAt : MethodName := ⟨RX3, "indexAt", "(II)I"⟩
abbrev cX3_fromStreamOrder : ByteArray := prog_5_method_7_code
def yX3_fromStreamOrder : MethodName := ⟨RX3, "fromStreamOrder", "([I)V"⟩
abbrev cX3_toStreamOrder : ByteArray := prog_5_method_8_code
def yX3_toStreamOrder : MethodName := ⟨RX3, "toStreamOrder", "([I)V"⟩
abbrev cX3_lineOf : ByteArray := prog_5_method_9_code
def yX3_lineOf : MethodName := ⟨RX3, "lineOf", "(I)I"⟩
def RX4 : String := "PictureReel$Picture"
def TX4 : u_T := fun k => match k with
  | 0 => ("PictureReel$Picture", "width", "I", false)
  | 1 => ("PictureReel$Picture", "height", "I", false)
  | 2 => ("PictureReel$Picture", "background", "I", false)
  | 3 => ("PictureReel$Picture", "aspect", "I", false)
  | 4 => ("PictureReel$Picture", "frameCount", "I", false)
  | 5 => ("PictureReel$Picture", "global", "LPictureReel$Table;", true)
  | _ => ("PictureReel$Picture", "frames", "[LPictureReel$Frame;", true)
def tyX4 : Nat → FieldType := fun k => match k with
  | 0 => .int
  | 1 => .int
  | 2 => .int
  | 3 => .int
  | 4 => .int
  | 5 => .object "PictureReel$Table"
  | _ => .array (.object "PictureReel$Frame")
theorem nmX4 : ∀ a, a < 7 → ∀ b, b < 7 → a ≠ b → (TX4 a).2.1 ≠ (TX4 b).2.1 := by decide +kernel
theorem tyX4_ok : ∀ k, k < 7 → parseFieldDescriptor (TX4 k).2.2.1 = some (tyX4 k) := by decide +kernel
abbrev cX4_init : ByteArray := prog_6_method_1_code
def yX4_init : MethodName := ⟨RX4, "<init>", "()V"⟩
abbrev cX4_reset : ByteArray := prog_6_method_2_code
def yX4_reset : MethodName := ⟨RX4, "reset", "(IIIII)V"⟩
abbrev cX4_hasRoom : ByteArray := prog_6_method_3_code
def yX4_hasRoom : MethodName := ⟨RX4, "hasRoom", "()Z"⟩
abbrev cX4_holds : ByteArray := prog_6_method_4_code
def yX4_holds : MethodName := ⟨RX4, "holds", "(IIII)Z"⟩
abbrev cX4_givesTable : ByteArray := prog_6_method_5_code
def yX4_givesTable : MethodName := ⟨RX4, "givesTable", "(I)Z"⟩
abbrev cX4_frameAt : ByteArray := prog_6_method_6_code
def yX4_frameAt : MethodName := ⟨RX4, "frameAt", "(I)LPictureReel$Frame;"⟩
abbrev cX4_tableOf : ByteArray := prog_6_method_7_code
def yX4_tableOf : MethodName := ⟨RX4, "tableOf", "(LPictureReel$Frame;)LPictureReel$Table;"⟩
abbrev cX4_addFrame : ByteArray := prog_6_method_8_code
def yX4_addFrame : MethodName := ⟨RX4, "addFrame", "(IIIIIZ)LPictureReel$Frame;"⟩
abbrev cX4_colourAt : ByteArray := prog_6_method_9_code
def yX4_colourAt : MethodName := ⟨RX4, "colourAt", "(III)I"⟩
abbrev cX4_shown : ByteArray := prog_6_method_10_code
def yX4_shown : MethodName := ⟨RX4, "shown", "(LPictureReel$Frame;III)I"⟩
abbrev cX4_leftBehind : ByteArray := prog_6_method_11_code
def yX4_leftBehind : MethodName := ⟨RX4, "leftBehind", "(LPictureReel$Frame;IIII)I"⟩
def RX5 : String := "PictureReel$StreamReader"
def TX5 : u_T := fun k => match k with
  | 0 => ("PictureReel$StreamReader", "source", "LPictureReel$ByteRow;", true)
  | 1 => ("PictureReel$StreamReader", "codes", "LPictureReel$CodeReader;", true)
  | 2 => ("PictureReel$StreamReader", "pending", "LPictureReel$Ways;", true)
  | 3 => ("PictureReel$StreamReader", "draft", "LPictureReel$Picture;", false)
  | 4 => ("PictureReel$StreamReader", "length", "I", false)
  | 5 => ("PictureReel$StreamReader", "at", "I", false)
  | 6 => ("PictureReel$StreamReader", "older", "Z", false)
  | 7 => ("PictureReel$StreamReader", "controlled", "Z", false)
  | 8 => ("PictureReel$StreamReader", "ended", "Z", false)
  | 9 => ("PictureReel$StreamReader", "kind", "I", false)
  | _ => ("PictureReel$StreamReader", "place", "I", false)
def tyX5 : Nat → FieldType := fun k => match k with
  | 0 => .object "PictureReel$ByteRow"
  | 1 => .object "PictureReel$CodeReader"
  | 2 => .object "PictureReel$Ways"
  | 3 => .object "PictureReel$Picture"
  | 4 => .int
  | 5 => .int
  | 6 => .boolean
  | 7 => .boolean
  | 8 => .boolean
  | 9 => .int
  | _ => .int
theorem nmX5 : ∀ a, a < 11 → ∀ b, b < 11 → a ≠ b → (TX5 a).2.1 ≠ (TX5 b).2.1 := by decide +kernel
theorem tyX5_ok : ∀ k, k < 11 → parseFieldDescriptor (TX5 k).2.2.1 = some (tyX5 k) := by decide +kernel
abbrev cX5_init : ByteArray := prog_7_method_1_code
def yX5_init : MethodName := ⟨RX5, "<init>", "()V"⟩
abbrev cX5_exchange : ByteArray := prog_7_method_2_code
def yX5_exchange : MethodName := ⟨RX5, "exchange", "(LPictureReel$Picture;)LPictureReel$Picture;"⟩
abbrev cX5_parse : ByteArray := prog_7_method_3_code
def yX5_parse : MethodName := ⟨RX5, "parse", "(I)V"⟩
abbrev cX5_refuse : ByteArray := prog_7_method_4_code
def yX5_refuse : MethodName := ⟨RX5, "refuse", "(II)V"⟩
abbrev cX5_nextByte : ByteArray := prog_7_method_5_code
def yX5_nextByte : MethodName := ⟨RX5, "nextByte", "()I"⟩
abbrev cX5_nextNumber : ByteArray := prog_7_method_6_code
def yX5_nextNumber : MethodName := ⟨RX5, "nextNumber", "()I"⟩
abbrev cX5_skip : ByteArray := prog_7_method_7_code
def yX5_skip : MethodName := ⟨RX5, "skip", "(I)V"⟩
abbrev cX5_expect : ByteArray := prog_7_method_8_code
def yX5_expect : MethodName := ⟨RX5, "expect", "(I)V"⟩
abbrev cX5_parseStart : ByteArray := prog_7_method_9_code
def yX5_parseStart : MethodName := ⟨RX5, "parseStart", "()V"⟩
abbrev cX5_parseScreen : ByteArray := prog_7_method_10_code
def yX5_parseScreen : MethodName := ⟨RX5, "parseScreen", "()V"⟩
abbrev cX5_parseTable : ByteArray := prog_7_method_11_code
def yX5_parseTable : MethodName := ⟨RX5, "parseTable", "(LPictureReel$Table;)V"⟩
abbrev cX5_parseBlock : ByteArray := prog_7_method_12_code
def yX5_parseBlock : MethodName := ⟨RX5, "parseBlock", "()V"⟩
abbrev cX5_parseEnd : ByteArray := prog_7_method_13_code
def yX5_parseEnd : MethodName := ⟨RX5, "parseEnd", "()V"⟩
abbrev cX5_parseExtension : ByteArray := prog_7_method_14_code
def yX5_parseExtension : MethodName := ⟨RX5, "parseExtension", "()V"⟩
abbrev cX5_parseControl : ByteArray := prog_7_method_15_code
def yX5_parseControl : MethodName := ⟨RX5, "parseControl", "()V"⟩
abbrev cX5_dropControl : ByteArray := prog_7_method_16_code
def yX5_dropControl : MethodName := ⟨RX5, "dropControl", "()V"⟩
abbrev cX5_parseImage : ByteArray := prog_7_method_17_code
def yX5_parseImage : MethodName := ⟨RX5, "parseImage", "(I)V"⟩
abbrev cX5_parseFrame : ByteArray := prog_7_method_18_code
def yX5_parseFrame : MethodName := ⟨RX5, "parseFrame", "(I)LPictureReel$Frame;"⟩
abbrev cX5_gatherRows : ByteArray := prog_7_method_19_code
def yX5_gatherRows : MethodName := ⟨RX5, "gatherRows", "()V"⟩
def RX6 : String := "PictureReel$StreamWriter"
def TX6 : u_T := fun k => match k with
  | 0 => ("PictureReel$StreamWriter", "codes", "LPictureReel$CodeWriter;", true)
  | _ => ("PictureReel$StreamWriter", "draft", "LPictureReel$ByteRow;", false)
def tyX6 : Nat → FieldType := fun k => match k with
  | 0 => .object "PictureReel$CodeWriter"
  | _ => .object "PictureReel$ByteRow"
theorem nmX6 : ∀ a, a < 2 → ∀ b, b < 2 → a ≠ b → (TX6 a).2.1 ≠ (TX6 b).2.1 := by decide +kernel
theorem tyX6_ok : ∀ k, k < 2 → parseFieldDescriptor (TX6 k).2.2.1 = some (tyX6 k) := by decide +kernel
abbrev cX6_init : ByteArray := prog_8_method_1_code
def yX6_init : MethodName := ⟨RX6, "<init>", "()V"⟩
abbrev cX6_exchange : ByteArray := prog_8_method_2_code
def yX6_exchange : MethodName := ⟨RX6, "exchange", "(LPictureReel$ByteRow;)LPictureReel$ByteRow;"⟩
abbrev cX6_compose : ByteArray := prog_8_method_3_code
def yX6_compose : MethodName := ⟨RX6, "compose", "(LPictureReel$Picture;)Z"⟩
abbrev cX6_putScreen : ByteArray := prog_8_method_4_code
def yX6_putScreen : MethodName := ⟨RX6, "putScreen", "(LPictureReel$Picture;)V"⟩
abbrev cX6_putTable : ByteArray := prog_8_method_5_code
def yX6_putTable : MethodName := ⟨RX6, "putTable", "(LPictureReel$Table;)V"⟩
abbrev cX6_putControl : ByteArray := prog_8_method_6_code
def yX6_putControl : MethodName := ⟨RX6, "putControl", "(LPictureReel$Ways;)V"⟩
abbrev cX6_putImage : ByteArray := prog_8_method_7_code
def yX6_putImage : MethodName := ⟨RX6, "putImage", "(LPictureReel$Frame;I)V"⟩
abbrev cX6_putRows : ByteArray := prog_8_method_8_code
def yX6_putRows : MethodName := ⟨RX6, "putRows", "()V"⟩
def RX7 : String := "PictureReel$Table"
def TX7 : u_T := fun k => match k with
  | 0 => ("PictureReel$Table", "colours", "[I", true)
  | _ => ("PictureReel$Table", "size", "I", false)
def tyX7 : Nat → FieldType := fun k => match k with
  | 0 => .array .int
  | _ => .int
theorem nmX7 : ∀ a, a < 2 → ∀ b, b < 2 → a ≠ b → (TX7 a).2.1 ≠ (TX7 b).2.1 := by decide +kernel
theorem tyX7_ok : ∀ k, k < 2 → parseFieldDescriptor (TX7 k).2.2.1 = some (tyX7 k) := by decide +kernel
abbrev cX7_init : ByteArray := prog_9_method_1_code
def yX7_init : MethodName := ⟨RX7, "<init>", "()V"⟩
abbrev cX7_reset : ByteArray := prog_9_method_2_code
def yX7_reset : MethodName := ⟨RX7, "reset", "(I)V"⟩
abbrev cX7_has : ByteArray := prog_9_method_3_code
def yX7_has : MethodName := ⟨RX7, "has", "(I)Z"⟩
abbrev cX7_power : ByteArray := prog_9_method_4_code
def yX7_power : MethodName := ⟨RX7, "power", "()I"⟩
abbrev cX7_mark : ByteArray := prog_9_method_5_code
def yX7_mark : MethodName := ⟨RX7, "mark", "()I"⟩
abbrev cX7_sizeByMark : ByteArray := prog_9_method_6_code
def yX7_sizeByMark : MethodName := ⟨RX7, "sizeByMark", "(I)I"⟩
def RX8 : String := "PictureReel$Ways"
def TX8 : u_T := fun k => match k with
  | 0 => ("PictureReel$Ways", "disposal", "I", false)
  | 1 => ("PictureReel$Ways", "transparent", "I", false)
  | 2 => ("PictureReel$Ways", "delay", "I", false)
  | _ => ("PictureReel$Ways", "input", "Z", false)
def tyX8 : Nat → FieldType := fun k => match k with
  | 0 => .int
  | 1 => .int
  | 2 => .int
  | _ => .boolean
theorem nmX8 : ∀ a, a < 4 → ∀ b, b < 4 → a ≠ b → (TX8 a).2.1 ≠ (TX8 b).2.1 := by decide +kernel
theorem tyX8_ok : ∀ k, k < 4 → parseFieldDescriptor (TX8 k).2.2.1 = some (tyX8 k) := by decide +kernel
abbrev cX8_init : ByteArray := prog_10_method_1_code
def yX8_init : MethodName := ⟨RX8, "<init>", "()V"⟩
abbrev cX8_reset : ByteArray := prog_10_method_2_code
def yX8_reset : MethodName := ⟨RX8, "reset", "()V"⟩
abbrev cX8_become : ByteArray := prog_10_method_3_code
def yX8_become : MethodName := ⟨RX8, "become", "(IIIZ)V"⟩
abbrev cX8_copyFrom : ByteArray := prog_10_method_4_code
def yX8_copyFrom : MethodName := ⟨RX8, "copyFrom", "(LPictureReel$Ways;)V"⟩
def RX9 : String := "PictureReel"
def TX9 : u_T := fun k => match k with
  | 0 => ("PictureReel", "tape", "LPictureReel$ByteRow;", true)
  | 1 => ("PictureReel", "reader", "LPictureReel$StreamReader;", true)
  | 2 => ("PictureReel", "writer", "LPictureReel$StreamWriter;", true)
  | 3 => ("PictureReel", "picture", "LPictureReel$Picture;", false)
  | 4 => ("PictureReel", "made", "LPictureReel$ByteRow;", false)
  | _ => ("PictureReel", "hasRead", "Z", false)
def tyX9 : Nat → FieldType := fun k => match k with
  | 0 => .object "PictureReel$ByteRow"
  | 1 => .object "PictureReel$StreamReader"
  | 2 => .object "PictureReel$StreamWriter"
  | 3 => .object "PictureReel$Picture"
  | 4 => .object "PictureReel$ByteRow"
  | _ => .boolean
theorem nmX9 : ∀ a, a < 6 → ∀ b, b < 6 → a ≠ b → (TX9 a).2.1 ≠ (TX9 b).2.1 := by decide +kernel
theorem tyX9_ok : ∀ k, k < 6 → parseFieldDescriptor (TX9 k).2.2.1 = some (tyX9 k) := by decide +kernel
abbrev cX9_init : ByteArray := prog_1_method_1_code
def yX9_init : MethodName := ⟨RX9, "<init>", "()V"⟩
abbrev cX9_feed : ByteArray := prog_1_method_2_code
def yX9_feed : MethodName := ⟨RX9, "feed", "(IIIII)I"⟩
abbrev cX9_take : ByteArray := prog_1_method_3_code
def yX9_take : MethodName := ⟨RX9, "take", "()I"⟩
abbrev cX9_read : ByteArray := prog_1_method_4_code
def yX9_read : MethodName := ⟨RX9, "read", "(I)I"⟩
abbrev cX9_fault : ByteArray := prog_1_method_5_code
def yX9_fault : MethodName := ⟨RX9, "fault", "(I)I"⟩
abbrev cX9_begin : ByteArray := prog_1_method_6_code
def yX9_begin : MethodName := ⟨RX9, "begin", "(IIII)Z"⟩
abbrev cX9_colour : ByteArray := prog_1_method_7_code
def yX9_colour : MethodName := ⟨RX9, "colour", "(III)Z"⟩
abbrev cX9_frame : ByteArray := prog_1_method_8_code
def yX9_frame : MethodName := ⟨RX9, "frame", "(IIIIIZ)I"⟩
abbrev cX9_control : ByteArray := prog_1_method_9_code
def yX9_control : MethodName := ⟨RX9, "control", "(IIIIZ)Z"⟩
abbrev cX9_paint : ByteArray := prog_1_method_10_code
def yX9_paint : MethodName := ⟨RX9, "paint", "(IIII)Z"⟩
abbrev cX9_write : ByteArray := prog_1_method_11_code
def yX9_write : MethodName := ⟨RX9, "write", "()I"⟩
abbrev cX9_out : ByteArray := prog_1_method_12_code
def yX9_out : MethodName := ⟨RX9, "out", "(I)I"⟩
abbrev cX9_about : ByteArray := prog_1_method_13_code
def yX9_about : MethodName := ⟨RX9, "about", "(I)I"⟩
abbrev cX9_frameOf : ByteArray := prog_1_method_14_code
def yX9_frameOf : MethodName := ⟨RX9, "frameOf", "(II)I"⟩
abbrev cX9_colourOf : ByteArray := prog_1_method_15_code
def yX9_colourOf : MethodName := ⟨RX9, "colourOf", "(II)I"⟩
abbrev cX9_index : ByteArray := prog_1_method_16_code
def yX9_index : MethodName := ⟨RX9, "index", "(II)I"⟩
abbrev cX9_canvas : ByteArray := prog_1_method_17_code
def yX9_canvas : MethodName := ⟨RX9, "canvas", "(III)I"⟩
abbrev cX9_tableAt : ByteArray := prog_1_method_18_code
def yX9_tableAt : MethodName := ⟨RX9, "tableAt", "(I)LPictureReel$Table;"⟩
abbrev cX9_isSide : ByteArray := prog_1_method_19_code
def yX9_isSide : MethodName := ⟨RX9, "isSide", "(I)Z"⟩
abbrev cX9_isByte : ByteArray := prog_1_method_20_code
def yX9_isByte : MethodName := ⟨RX9, "isByte", "(I)Z"⟩
abbrev cX9_isTableSize : ByteArray := prog_1_method_21_code
def yX9_isTableSize : MethodName := ⟨RX9, "isTableSize", "(I)Z"⟩
def RX10 : String := "PictureReelModel"
def TX10 : u_T := fun k => match k with
  | 0 => ("PictureReelModel", "tape", "[B", true)
  | 1 => ("PictureReelModel", "out", "[B", true)
  | 2 => ("PictureReelModel", "taped", "I", false)
  | 3 => ("PictureReelModel", "outs", "I", false)
  | 4 => ("PictureReelModel", "fault", "I", false)
  | 5 => ("PictureReelModel", "faultPlace", "I", false)
  | 6 => ("PictureReelModel", "now", "I", false)
  | 7 => ("PictureReelModel", "head", "[I", true)
  | 8 => ("PictureReelModel", "global", "[I", true)
  | 9 => ("PictureReelModel", "field", "[I", true)
  | 10 => ("PictureReelModel", "local", "[I", true)
  | 11 => ("PictureReelModel", "index", "[S", true)
  | 12 => ("PictureReelModel", "at", "I", false)
  | 13 => ("PictureReelModel", "end", "I", false)
  | 14 => ("PictureReelModel", "into", "I", false)
  | 15 => ("PictureReelModel", "isOld", "Z", false)
  | 16 => ("PictureReelModel", "waits", "Z", false)
  | 17 => ("PictureReelModel", "disposal", "I", false)
  | 18 => ("PictureReelModel", "transparent", "I", false)
  | 19 => ("PictureReelModel", "delay", "I", false)
  | 20 => ("PictureReelModel", "input", "I", false)
  | 21 => ("PictureReelModel", "data", "[B", true)
  | 22 => ("PictureReelModel", "dataEnd", "I", false)
  | 23 => ("PictureReelModel", "bit", "I", false)
  | 24 => ("PictureReelModel", "ahead", "[S", true)
  | 25 => ("PictureReelModel", "last", "[S", true)
  | 26 => ("PictureReelModel", "first", "[S", true)
  | 27 => ("PictureReelModel", "long1", "[S", true)
  | 28 => ("PictureReelModel", "size", "I", false)
  | 29 => ("PictureReelModel", "next", "I", false)
  | 30 => ("PictureReelModel", "before", "I", false)
  | 31 => ("PictureReelModel", "written", "I", false)
  | 32 => ("PictureReelModel", "bits", "I", false)
  | 33 => ("PictureReelModel", "bitMany", "I", false)
  | 34 => ("PictureReelModel", "rowMany", "I", false)
  | 35 => ("PictureReelModel", "row", "[B", true)
  | 36 => ("PictureReelModel", "heir", "[S", true)
  | _ => ("PictureReelModel", "beside", "[S", true)
def tyX10 : Nat → FieldType := fun k => match k with
  | 0 => .array .byte
  | 1 => .array .byte
  | 2 => .int
  | 3 => .int
  | 4 => .int
  | 5 => .int
  | 6 => .int
  | 7 => .array .int
  | 8 => .array .int
  | 9 => .array .int
  | 10 => .array .int
  | 11 => .array .short
  | 12 => .int
  | 13 => .int
  | 14 => .int
  | 15 => .boolean
  | 16 => .boolean
  | 17 => .int
  | 18 => .int
  | 19 => .int
  | 20 => .int
  | 21 => .array .byte
  | 22 => .int
  | 23 => .int
  | 24 => .array .short
  | 25 => .array .short
  | 26 => .array .short
  | 27 => .array .short
  | 28 => .int
  | 29 => .int
  | 30 => .int
  | 31 => .int
  | 32 => .int
  | 33 => .int
  | 34 => .int
  | 35 => .array .byte
  | 36 => .array .short
  | _ => .array .short
theorem nmX10 : ∀ a, a < 38 → ∀ b, b < 38 → a ≠ b → (TX10 a).2.1 ≠ (TX10 b).2.1 := by decide +kernel
theorem tyX10_ok : ∀ k, k < 38 → parseFieldDescriptor (TX10 k).2.2.1 = some (tyX10 k) := by decide +kernel
abbrev cX10_init : ByteArray := prog_12_method_1_code
def yX10_init : MethodName := ⟨RX10, "<init>", "()V"⟩
abbrev cX10_field : ByteArray := prog_12_method_2_code
def yX10_field : MethodName := ⟨RX10, "field", "(III)I"⟩
abbrev cX10_setField : ByteArray := prog_12_method_3_code
def yX10_setField : MethodName := ⟨RX10, "setField", "(IIII)V"⟩
abbrev cX10_indexAt : ByteArray := prog_12_method_4_code
def yX10_indexAt : MethodName := ⟨RX10, "indexAt", "(III)I"⟩
abbrev cX10_setIndex : ByteArray := prog_12_method_5_code
def yX10_setIndex : MethodName := ⟨RX10, "setIndex", "(IIII)V"⟩
abbrev cX10_localAt : ByteArray := prog_12_method_6_code
def yX10_localAt : MethodName := ⟨RX10, "localAt", "(III)I"⟩
abbrev cX10_frames : ByteArray := prog_12_method_7_code
def yX10_frames : MethodName := ⟨RX10, "frames", "()I"⟩
abbrev cX10_isFrame : ByteArray := prog_12_method_8_code
def yX10_isFrame : MethodName := ⟨RX10, "isFrame", "(I)Z"⟩
abbrev cX10_places : ByteArray := prog_12_method_9_code
def yX10_places : MethodName := ⟨RX10, "places", "(II)I"⟩
abbrev cX10_colours : ByteArray := prog_12_method_10_code
def yX10_colours : MethodName := ⟨RX10, "colours", "(II)I"⟩
abbrev cX10_within : ByteArray := prog_12_method_11_code
def yX10_within : MethodName := ⟨RX10, "within", "([BII)I"⟩
abbrev cX10_feed : ByteArray := prog_12_method_12_code
def yX10_feed : MethodName := ⟨RX10, "feed", "(IIIII)I"⟩
abbrev cX10_take : ByteArray := prog_12_method_13_code
def yX10_take : MethodName := ⟨RX10, "take", "()I"⟩
abbrev cX10_wrong : ByteArray := prog_12_method_14_code
def yX10_wrong : MethodName := ⟨RX10, "wrong", "(II)V"⟩
abbrev cX10_good : ByteArray := prog_12_method_15_code
def yX10_good : MethodName := ⟨RX10, "good", "()Z"⟩
abbrev cX10_one : ByteArray := prog_12_method_16_code
def yX10_one : MethodName := ⟨RX10, "one", "()I"⟩
abbrev cX10_two : ByteArray := prog_12_method_17_code
def yX10_two : MethodName := ⟨RX10, "two", "()I"⟩
abbrev cX10_read : ByteArray := prog_12_method_18_code
def yX10_read : MethodName := ⟨RX10, "read", "(I)I"⟩
abbrev cX10_must : ByteArray := prog_12_method_19_code
def yX10_must : MethodName := ⟨RX10, "must", "(II)V"⟩
abbrev cX10_readHead : ByteArray := prog_12_method_20_code
def yX10_readHead : MethodName := ⟨RX10, "readHead", "()V"⟩
abbrev cX10_readTable : ByteArray := prog_12_method_21_code
def yX10_readTable : MethodName := ⟨RX10, "readTable", "([III)V"⟩
abbrev cX10_forget : ByteArray := prog_12_method_22_code
def yX10_forget : MethodName := ⟨RX10, "forget", "()V"⟩
abbrev cX10_readBlocks : ByteArray := prog_12_method_23_code
def yX10_readBlocks : MethodName := ⟨RX10, "readBlocks", "()V"⟩
abbrev cX10_length : ByteArray := prog_12_method_24_code
def yX10_length : MethodName := ⟨RX10, "length", "(I)V"⟩
abbrev cX10_skip : ByteArray := prog_12_method_25_code
def yX10_skip : MethodName := ⟨RX10, "skip", "(I)V"⟩
abbrev cX10_rows : ByteArray := prog_12_method_26_code
def yX10_rows : MethodName := ⟨RX10, "rows", "()V"⟩
abbrev cX10_readMore : ByteArray := prog_12_method_27_code
def yX10_readMore : MethodName := ⟨RX10, "readMore", "()V"⟩
abbrev cX10_readImage : ByteArray := prog_12_method_28_code
def yX10_readImage : MethodName := ⟨RX10, "readImage", "(I)V"⟩
abbrev cX10_gather : ByteArray := prog_12_method_29_code
def yX10_gather : MethodName := ⟨RX10, "gather", "()V"⟩
abbrev cX10_restart : ByteArray := prog_12_method_30_code
def yX10_restart : MethodName := ⟨RX10, "restart", "(I)V"⟩
abbrev cX10_alone : ByteArray := prog_12_method_31_code
def yX10_alone : MethodName := ⟨RX10, "alone", "(I)V"⟩
abbrev cX10_tell : ByteArray := prog_12_method_32_code
def yX10_tell : MethodName := ⟨RX10, "tell", "(I)V"⟩
abbrev cX10_code : ByteArray := prog_12_method_33_code
def yX10_code : MethodName := ⟨RX10, "code", "()I"⟩
abbrev cX10_codes : ByteArray := prog_12_method_34_code
def yX10_codes : MethodName := ⟨RX10, "codes", "(II)Z"⟩
abbrev cX10_put : ByteArray := prog_12_method_35_code
def yX10_put : MethodName := ⟨RX10, "put", "(IZIIII)Z"⟩
abbrev cX10_placeOf : ByteArray := prog_12_method_36_code
def yX10_placeOf : MethodName := ⟨RX10, "placeOf", "(III)I"⟩
abbrev cX10_line : ByteArray := prog_12_method_37_code
def yX10_line : MethodName := ⟨RX10, "line", "(II)I"⟩
abbrev cX10_fault : ByteArray := prog_12_method_38_code
def yX10_fault : MethodName := ⟨RX10, "fault", "(I)I"⟩
abbrev cX10_isTable : ByteArray := prog_12_method_39_code
def yX10_isTable : MethodName := ⟨RX10, "isTable", "(I)Z"⟩
abbrev cX10_isWithin : ByteArray := prog_12_method_40_code
def yX10_isWithin : MethodName := ⟨RX10, "isWithin", "(III)Z"⟩
abbrev cX10_begin : ByteArray := prog_12_method_41_code
def yX10_begin : MethodName := ⟨RX10, "begin", "(IIII)Z"⟩
abbrev cX10_isColour : ByteArray := prog_12_method_42_code
def yX10_isColour : MethodName := ⟨RX10, "isColour", "(II)Z"⟩
abbrev cX10_colour : ByteArray := prog_12_method_43_code
def yX10_colour : MethodName := ⟨RX10, "colour", "(III)Z"⟩
abbrev cX10_frame : ByteArray := prog_12_method_44_code
def yX10_frame : MethodName := ⟨RX10, "frame", "(IIIIIZ)I"⟩
abbrev cX10_control : ByteArray := prog_12_method_45_code
def yX10_control : MethodName := ⟨RX10, "control", "(IIIIZ)Z"⟩
abbrev cX10_paint : ByteArray := prog_12_method_46_code
def yX10_paint : MethodName := ⟨RX10, "paint", "(IIII)Z"⟩
abbrev cX10_say : ByteArray := prog_12_method_47_code
def yX10_say : MethodName := ⟨RX10, "say", "(I)V"⟩
abbrev cX10_sayTwo : ByteArray := prog_12_method_48_code
def yX10_sayTwo : MethodName := ⟨RX10, "sayTwo", "(I)V"⟩
abbrev cX10_sayTable : ByteArray := prog_12_method_49_code
def yX10_sayTable : MethodName := ⟨RX10, "sayTable", "([III)V"⟩
abbrev cX10_bitsOf : ByteArray := prog_12_method_50_code
def yX10_bitsOf : MethodName := ⟨RX10, "bitsOf", "(I)I"⟩
abbrev cX10_write : ByteArray := prog_12_method_51_code
def yX10_write : MethodName := ⟨RX10, "write", "()I"⟩
abbrev cX10_sayFrame : ByteArray := prog_12_method_52_code
def yX10_sayFrame : MethodName := ⟨RX10, "sayFrame", "(I)V"⟩
abbrev cX10_sayRow : ByteArray := prog_12_method_53_code
def yX10_sayRow : MethodName := ⟨RX10, "sayRow", "()V"⟩
abbrev cX10_sayBits : ByteArray := prog_12_method_54_code
def yX10_sayBits : MethodName := ⟨RX10, "sayBits", "(II)V"⟩
abbrev cX10_indexOf : ByteArray := prog_12_method_55_code
def yX10_indexOf : MethodName := ⟨RX10, "indexOf", "(II)I"⟩
abbrev cX10_stands : ByteArray := prog_12_method_56_code
def yX10_stands : MethodName := ⟨RX10, "stands", "(IIII)Z"⟩
abbrev cX10_sayCodes : ByteArray := prog_12_method_57_code
def yX10_sayCodes : MethodName := ⟨RX10, "sayCodes", "(II)V"⟩
abbrev cX10_sayLongest : ByteArray := prog_12_method_58_code
def yX10_sayLongest : MethodName := ⟨RX10, "sayLongest", "(III)I"⟩
abbrev cX10_out : ByteArray := prog_12_method_59_code
def yX10_out : MethodName := ⟨RX10, "out", "(I)I"⟩
abbrev cX10_about : ByteArray := prog_12_method_60_code
def yX10_about : MethodName := ⟨RX10, "about", "(I)I"⟩
abbrev cX10_frameOf : ByteArray := prog_12_method_61_code
def yX10_frameOf : MethodName := ⟨RX10, "frameOf", "(II)I"⟩
abbrev cX10_colourOf : ByteArray := prog_12_method_62_code
def yX10_colourOf : MethodName := ⟨RX10, "colourOf", "(II)I"⟩
abbrev cX10_index : ByteArray := prog_12_method_63_code
def yX10_index : MethodName := ⟨RX10, "index", "(II)I"⟩
abbrev cX10_covers : ByteArray := prog_12_method_64_code
def yX10_covers : MethodName := ⟨RX10, "covers", "(III)I"⟩
abbrev cX10_canvas : ByteArray := prog_12_method_65_code
def yX10_canvas : MethodName := ⟨RX10, "canvas", "(III)I"⟩
def RJ6 : String := "java/lang/Integer"
def TJ6 : u_T := fun k => match k with
  | _ => ("", "", "", false)
def tyJ6 : Nat → FieldType := fun k => match k with
  | _ => .int
theorem nmJ6 : ∀ a, a < 0 → ∀ b, b < 0 → a ≠ b → (TJ6 a).2.1 ≠ (TJ6 b).2.1 := by decide +kernel
theorem tyJ6_ok : ∀ k, k < 0 → parseFieldDescriptor (TJ6 k).2.2.1 = some (tyJ6 k) := by decide +kernel
abbrev cJ6_numberOfTrailingZeros_0f7a4 : ByteArray := prog_13_method_48_code
def yJ6_numberOfTrailingZeros_0f7a4 : MethodName := ⟨RJ6, "numberOfTrailingZeros", "(I)I"⟩
abbrev cJ6_bitCount_0f7a4 : ByteArray := prog_13_method_49_code
def yJ6_bitCount_0f7a4 : MethodName := ⟨RJ6, "bitCount", "(I)I"⟩
def RJ9 : String := "java/lang/Math"
def TJ9 : u_T := fun k => match k with
  | _ => ("", "", "", false)
def tyJ9 : Nat → FieldType := fun k => match k with
  | _ => .int
theorem nmJ9 : ∀ a, a < 0 → ∀ b, b < 0 → a ≠ b → (TJ9 a).2.1 ≠ (TJ9 b).2.1 := by decide +kernel
theorem tyJ9_ok : ∀ k, k < 0 → parseFieldDescriptor (TJ9 k).2.2.1 = some (tyJ9 k) := by decide +kernel
abbrev cJ9_max_7cf53 : ByteArray := prog_14_method_65_code
def yJ9_max_7cf53 : MethodName := ⟨RJ9, "max", "(II)I"⟩
abbrev cJ9_min_7cf53 : ByteArray := prog_14_method_69_code
def yJ9_min_7cf53 : MethodName := ⟨RJ9, "min", "(II)I"⟩
def RJ10 : String := "java/lang/System"
def TJ10 : u_T := fun k => match k with
  | _ => ("", "", "", false)
def tyJ10 : Nat → FieldType := fun k => match k with
  | _ => .int
theorem nmJ10 : ∀ a, a < 0 → ∀ b, b < 0 → a ≠ b → (TJ10 a).2.1 ≠ (TJ10 b).2.1 := by decide +kernel
theorem tyJ10_ok : ∀ k, k < 0 → parseFieldDescriptor (TJ10 k).2.2.1 = some (tyJ10 k) := by decide +kernel
def RL : String := "PictureReelLaw"
abbrev cL_law : ByteArray := code
def yL_law : MethodName := ⟨RL, "law", "([I)Z"⟩
abbrev vwCl : List vw_C := [(RX0, TX0, 3), (RX1, TX1, 12), (RX2, TX2, 12), (RX3, TX3, 8), (RX4, TX4, 7), (RX5, TX5, 11), (RX6, TX6, 2), (RX7, TX7, 2), (RX8, TX8, 4), (RX9, TX9, 6), (RX10, TX10, 38)]
end
section
theorem dJ6_numberOfTrailingZeros_0f7a4_0 : decode cJ6_numberOfTrailingZeros_0f7a4 0 = .ok (.iload_n 0, 1) := by decide +kernel
theorem dJ6_numberOfTrailingZeros_0f7a4_1 : decode cJ6_numberOfTrailingZeros_0f7a4 1 = .ok (.iconst (-1), 1) := by decide +kernel
theorem dJ6_numberOfTrailingZeros_0f7a4_2 : decode cJ6_numberOfTrailingZeros_0f7a4 2 = .ok (.ixor, 1) := by decide +kernel
theorem dJ6_numberOfTrailingZeros_0f7a4_3 : decode cJ6_numberOfTrailingZeros_0f7a4 3 = .ok (.iload_n 0, 1) := by decide +kernel
theorem dJ6_numberOfTrailingZeros_0f7a4_4 : decode cJ6_numberOfTrailingZeros_0f7a4 4 = .ok (.iconst 1, 1) := by decide +kernel
theorem dJ6_numberOfTrailingZeros_0f7a4_5 : decode cJ6_numberOfTrailingZeros_0f7a4 5 = .ok (.isub, 1) := by decide +kernel
theorem dJ6_numberOfTrailingZeros_0f7a4_6 : decode cJ6_numberOfTrailingZeros_0f7a4 6 = .ok (.iand, 1) := by decide +kernel
theorem dJ6_numberOfTrailingZeros_0f7a4_7 : decode cJ6_numberOfTrailingZeros_0f7a4 7 = .ok (.istore_n 0, 1) := by decide +kernel
theorem dJ6_numberOfTrailingZeros_0f7a4_8 : decode cJ6_numberOfTrailingZeros_0f7a4 8 = .ok (.iload_n 0, 1) := by decide +kernel
theorem dJ6_numberOfTrailingZeros_0f7a4_9 : decode cJ6_numberOfTrailingZeros_0f7a4 9 = .ok (.ifCond .gt 8, 3) := by decide +kernel
theorem dJ6_numberOfTrailingZeros_0f7a4_12 : decode cJ6_numberOfTrailingZeros_0f7a4 12 = .ok (.iload_n 0, 1) := by decide +kernel
theorem dJ6_numberOfTrailingZeros_0f7a4_13 : decode cJ6_numberOfTrailingZeros_0f7a4 13 = .ok (.bipush 32, 2) := by decide +kernel
theorem dJ6_numberOfTrailingZeros_0f7a4_15 : decode cJ6_numberOfTrailingZeros_0f7a4 15 = .ok (.iand, 1) := by decide +kernel
theorem dJ6_numberOfTrailingZeros_0f7a4_16 : decode cJ6_numberOfTrailingZeros_0f7a4 16 = .ok (.ireturn, 1) := by decide +kernel
theorem dJ6_numberOfTrailingZeros_0f7a4_17 : decode cJ6_numberOfTrailingZeros_0f7a4 17 = .ok (.iconst 1, 1) := by decide +kernel
theorem dJ6_numberOfTrailingZeros_0f7a4_18 : decode cJ6_numberOfTrailingZeros_0f7a4 18 = .ok (.istore_n 1, 1) := by decide +kernel
theorem dJ6_numberOfTrailingZeros_0f7a4_19 : decode cJ6_numberOfTrailingZeros_0f7a4 19 = .ok (.iload_n 0, 1) := by decide +kernel
theorem dJ6_numberOfTrailingZeros_0f7a4_20 : decode cJ6_numberOfTrailingZeros_0f7a4 20 = .ok (.ldc_w 264, 3) := by decide +kernel
theorem dJ6_numberOfTrailingZeros_0f7a4_23 : decode cJ6_numberOfTrailingZeros_0f7a4 23 = .ok (.if_icmp .le 11, 3) := by decide +kernel
theorem dJ6_numberOfTrailingZeros_0f7a4_26 : decode cJ6_numberOfTrailingZeros_0f7a4 26 = .ok (.iinc 1 16, 3) := by decide +kernel
theorem dJ6_numberOfTrailingZeros_0f7a4_29 : decode cJ6_numberOfTrailingZeros_0f7a4 29 = .ok (.iload_n 0, 1) := by decide +kernel
theorem dJ6_numberOfTrailingZeros_0f7a4_30 : decode cJ6_numberOfTrailingZeros_0f7a4 30 = .ok (.bipush 16, 2) := by decide +kernel
theorem dJ6_numberOfTrailingZeros_0f7a4_32 : decode cJ6_numberOfTrailingZeros_0f7a4 32 = .ok (.iushr, 1) := by decide +kernel
theorem dJ6_numberOfTrailingZeros_0f7a4_33 : decode cJ6_numberOfTrailingZeros_0f7a4 33 = .ok (.istore_n 0, 1) := by decide +kernel
theorem dJ6_numberOfTrailingZeros_0f7a4_34 : decode cJ6_numberOfTrailingZeros_0f7a4 34 = .ok (.iload_n 0, 1) := by decide +kernel
theorem dJ6_numberOfTrailingZeros_0f7a4_35 : decode cJ6_numberOfTrailingZeros_0f7a4 35 = .ok (.sipush 256, 3) := by decide +kernel
theorem dJ6_numberOfTrailingZeros_0f7a4_38 : decode cJ6_numberOfTrailingZeros_0f7a4 38 = .ok (.if_icmp .le 11, 3) := by decide +kernel
theorem dJ6_numberOfTrailingZeros_0f7a4_41 : decode cJ6_numberOfTrailingZeros_0f7a4 41 = .ok (.iinc 1 8, 3) := by decide +kernel
theorem dJ6_numberOfTrailingZeros_0f7a4_44 : decode cJ6_numberOfTrailingZeros_0f7a4 44 = .ok (.iload_n 0, 1) := by decide +kernel
theorem dJ6_numberOfTrailingZeros_0f7a4_45 : decode cJ6_numberOfTrailingZeros_0f7a4 45 = .ok (.bipush 8, 2) := by decide +kernel
theorem dJ6_numberOfTrailingZeros_0f7a4_47 : decode cJ6_numberOfTrailingZeros_0f7a4 47 = .ok (.iushr, 1) := by decide +kernel
theorem dJ6_numberOfTrailingZeros_0f7a4_48 : decode cJ6_numberOfTrailingZeros_0f7a4 48 = .ok (.istore_n 0, 1) := by decide +kernel
theorem dJ6_numberOfTrailingZeros_0f7a4_49 : decode cJ6_numberOfTrailingZeros_0f7a4 49 = .ok (.iload_n 0, 1) := by decide +kernel
theorem dJ6_numberOfTrailingZeros_0f7a4_50 : decode cJ6_numberOfTrailingZeros_0f7a4 50 = .ok (.bipush 16, 2) := by decide +kernel
theorem dJ6_numberOfTrailingZeros_0f7a4_52 : decode cJ6_numberOfTrailingZeros_0f7a4 52 = .ok (.if_icmp .le 10, 3) := by decide +kernel
theorem dJ6_numberOfTrailingZeros_0f7a4_55 : decode cJ6_numberOfTrailingZeros_0f7a4 55 = .ok (.iinc 1 4, 3) := by decide +kernel
theorem dJ6_numberOfTrailingZeros_0f7a4_58 : decode cJ6_numberOfTrailingZeros_0f7a4 58 = .ok (.iload_n 0, 1) := by decide +kernel
theorem dJ6_numberOfTrailingZeros_0f7a4_59 : decode cJ6_numberOfTrailingZeros_0f7a4 59 = .ok (.iconst 4, 1) := by decide +kernel
theorem dJ6_numberOfTrailingZeros_0f7a4_60 : decode cJ6_numberOfTrailingZeros_0f7a4 60 = .ok (.iushr, 1) := by decide +kernel
theorem dJ6_numberOfTrailingZeros_0f7a4_61 : decode cJ6_numberOfTrailingZeros_0f7a4 61 = .ok (.istore_n 0, 1) := by decide +kernel
theorem dJ6_numberOfTrailingZeros_0f7a4_62 : decode cJ6_numberOfTrailingZeros_0f7a4 62 = .ok (.iload_n 0, 1) := by decide +kernel
theorem dJ6_numberOfTrailingZeros_0f7a4_63 : decode cJ6_numberOfTrailingZeros_0f7a4 63 = .ok (.iconst 4, 1) := by decide +kernel
theorem dJ6_numberOfTrailingZeros_0f7a4_64 : decode cJ6_numberOfTrailingZeros_0f7a4 64 = .ok (.if_icmp .le 10, 3) := by decide +kernel
theorem dJ6_numberOfTrailingZeros_0f7a4_67 : decode cJ6_numberOfTrailingZeros_0f7a4 67 = .ok (.iinc 1 2, 3) := by decide +kernel
theorem dJ6_numberOfTrailingZeros_0f7a4_70 : decode cJ6_numberOfTrailingZeros_0f7a4 70 = .ok (.iload_n 0, 1) := by decide +kernel
theorem dJ6_numberOfTrailingZeros_0f7a4_71 : decode cJ6_numberOfTrailingZeros_0f7a4 71 = .ok (.iconst 2, 1) := by decide +kernel
theorem dJ6_numberOfTrailingZeros_0f7a4_72 : decode cJ6_numberOfTrailingZeros_0f7a4 72 = .ok (.iushr, 1) := by decide +kernel
theorem dJ6_numberOfTrailingZeros_0f7a4_73 : decode cJ6_numberOfTrailingZeros_0f7a4 73 = .ok (.istore_n 0, 1) := by decide +kernel
theorem dJ6_numberOfTrailingZeros_0f7a4_74 : decode cJ6_numberOfTrailingZeros_0f7a4 74 = .ok (.iload_n 1, 1) := by decide +kernel
theorem dJ6_numberOfTrailingZeros_0f7a4_75 : decode cJ6_numberOfTrailingZeros_0f7a4 75 = .ok (.iload_n 0, 1) := by decide +kernel
theorem dJ6_numberOfTrailingZeros_0f7a4_76 : decode cJ6_numberOfTrailingZeros_0f7a4 76 = .ok (.iconst 1, 1) := by decide +kernel
theorem dJ6_numberOfTrailingZeros_0f7a4_77 : decode cJ6_numberOfTrailingZeros_0f7a4 77 = .ok (.iushr, 1) := by decide +kernel
theorem dJ6_numberOfTrailingZeros_0f7a4_78 : decode cJ6_numberOfTrailingZeros_0f7a4 78 = .ok (.iadd, 1) := by decide +kernel
theorem dJ6_numberOfTrailingZeros_0f7a4_79 : decode cJ6_numberOfTrailingZeros_0f7a4 79 = .ok (.ireturn, 1) := by decide +kernel
theorem dJ6_bitCount_0f7a4_0 : decode cJ6_bitCount_0f7a4 0 = .ok (.iload_n 0, 1) := by decide +kernel
theorem dJ6_bitCount_0f7a4_1 : decode cJ6_bitCount_0f7a4 1 = .ok (.iload_n 0, 1) := by decide +kernel
theorem dJ6_bitCount_0f7a4_2 : decode cJ6_bitCount_0f7a4 2 = .ok (.iconst 1, 1) := by decide +kernel
theorem dJ6_bitCount_0f7a4_3 : decode cJ6_bitCount_0f7a4 3 = .ok (.iushr, 1) := by decide +kernel
theorem dJ6_bitCount_0f7a4_4 : decode cJ6_bitCount_0f7a4 4 = .ok (.ldc_w 265, 3) := by decide +kernel
theorem dJ6_bitCount_0f7a4_7 : decode cJ6_bitCount_0f7a4 7 = .ok (.iand, 1) := by decide +kernel
theorem dJ6_bitCount_0f7a4_8 : decode cJ6_bitCount_0f7a4 8 = .ok (.isub, 1) := by decide +kernel
theorem dJ6_bitCount_0f7a4_9 : decode cJ6_bitCount_0f7a4 9 = .ok (.istore_n 0, 1) := by decide +kernel
theorem dJ6_bitCount_0f7a4_10 : decode cJ6_bitCount_0f7a4 10 = .ok (.iload_n 0, 1) := by decide +kernel
theorem dJ6_bitCount_0f7a4_11 : decode cJ6_bitCount_0f7a4 11 = .ok (.ldc_w 266, 3) := by decide +kernel
theorem dJ6_bitCount_0f7a4_14 : decode cJ6_bitCount_0f7a4 14 = .ok (.iand, 1) := by decide +kernel
theorem dJ6_bitCount_0f7a4_15 : decode cJ6_bitCount_0f7a4 15 = .ok (.iload_n 0, 1) := by decide +kernel
theorem dJ6_bitCount_0f7a4_16 : decode cJ6_bitCount_0f7a4 16 = .ok (.iconst 2, 1) := by decide +kernel
theorem dJ6_bitCount_0f7a4_17 : decode cJ6_bitCount_0f7a4 17 = .ok (.iushr, 1) := by decide +kernel
theorem dJ6_bitCount_0f7a4_18 : decode cJ6_bitCount_0f7a4 18 = .ok (.ldc_w 266, 3) := by decide +kernel
theorem dJ6_bitCount_0f7a4_21 : decode cJ6_bitCount_0f7a4 21 = .ok (.iand, 1) := by decide +kernel
theorem dJ6_bitCount_0f7a4_22 : decode cJ6_bitCount_0f7a4 22 = .ok (.iadd, 1) := by decide +kernel
theorem dJ6_bitCount_0f7a4_23 : decode cJ6_bitCount_0f7a4 23 = .ok (.istore_n 0, 1) := by decide +kernel
theorem dJ6_bitCount_0f7a4_24 : decode cJ6_bitCount_0f7a4 24 = .ok (.iload_n 0, 1) := by decide +kernel
theorem dJ6_bitCount_0f7a4_25 : decode cJ6_bitCount_0f7a4 25 = .ok (.iload_n 0, 1) := by decide +kernel
theorem dJ6_bitCount_0f7a4_26 : decode cJ6_bitCount_0f7a4 26 = .ok (.iconst 4, 1) := by decide +kernel
theorem dJ6_bitCount_0f7a4_27 : decode cJ6_bitCount_0f7a4 27 = .ok (.iushr, 1) := by decide +kernel
theorem dJ6_bitCount_0f7a4_28 : decode cJ6_bitCount_0f7a4 28 = .ok (.iadd, 1) := by decide +kernel
theorem dJ6_bitCount_0f7a4_29 : decode cJ6_bitCount_0f7a4 29 = .ok (.ldc_w 267, 3) := by decide +kernel
theorem dJ6_bitCount_0f7a4_32 : decode cJ6_bitCount_0f7a4 32 = .ok (.iand, 1) := by decide +kernel
theorem dJ6_bitCount_0f7a4_33 : decode cJ6_bitCount_0f7a4 33 = .ok (.istore_n 0, 1) := by decide +kernel
theorem dJ6_bitCount_0f7a4_34 : decode cJ6_bitCount_0f7a4 34 = .ok (.iload_n 0, 1) := by decide +kernel
theorem dJ6_bitCount_0f7a4_35 : decode cJ6_bitCount_0f7a4 35 = .ok (.iload_n 0, 1) := by decide +kernel
theorem dJ6_bitCount_0f7a4_36 : decode cJ6_bitCount_0f7a4 36 = .ok (.bipush 8, 2) := by decide +kernel
theorem dJ6_bitCount_0f7a4_38 : decode cJ6_bitCount_0f7a4 38 = .ok (.iushr, 1) := by decide +kernel
theorem dJ6_bitCount_0f7a4_39 : decode cJ6_bitCount_0f7a4 39 = .ok (.iadd, 1) := by decide +kernel
theorem dJ6_bitCount_0f7a4_40 : decode cJ6_bitCount_0f7a4 40 = .ok (.istore_n 0, 1) := by decide +kernel
theorem dJ6_bitCount_0f7a4_41 : decode cJ6_bitCount_0f7a4 41 = .ok (.iload_n 0, 1) := by decide +kernel
theorem dJ6_bitCount_0f7a4_42 : decode cJ6_bitCount_0f7a4 42 = .ok (.iload_n 0, 1) := by decide +kernel
theorem dJ6_bitCount_0f7a4_43 : decode cJ6_bitCount_0f7a4 43 = .ok (.bipush 16, 2) := by decide +kernel
theorem dJ6_bitCount_0f7a4_45 : decode cJ6_bitCount_0f7a4 45 = .ok (.iushr, 1) := by decide +kernel
theorem dJ6_bitCount_0f7a4_46 : decode cJ6_bitCount_0f7a4 46 = .ok (.iadd, 1) := by decide +kernel
theorem dJ6_bitCount_0f7a4_47 : decode cJ6_bitCount_0f7a4 47 = .ok (.istore_n 0, 1) := by decide +kernel
theorem dJ6_bitCount_0f7a4_48 : decode cJ6_bitCount_0f7a4 48 = .ok (.iload_n 0, 1) := by decide +kernel
theorem dJ6_bitCount_0f7a4_49 : decode cJ6_bitCount_0f7a4 49 = .ok (.bipush 63, 2) := by decide +kernel
theorem dJ6_bitCount_0f7a4_51 : decode cJ6_bitCount_0f7a4 51 = .ok (.iand, 1) := by decide +kernel
theorem dJ6_bitCount_0f7a4_52 : decode cJ6_bitCount_0f7a4 52 = .ok (.ireturn, 1) := by decide +kernel
theorem dJ9_max_7cf53_0 : decode cJ9_max_7cf53 0 = .ok (.iload_n 0, 1) := by decide +kernel
theorem dJ9_max_7cf53_1 : decode cJ9_max_7cf53 1 = .ok (.iload_n 1, 1) := by decide +kernel
theorem dJ9_max_7cf53_2 : decode cJ9_max_7cf53 2 = .ok (.if_icmp .lt 7, 3) := by decide +kernel
theorem dJ9_max_7cf53_5 : decode cJ9_max_7cf53 5 = .ok (.iload_n 0, 1) := by decide +kernel
theorem dJ9_max_7cf53_6 : decode cJ9_max_7cf53 6 = .ok (.goto 4, 3) := by decide +kernel
theorem dJ9_max_7cf53_9 : decode cJ9_max_7cf53 9 = .ok (.iload_n 1, 1) := by decide +kernel
theorem dJ9_max_7cf53_10 : decode cJ9_max_7cf53 10 = .ok (.ireturn, 1) := by decide +kernel
theorem dJ9_min_7cf53_0 : decode cJ9_min_7cf53 0 = .ok (.iload_n 0, 1) := by decide +kernel
theorem dJ9_min_7cf53_1 : decode cJ9_min_7cf53 1 = .ok (.iload_n 1, 1) := by decide +kernel
theorem dJ9_min_7cf53_2 : decode cJ9_min_7cf53 2 = .ok (.if_icmp .gt 7, 3) := by decide +kernel
theorem dJ9_min_7cf53_5 : decode cJ9_min_7cf53 5 = .ok (.iload_n 0, 1) := by decide +kernel
theorem dJ9_min_7cf53_6 : decode cJ9_min_7cf53 6 = .ok (.goto 4, 3) := by decide +kernel
theorem dJ9_min_7cf53_9 : decode cJ9_min_7cf53 9 = .ok (.iload_n 1, 1) := by decide +kernel
theorem dJ9_min_7cf53_10 : decode cJ9_min_7cf53 10 = .ok (.ireturn, 1) := by decide +kernel
theorem dX0_init_0 : decode cX0_init 0 = .ok (.aload_n 0, 1) := by decide +kernel
theorem dX0_init_1 : decode cX0_init 1 = .ok (.invokespecial 3, 3) := by decide +kernel
theorem dX0_init_4 : decode cX0_init 4 = .ok (.aload_n 0, 1) := by decide +kernel
theorem dX0_init_5 : decode cX0_init 5 = .ok (.sipush 12000, 3) := by decide +kernel
theorem dX0_init_8 : decode cX0_init 8 = .ok (.newarray .int, 2) := by decide +kernel
theorem dX0_init_10 : decode cX0_init 10 = .ok (.putfield 9, 3) := by decide +kernel
theorem dX0_init_13 : decode cX0_init 13 = .ok (.aload_n 0, 1) := by decide +kernel
theorem dX0_init_14 : decode cX0_init 14 = .ok (.iconst 0, 1) := by decide +kernel
theorem dX0_init_15 : decode cX0_init 15 = .ok (.putfield 15, 3) := by decide +kernel
theorem dX0_init_18 : decode cX0_init 18 = .ok (.aload_n 0, 1) := by decide +kernel
theorem dX0_init_19 : decode cX0_init 19 = .ok (.iconst 0, 1) := by decide +kernel
theorem dX0_init_20 : decode cX0_init 20 = .ok (.putfield 19, 3) := by decide +kernel
theorem dX0_init_23 : decode cX0_init 23 = .ok (.return_, 1) := by decide +kernel
theorem dX0_clear_0 : decode cX0_clear 0 = .ok (.aload_n 0, 1) := by decide +kernel
theorem dX0_clear_1 : decode cX0_clear 1 = .ok (.iconst 0, 1) := by decide +kernel
theorem dX0_clear_2 : decode cX0_clear 2 = .ok (.putfield 15, 3) := by decide +kernel
theorem dX0_clear_5 : decode cX0_clear 5 = .ok (.aload_n 0, 1) := by decide +kernel
theorem dX0_clear_6 : decode cX0_clear 6 = .ok (.iconst 0, 1) := by decide +kernel
theorem dX0_clear_7 : decode cX0_clear 7 = .ok (.putfield 19, 3) := by decide +kernel
theorem dX0_clear_10 : decode cX0_clear 10 = .ok (.return_, 1) := by decide +kernel
theorem dX0_add_0 : decode cX0_add 0 = .ok (.aload_n 0, 1) := by decide +kernel
theorem dX0_add_1 : decode cX0_add 1 = .ok (.getfield 15, 3) := by decide +kernel
theorem dX0_add_4 : decode cX0_add 4 = .ok (.sipush 12000, 3) := by decide +kernel
theorem dX0_add_7 : decode cX0_add 7 = .ok (.if_icmp .lt 9, 3) := by decide +kernel
theorem dX0_add_10 : decode cX0_add 10 = .ok (.aload_n 0, 1) := by decide +kernel
theorem dX0_add_11 : decode cX0_add 11 = .ok (.iconst 1, 1) := by decide +kernel
theorem dX0_add_12 : decode cX0_add 12 = .ok (.putfield 19, 3) := by decide +kernel
theorem dX0_add_15 : decode cX0_add 15 = .ok (.return_, 1) := by decide +kernel
theorem dX0_add_16 : decode cX0_add 16 = .ok (.aload_n 0, 1) := by decide +kernel
theorem dX0_add_17 : decode cX0_add 17 = .ok (.getfield 9, 3) := by decide +kernel
theorem dX0_add_20 : decode cX0_add 20 = .ok (.aload_n 0, 1) := by decide +kernel
theorem dX0_add_21 : decode cX0_add 21 = .ok (.getfield 15, 3) := by decide +kernel
theorem dX0_add_24 : decode cX0_add 24 = .ok (.iload_n 1, 1) := by decide +kernel
theorem dX0_add_25 : decode cX0_add 25 = .ok (.sipush 255, 3) := by decide +kernel
theorem dX0_add_28 : decode cX0_add 28 = .ok (.iand, 1) := by decide +kernel
theorem dX0_add_29 : decode cX0_add 29 = .ok (.iastore, 1) := by decide +kernel
theorem dX0_add_30 : decode cX0_add 30 = .ok (.aload_n 0, 1) := by decide +kernel
theorem dX0_add_31 : decode cX0_add 31 = .ok (.dup, 1) := by decide +kernel
theorem dX0_add_32 : decode cX0_add 32 = .ok (.getfield 15, 3) := by decide +kernel
theorem dX0_add_35 : decode cX0_add 35 = .ok (.iconst 1, 1) := by decide +kernel
theorem dX0_add_36 : decode cX0_add 36 = .ok (.iadd, 1) := by decide +kernel
theorem dX0_add_37 : decode cX0_add 37 = .ok (.putfield 15, 3) := by decide +kernel
theorem dX0_add_40 : decode cX0_add 40 = .ok (.return_, 1) := by decide +kernel
theorem dX0_addTwo_0 : decode cX0_addTwo 0 = .ok (.aload_n 0, 1) := by decide +kernel
theorem dX0_addTwo_1 : decode cX0_addTwo 1 = .ok (.iload_n 1, 1) := by decide +kernel
theorem dX0_addTwo_2 : decode cX0_addTwo 2 = .ok (.invokevirtual 23, 3) := by decide +kernel
theorem dX0_addTwo_5 : decode cX0_addTwo 5 = .ok (.aload_n 0, 1) := by decide +kernel
theorem dX0_addTwo_6 : decode cX0_addTwo 6 = .ok (.iload_n 1, 1) := by decide +kernel
theorem dX0_addTwo_7 : decode cX0_addTwo 7 = .ok (.bipush 8, 2) := by decide +kernel
theorem dX0_addTwo_9 : decode cX0_addTwo 9 = .ok (.ishr, 1) := by decide +kernel
theorem dX0_addTwo_10 : decode cX0_addTwo 10 = .ok (.invokevirtual 23, 3) := by decide +kernel
theorem dX0_addTwo_13 : decode cX0_addTwo 13 = .ok (.return_, 1) := by decide +kernel
theorem dX0_addFour_0 : decode cX0_addFour 0 = .ok (.aload_n 0, 1) := by decide +kernel
theorem dX0_addFour_1 : decode cX0_addFour 1 = .ok (.iload_n 1, 1) := by decide +kernel
theorem dX0_addFour_2 : decode cX0_addFour 2 = .ok (.bipush 24, 2) := by decide +kernel
theorem dX0_addFour_4 : decode cX0_addFour 4 = .ok (.ishr, 1) := by decide +kernel
theorem dX0_addFour_5 : decode cX0_addFour 5 = .ok (.invokevirtual 23, 3) := by decide +kernel
theorem dX0_addFour_8 : decode cX0_addFour 8 = .ok (.aload_n 0, 1) := by decide +kernel
theorem dX0_addFour_9 : decode cX0_addFour 9 = .ok (.iload_n 1, 1) := by decide +kernel
theorem dX0_addFour_10 : decode cX0_addFour 10 = .ok (.bipush 16, 2) := by decide +kernel
theorem dX0_addFour_12 : decode cX0_addFour 12 = .ok (.ishr, 1) := by decide +kernel
theorem dX0_addFour_13 : decode cX0_addFour 13 = .ok (.invokevirtual 23, 3) := by decide +kernel
theorem dX0_addFour_16 : decode cX0_addFour 16 = .ok (.aload_n 0, 1) := by decide +kernel
theorem dX0_addFour_17 : decode cX0_addFour 17 = .ok (.iload_n 1, 1) := by decide +kernel
theorem dX0_addFour_18 : decode cX0_addFour 18 = .ok (.bipush 8, 2) := by decide +kernel
theorem dX0_addFour_20 : decode cX0_addFour 20 = .ok (.ishr, 1) := by decide +kernel
theorem dX0_addFour_21 : decode cX0_addFour 21 = .ok (.invokevirtual 23, 3) := by decide +kernel
theorem dX0_addFour_24 : decode cX0_addFour 24 = .ok (.aload_n 0, 1) := by decide +kernel
theorem dX0_addFour_25 : decode cX0_addFour 25 = .ok (.iload_n 1, 1) := by decide +kernel
theorem dX0_addFour_26 : decode cX0_addFour 26 = .ok (.invokevirtual 23, 3) := by decide +kernel
theorem dX0_addFour_29 : decode cX0_addFour 29 = .ok (.return_, 1) := by decide +kernel
theorem dX0_at_0 : decode cX0_at 0 = .ok (.iload_n 1, 1) := by decide +kernel
theorem dX0_at_1 : decode cX0_at 1 = .ok (.ifCond .lt 20, 3) := by decide +kernel
theorem dX0_at_4 : decode cX0_at 4 = .ok (.iload_n 1, 1) := by decide +kernel
theorem dX0_at_5 : decode cX0_at 5 = .ok (.aload_n 0, 1) := by decide +kernel
theorem dX0_at_6 : decode cX0_at 6 = .ok (.getfield 15, 3) := by decide +kernel
theorem dX0_at_9 : decode cX0_at 9 = .ok (.if_icmp .ge 12, 3) := by decide +kernel
theorem dX0_at_12 : decode cX0_at 12 = .ok (.aload_n 0, 1) := by decide +kernel
theorem dX0_at_13 : decode cX0_at 13 = .ok (.getfield 9, 3) := by decide +kernel
theorem dX0_at_16 : decode cX0_at 16 = .ok (.iload_n 1, 1) := by decide +kernel
theorem dX0_at_17 : decode cX0_at 17 = .ok (.iaload, 1) := by decide +kernel
theorem dX0_at_18 : decode cX0_at 18 = .ok (.goto 4, 3) := by decide +kernel
theorem dX0_at_21 : decode cX0_at 21 = .ok (.iconst (-1), 1) := by decide +kernel
theorem dX0_at_22 : decode cX0_at 22 = .ok (.ireturn, 1) := by decide +kernel
theorem dX0_copyFrom_0 : decode cX0_copyFrom 0 = .ok (.aload_n 1, 1) := by decide +kernel
theorem dX0_copyFrom_1 : decode cX0_copyFrom 1 = .ok (.getfield 9, 3) := by decide +kernel
theorem dX0_copyFrom_4 : decode cX0_copyFrom 4 = .ok (.iconst 0, 1) := by decide +kernel
theorem dX0_copyFrom_5 : decode cX0_copyFrom 5 = .ok (.aload_n 0, 1) := by decide +kernel
theorem dX0_copyFrom_6 : decode cX0_copyFrom 6 = .ok (.getfield 9, 3) := by decide +kernel
theorem dX0_copyFrom_9 : decode cX0_copyFrom 9 = .ok (.iconst 0, 1) := by decide +kernel
theorem dX0_copyFrom_10 : decode cX0_copyFrom 10 = .ok (.aload_n 1, 1) := by decide +kernel
theorem dX0_copyFrom_11 : decode cX0_copyFrom 11 = .ok (.getfield 15, 3) := by decide +kernel
theorem dX0_copyFrom_14 : decode cX0_copyFrom 14 = .ok (.invokestatic 27, 3) := by decide +kernel
theorem dX0_copyFrom_17 : decode cX0_copyFrom 17 = .ok (.aload_n 0, 1) := by decide +kernel
theorem dX0_copyFrom_18 : decode cX0_copyFrom 18 = .ok (.aload_n 1, 1) := by decide +kernel
theorem dX0_copyFrom_19 : decode cX0_copyFrom 19 = .ok (.getfield 15, 3) := by decide +kernel
theorem dX0_copyFrom_22 : decode cX0_copyFrom 22 = .ok (.putfield 15, 3) := by decide +kernel
theorem dX0_copyFrom_25 : decode cX0_copyFrom 25 = .ok (.aload_n 0, 1) := by decide +kernel
theorem dX0_copyFrom_26 : decode cX0_copyFrom 26 = .ok (.aload_n 1, 1) := by decide +kernel
theorem dX0_copyFrom_27 : decode cX0_copyFrom 27 = .ok (.getfield 19, 3) := by decide +kernel
theorem dX0_copyFrom_30 : decode cX0_copyFrom 30 = .ok (.putfield 19, 3) := by decide +kernel
theorem dX0_copyFrom_33 : decode cX0_copyFrom 33 = .ok (.return_, 1) := by decide +kernel
theorem dX1_init_0 : decode cX1_init 0 = .ok (.aload_n 0, 1) := by decide +kernel
theorem dX1_init_1 : decode cX1_init 1 = .ok (.invokespecial 3, 3) := by decide +kernel
theorem dX1_init_4 : decode cX1_init 4 = .ok (.aload_n 0, 1) := by decide +kernel
theorem dX1_init_5 : decode cX1_init 5 = .ok (.new 9, 3) := by decide +kernel
theorem dX1_init_8 : decode cX1_init 8 = .ok (.dup, 1) := by decide +kernel
theorem dX1_init_9 : decode cX1_init 9 = .ok (.invokespecial 11, 3) := by decide +kernel
theorem dX1_init_12 : decode cX1_init 12 = .ok (.putfield 12, 3) := by decide +kernel
theorem dX1_init_15 : decode cX1_init 15 = .ok (.aload_n 0, 1) := by decide +kernel
theorem dX1_init_16 : decode cX1_init 16 = .ok (.sipush 4096, 3) := by decide +kernel
theorem dX1_init_19 : decode cX1_init 19 = .ok (.newarray .int, 2) := by decide +kernel
theorem dX1_init_21 : decode cX1_init 21 = .ok (.putfield 18, 3) := by decide +kernel
theorem dX1_init_24 : decode cX1_init 24 = .ok (.aload_n 0, 1) := by decide +kernel
theorem dX1_init_25 : decode cX1_init 25 = .ok (.sipush 4096, 3) := by decide +kernel
theorem dX1_init_28 : decode cX1_init 28 = .ok (.newarray .int, 2) := by decide +kernel
theorem dX1_init_30 : decode cX1_init 30 = .ok (.putfield 22, 3) := by decide +kernel
theorem dX1_init_33 : decode cX1_init 33 = .ok (.aload_n 0, 1) := by decide +kernel
theorem dX1_init_34 : decode cX1_init 34 = .ok (.sipush 4096, 3) := by decide +kernel
theorem dX1_init_37 : decode cX1_init 37 = .ok (.newarray .int, 2) := by decide +kernel
theorem dX1_init_39 : decode cX1_init 39 = .ok (.putfield 25, 3) := by decide +kernel
theorem dX1_init_42 : decode cX1_init 42 = .ok (.aload_n 0, 1) := by decide +kernel
theorem dX1_init_43 : decode cX1_init 43 = .ok (.sipush 4096, 3) := by decide +kernel
theorem dX1_init_46 : decode cX1_init 46 = .ok (.newarray .int, 2) := by decide +kernel
theorem dX1_init_48 : decode cX1_init 48 = .ok (.putfield 28, 3) := by decide +kernel
theorem dX1_init_51 : decode cX1_init 51 = .ok (.aload_n 0, 1) := by decide +kernel
theorem dX1_init_52 : decode cX1_init 52 = .ok (.sipush 4096, 3) := by decide +kernel
theorem dX1_init_55 : decode cX1_init 55 = .ok (.newarray .int, 2) := by decide +kernel
theorem dX1_init_57 : decode cX1_init 57 = .ok (.putfield 31, 3) := by decide +kernel
theorem dX1_init_60 : decode cX1_init 60 = .ok (.return_, 1) := by decide +kernel
theorem dX1_decode_0 : decode cX1_decode 0 = .ok (.iconst 1, 1) := by decide +kernel
theorem dX1_decode_1 : decode cX1_decode 1 = .ok (.iload_n 1, 1) := by decide +kernel
theorem dX1_decode_2 : decode cX1_decode 2 = .ok (.ishl, 1) := by decide +kernel
theorem dX1_decode_3 : decode cX1_decode 3 = .ok (.istore 4, 2) := by decide +kernel
theorem dX1_decode_5 : decode cX1_decode 5 = .ok (.aload_n 0, 1) := by decide +kernel
theorem dX1_decode_6 : decode cX1_decode 6 = .ok (.iload_n 1, 1) := by decide +kernel
theorem dX1_decode_7 : decode cX1_decode 7 = .ok (.invokevirtual 34, 3) := by decide +kernel
theorem dX1_decode_10 : decode cX1_decode 10 = .ok (.aload_n 0, 1) := by decide +kernel
theorem dX1_decode_11 : decode cX1_decode 11 = .ok (.invokevirtual 38, 3) := by decide +kernel
theorem dX1_decode_14 : decode cX1_decode 14 = .ok (.iload 4, 2) := by decide +kernel
theorem dX1_decode_16 : decode cX1_decode 16 = .ok (.if_icmp .eq 5, 3) := by decide +kernel
theorem dX1_decode_19 : decode cX1_decode 19 = .ok (.iconst 0, 1) := by decide +kernel
theorem dX1_decode_20 : decode cX1_decode 20 = .ok (.ireturn, 1) := by decide +kernel
theorem dX1_decode_21 : decode cX1_decode 21 = .ok (.iconst 0, 1) := by decide +kernel
theorem dX1_decode_22 : decode cX1_decode 22 = .ok (.istore 5, 2) := by decide +kernel
theorem dX1_decode_24 : decode cX1_decode 24 = .ok (.iload 5, 2) := by decide +kernel
theorem dX1_decode_26 : decode cX1_decode 26 = .ok (.aload_n 0, 1) := by decide +kernel
theorem dX1_decode_27 : decode cX1_decode 27 = .ok (.getfield 12, 3) := by decide +kernel
theorem dX1_decode_30 : decode cX1_decode 30 = .ok (.getfield 42, 3) := by decide +kernel
theorem dX1_decode_33 : decode cX1_decode 33 = .ok (.bipush 8, 2) := by decide +kernel
theorem dX1_decode_35 : decode cX1_decode 35 = .ok (.imul, 1) := by decide +kernel
theorem dX1_decode_36 : decode cX1_decode 36 = .ok (.if_icmp .ge 94, 3) := by decide +kernel
theorem dX1_decode_39 : decode cX1_decode 39 = .ok (.aload_n 0, 1) := by decide +kernel
theorem dX1_decode_40 : decode cX1_decode 40 = .ok (.invokevirtual 38, 3) := by decide +kernel
theorem dX1_decode_43 : decode cX1_decode 43 = .ok (.istore 6, 2) := by decide +kernel
theorem dX1_decode_45 : decode cX1_decode 45 = .ok (.iload 6, 2) := by decide +kernel
theorem dX1_decode_47 : decode cX1_decode 47 = .ok (.iload 4, 2) := by decide +kernel
theorem dX1_decode_49 : decode cX1_decode 49 = .ok (.iconst 1, 1) := by decide +kernel
theorem dX1_decode_50 : decode cX1_decode 50 = .ok (.iadd, 1) := by decide +kernel
theorem dX1_decode_51 : decode cX1_decode 51 = .ok (.if_icmp .ne 37, 3) := by decide +kernel
theorem dX1_decode_54 : decode cX1_decode 54 = .ok (.aload_n 0, 1) := by decide +kernel
theorem dX1_decode_55 : decode cX1_decode 55 = .ok (.getfield 46, 3) := by decide +kernel
theorem dX1_decode_58 : decode cX1_decode 58 = .ok (.iload_n 2, 1) := by decide +kernel
theorem dX1_decode_59 : decode cX1_decode 59 = .ok (.if_icmp .ne 27, 3) := by decide +kernel
theorem dX1_decode_62 : decode cX1_decode 62 = .ok (.aload_n 0, 1) := by decide +kernel
theorem dX1_decode_63 : decode cX1_decode 63 = .ok (.getfield 49, 3) := by decide +kernel
theorem dX1_decode_66 : decode cX1_decode 66 = .ok (.iconst 1, 1) := by decide +kernel
theorem dX1_decode_67 : decode cX1_decode 67 = .ok (.isub, 1) := by decide +kernel
theorem dX1_decode_68 : decode cX1_decode 68 = .ok (.iconst 3, 1) := by decide +kernel
theorem dX1_decode_69 : decode cX1_decode 69 = .ok (.ishr, 1) := by decide +kernel
theorem dX1_decode_70 : decode cX1_decode 70 = .ok (.aload_n 0, 1) := by decide +kernel
theorem dX1_decode_71 : decode cX1_decode 71 = .ok (.getfield 12, 3) := by decide +kernel
theorem dX1_decode_74 : decode cX1_decode 74 = .ok (.getfield 42, 3) := by decide +kernel
theorem dX1_decode_77 : decode cX1_decode 77 = .ok (.iconst 1, 1) := by decide +kernel
theorem dX1_decode_78 : decode cX1_decode 78 = .ok (.isub, 1) := by decide +kernel
theorem dX1_decode_79 : decode cX1_decode 79 = .ok (.if_icmp .ne 7, 3) := by decide +kernel
theorem dX1_decode_82 : decode cX1_decode 82 = .ok (.iconst 1, 1) := by decide +kernel
theorem dX1_decode_83 : decode cX1_decode 83 = .ok (.goto 4, 3) := by decide +kernel
theorem dX1_decode_86 : decode cX1_decode 86 = .ok (.iconst 0, 1) := by decide +kernel
theorem dX1_decode_87 : decode cX1_decode 87 = .ok (.ireturn, 1) := by decide +kernel
theorem dX1_decode_88 : decode cX1_decode 88 = .ok (.iload 6, 2) := by decide +kernel
theorem dX1_decode_90 : decode cX1_decode 90 = .ok (.iload 4, 2) := by decide +kernel
theorem dX1_decode_92 : decode cX1_decode 92 = .ok (.if_icmp .ne 10, 3) := by decide +kernel
theorem dX1_decode_95 : decode cX1_decode 95 = .ok (.aload_n 0, 1) := by decide +kernel
theorem dX1_decode_96 : decode cX1_decode 96 = .ok (.invokevirtual 52, 3) := by decide +kernel
theorem dX1_decode_99 : decode cX1_decode 99 = .ok (.goto 25, 3) := by decide +kernel
theorem dX1_decode_102 : decode cX1_decode 102 = .ok (.aload_n 0, 1) := by decide +kernel
theorem dX1_decode_103 : decode cX1_decode 103 = .ok (.iload 6, 2) := by decide +kernel
theorem dX1_decode_105 : decode cX1_decode 105 = .ok (.invokevirtual 55, 3) := by decide +kernel
theorem dX1_decode_108 : decode cX1_decode 108 = .ok (.ifCond .eq 14, 3) := by decide +kernel
theorem dX1_decode_111 : decode cX1_decode 111 = .ok (.aload_n 0, 1) := by decide +kernel
theorem dX1_decode_112 : decode cX1_decode 112 = .ok (.iload 6, 2) := by decide +kernel
theorem dX1_decode_114 : decode cX1_decode 114 = .ok (.iload_n 2, 1) := by decide +kernel
theorem dX1_decode_115 : decode cX1_decode 115 = .ok (.iload_n 3, 1) := by decide +kernel
theorem dX1_decode_116 : decode cX1_decode 116 = .ok (.invokevirtual 59, 3) := by decide +kernel
theorem dX1_decode_119 : decode cX1_decode 119 = .ok (.ifCond .ne 5, 3) := by decide +kernel
theorem dX1_decode_122 : decode cX1_decode 122 = .ok (.iconst 0, 1) := by decide +kernel
theorem dX1_decode_123 : decode cX1_decode 123 = .ok (.ireturn, 1) := by decide +kernel
theorem dX1_decode_124 : decode cX1_decode 124 = .ok (.iinc 5 1, 3) := by decide +kernel
theorem dX1_decode_127 : decode cX1_decode 127 = .ok (.goto (-103), 3) := by decide +kernel
theorem dX1_decode_130 : decode cX1_decode 130 = .ok (.iconst 0, 1) := by decide +kernel
theorem dX1_decode_131 : decode cX1_decode 131 = .ok (.ireturn, 1) := by decide +kernel
theorem dX1_start_0 : decode cX1_start 0 = .ok (.aload_n 0, 1) := by decide +kernel
theorem dX1_start_1 : decode cX1_start 1 = .ok (.iload_n 1, 1) := by decide +kernel
theorem dX1_start_2 : decode cX1_start 2 = .ok (.putfield 63, 3) := by decide +kernel
theorem dX1_start_5 : decode cX1_start 5 = .ok (.aload_n 0, 1) := by decide +kernel
theorem dX1_start_6 : decode cX1_start 6 = .ok (.iconst 0, 1) := by decide +kernel
theorem dX1_start_7 : decode cX1_start 7 = .ok (.putfield 49, 3) := by decide +kernel
theorem dX1_start_10 : decode cX1_start 10 = .ok (.aload_n 0, 1) := by decide +kernel
theorem dX1_start_11 : decode cX1_start 11 = .ok (.iconst 0, 1) := by decide +kernel
theorem dX1_start_12 : decode cX1_start 12 = .ok (.putfield 46, 3) := by decide +kernel
theorem dX1_start_15 : decode cX1_start 15 = .ok (.iconst 0, 1) := by decide +kernel
theorem dX1_start_16 : decode cX1_start 16 = .ok (.istore_n 2, 1) := by decide +kernel
theorem dX1_start_17 : decode cX1_start 17 = .ok (.iload_n 2, 1) := by decide +kernel
theorem dX1_start_18 : decode cX1_start 18 = .ok (.iconst 1, 1) := by decide +kernel
theorem dX1_start_19 : decode cX1_start 19 = .ok (.aload_n 0, 1) := by decide +kernel
theorem dX1_start_20 : decode cX1_start 20 = .ok (.getfield 63, 3) := by decide +kernel
theorem dX1_start_23 : decode cX1_start 23 = .ok (.ishl, 1) := by decide +kernel
theorem dX1_start_24 : decode cX1_start 24 = .ok (.if_icmp .ge 30, 3) := by decide +kernel
theorem dX1_start_27 : decode cX1_start 27 = .ok (.aload_n 0, 1) := by decide +kernel
theorem dX1_start_28 : decode cX1_start 28 = .ok (.getfield 25, 3) := by decide +kernel
theorem dX1_start_31 : decode cX1_start 31 = .ok (.iload_n 2, 1) := by decide +kernel
theorem dX1_start_32 : decode cX1_start 32 = .ok (.iload_n 2, 1) := by decide +kernel
theorem dX1_start_33 : decode cX1_start 33 = .ok (.iastore, 1) := by decide +kernel
theorem dX1_start_34 : decode cX1_start 34 = .ok (.aload_n 0, 1) := by decide +kernel
theorem dX1_start_35 : decode cX1_start 35 = .ok (.getfield 28, 3) := by decide +kernel
theorem dX1_start_38 : decode cX1_start 38 = .ok (.iload_n 2, 1) := by decide +kernel
theorem dX1_start_39 : decode cX1_start 39 = .ok (.iload_n 2, 1) := by decide +kernel
theorem dX1_start_40 : decode cX1_start 40 = .ok (.iastore, 1) := by decide +kernel
theorem dX1_start_41 : decode cX1_start 41 = .ok (.aload_n 0, 1) := by decide +kernel
theorem dX1_start_42 : decode cX1_start 42 = .ok (.getfield 31, 3) := by decide +kernel
theorem dX1_start_45 : decode cX1_start 45 = .ok (.iload_n 2, 1) := by decide +kernel
theorem dX1_start_46 : decode cX1_start 46 = .ok (.iconst 1, 1) := by decide +kernel
theorem dX1_start_47 : decode cX1_start 47 = .ok (.iastore, 1) := by decide +kernel
theorem dX1_start_48 : decode cX1_start 48 = .ok (.iinc 2 1, 3) := by decide +kernel
theorem dX1_start_51 : decode cX1_start 51 = .ok (.goto (-34), 3) := by decide +kernel
theorem dX1_start_54 : decode cX1_start 54 = .ok (.aload_n 0, 1) := by decide +kernel
theorem dX1_start_55 : decode cX1_start 55 = .ok (.invokevirtual 52, 3) := by decide +kernel
theorem dX1_start_58 : decode cX1_start 58 = .ok (.return_, 1) := by decide +kernel
theorem dX1_forget_0 : decode cX1_forget 0 = .ok (.aload_n 0, 1) := by decide +kernel
theorem dX1_forget_1 : decode cX1_forget 1 = .ok (.aload_n 0, 1) := by decide +kernel
theorem dX1_forget_2 : decode cX1_forget 2 = .ok (.getfield 63, 3) := by decide +kernel
theorem dX1_forget_5 : decode cX1_forget 5 = .ok (.iconst 1, 1) := by decide +kernel
theorem dX1_forget_6 : decode cX1_forget 6 = .ok (.iadd, 1) := by decide +kernel
theorem dX1_forget_7 : decode cX1_forget 7 = .ok (.putfield 66, 3) := by decide +kernel
theorem dX1_forget_10 : decode cX1_forget 10 = .ok (.aload_n 0, 1) := by decide +kernel
theorem dX1_forget_11 : decode cX1_forget 11 = .ok (.iconst 1, 1) := by decide +kernel
theorem dX1_forget_12 : decode cX1_forget 12 = .ok (.aload_n 0, 1) := by decide +kernel
theorem dX1_forget_13 : decode cX1_forget 13 = .ok (.getfield 63, 3) := by decide +kernel
theorem dX1_forget_16 : decode cX1_forget 16 = .ok (.ishl, 1) := by decide +kernel
theorem dX1_forget_17 : decode cX1_forget 17 = .ok (.iconst 2, 1) := by decide +kernel
theorem dX1_forget_18 : decode cX1_forget 18 = .ok (.iadd, 1) := by decide +kernel
theorem dX1_forget_19 : decode cX1_forget 19 = .ok (.putfield 69, 3) := by decide +kernel
theorem dX1_forget_22 : decode cX1_forget 22 = .ok (.aload_n 0, 1) := by decide +kernel
theorem dX1_forget_23 : decode cX1_forget 23 = .ok (.iconst (-1), 1) := by decide +kernel
theorem dX1_forget_24 : decode cX1_forget 24 = .ok (.putfield 72, 3) := by decide +kernel
theorem dX1_forget_27 : decode cX1_forget 27 = .ok (.return_, 1) := by decide +kernel
theorem dX1_nextCode_0 : decode cX1_nextCode 0 = .ok (.aload_n 0, 1) := by decide +kernel
theorem dX1_nextCode_1 : decode cX1_nextCode 1 = .ok (.getfield 49, 3) := by decide +kernel
theorem dX1_nextCode_4 : decode cX1_nextCode 4 = .ok (.aload_n 0, 1) := by decide +kernel
theorem dX1_nextCode_5 : decode cX1_nextCode 5 = .ok (.getfield 66, 3) := by decide +kernel
theorem dX1_nextCode_8 : decode cX1_nextCode 8 = .ok (.iadd, 1) := by decide +kernel
theorem dX1_nextCode_9 : decode cX1_nextCode 9 = .ok (.aload_n 0, 1) := by decide +kernel
theorem dX1_nextCode_10 : decode cX1_nextCode 10 = .ok (.getfield 12, 3) := by decide +kernel
theorem dX1_nextCode_13 : decode cX1_nextCode 13 = .ok (.getfield 42, 3) := by decide +kernel
theorem dX1_nextCode_16 : decode cX1_nextCode 16 = .ok (.bipush 8, 2) := by decide +kernel
theorem dX1_nextCode_18 : decode cX1_nextCode 18 = .ok (.imul, 1) := by decide +kernel
theorem dX1_nextCode_19 : decode cX1_nextCode 19 = .ok (.if_icmp .le 5, 3) := by decide +kernel
theorem dX1_nextCode_22 : decode cX1_nextCode 22 = .ok (.iconst (-1), 1) := by decide +kernel
theorem dX1_nextCode_23 : decode cX1_nextCode 23 = .ok (.ireturn, 1) := by decide +kernel
theorem dX1_nextCode_24 : decode cX1_nextCode 24 = .ok (.aload_n 0, 1) := by decide +kernel
theorem dX1_nextCode_25 : decode cX1_nextCode 25 = .ok (.getfield 49, 3) := by decide +kernel
theorem dX1_nextCode_28 : decode cX1_nextCode 28 = .ok (.iconst 3, 1) := by decide +kernel
theorem dX1_nextCode_29 : decode cX1_nextCode 29 = .ok (.ishr, 1) := by decide +kernel
theorem dX1_nextCode_30 : decode cX1_nextCode 30 = .ok (.istore_n 1, 1) := by decide +kernel
theorem dX1_nextCode_31 : decode cX1_nextCode 31 = .ok (.aload_n 0, 1) := by decide +kernel
theorem dX1_nextCode_32 : decode cX1_nextCode 32 = .ok (.getfield 12, 3) := by decide +kernel
theorem dX1_nextCode_35 : decode cX1_nextCode 35 = .ok (.iload_n 1, 1) := by decide +kernel
theorem dX1_nextCode_36 : decode cX1_nextCode 36 = .ok (.invokevirtual 75, 3) := by decide +kernel
theorem dX1_nextCode_39 : decode cX1_nextCode 39 = .ok (.aload_n 0, 1) := by decide +kernel
theorem dX1_nextCode_40 : decode cX1_nextCode 40 = .ok (.getfield 12, 3) := by decide +kernel
theorem dX1_nextCode_43 : decode cX1_nextCode 43 = .ok (.iload_n 1, 1) := by decide +kernel
theorem dX1_nextCode_44 : decode cX1_nextCode 44 = .ok (.iconst 1, 1) := by decide +kernel
theorem dX1_nextCode_45 : decode cX1_nextCode 45 = .ok (.iadd, 1) := by decide +kernel
theorem dX1_nextCode_46 : decode cX1_nextCode 46 = .ok (.invokevirtual 75, 3) := by decide +kernel
theorem dX1_nextCode_49 : decode cX1_nextCode 49 = .ok (.iconst 0, 1) := by decide +kernel
theorem dX1_nextCode_50 : decode cX1_nextCode 50 = .ok (.invokestatic 79, 3) := by decide +kernel
theorem dX1_nextCode_53 : decode cX1_nextCode 53 = .ok (.bipush 8, 2) := by decide +kernel
theorem dX1_nextCode_55 : decode cX1_nextCode 55 = .ok (.ishl, 1) := by decide +kernel
theorem dX1_nextCode_56 : decode cX1_nextCode 56 = .ok (.ior, 1) := by decide +kernel
theorem dX1_nextCode_57 : decode cX1_nextCode 57 = .ok (.aload_n 0, 1) := by decide +kernel
theorem dX1_nextCode_58 : decode cX1_nextCode 58 = .ok (.getfield 12, 3) := by decide +kernel
theorem dX1_nextCode_61 : decode cX1_nextCode 61 = .ok (.iload_n 1, 1) := by decide +kernel
theorem dX1_nextCode_62 : decode cX1_nextCode 62 = .ok (.iconst 2, 1) := by decide +kernel
theorem dX1_nextCode_63 : decode cX1_nextCode 63 = .ok (.iadd, 1) := by decide +kernel
theorem dX1_nextCode_64 : decode cX1_nextCode 64 = .ok (.invokevirtual 75, 3) := by decide +kernel
theorem dX1_nextCode_67 : decode cX1_nextCode 67 = .ok (.iconst 0, 1) := by decide +kernel
theorem dX1_nextCode_68 : decode cX1_nextCode 68 = .ok (.invokestatic 79, 3) := by decide +kernel
theorem dX1_nextCode_71 : decode cX1_nextCode 71 = .ok (.bipush 16, 2) := by decide +kernel
theorem dX1_nextCode_73 : decode cX1_nextCode 73 = .ok (.ishl, 1) := by decide +kernel
theorem dX1_nextCode_74 : decode cX1_nextCode 74 = .ok (.ior, 1) := by decide +kernel
theorem dX1_nextCode_75 : decode cX1_nextCode 75 = .ok (.istore_n 2, 1) := by decide +kernel
theorem dX1_nextCode_76 : decode cX1_nextCode 76 = .ok (.iload_n 2, 1) := by decide +kernel
theorem dX1_nextCode_77 : decode cX1_nextCode 77 = .ok (.aload_n 0, 1) := by decide +kernel
theorem dX1_nextCode_78 : decode cX1_nextCode 78 = .ok (.getfield 49, 3) := by decide +kernel
theorem dX1_nextCode_81 : decode cX1_nextCode 81 = .ok (.bipush 7, 2) := by decide +kernel
theorem dX1_nextCode_83 : decode cX1_nextCode 83 = .ok (.iand, 1) := by decide +kernel
theorem dX1_nextCode_84 : decode cX1_nextCode 84 = .ok (.ishr, 1) := by decide +kernel
theorem dX1_nextCode_85 : decode cX1_nextCode 85 = .ok (.iconst 1, 1) := by decide +kernel
theorem dX1_nextCode_86 : decode cX1_nextCode 86 = .ok (.aload_n 0, 1) := by decide +kernel
theorem dX1_nextCode_87 : decode cX1_nextCode 87 = .ok (.getfield 66, 3) := by decide +kernel
theorem dX1_nextCode_90 : decode cX1_nextCode 90 = .ok (.ishl, 1) := by decide +kernel
theorem dX1_nextCode_91 : decode cX1_nextCode 91 = .ok (.iconst 1, 1) := by decide +kernel
theorem dX1_nextCode_92 : decode cX1_nextCode 92 = .ok (.isub, 1) := by decide +kernel
theorem dX1_nextCode_93 : decode cX1_nextCode 93 = .ok (.iand, 1) := by decide +kernel
theorem dX1_nextCode_94 : decode cX1_nextCode 94 = .ok (.istore_n 3, 1) := by decide +kernel
theorem dX1_nextCode_95 : decode cX1_nextCode 95 = .ok (.aload_n 0, 1) := by decide +kernel
theorem dX1_nextCode_96 : decode cX1_nextCode 96 = .ok (.dup, 1) := by decide +kernel
theorem dX1_nextCode_97 : decode cX1_nextCode 97 = .ok (.getfield 49, 3) := by decide +kernel
theorem dX1_nextCode_100 : decode cX1_nextCode 100 = .ok (.aload_n 0, 1) := by decide +kernel
theorem dX1_nextCode_101 : decode cX1_nextCode 101 = .ok (.getfield 66, 3) := by decide +kernel
theorem dX1_nextCode_104 : decode cX1_nextCode 104 = .ok (.iadd, 1) := by decide +kernel
theorem dX1_nextCode_105 : decode cX1_nextCode 105 = .ok (.putfield 49, 3) := by decide +kernel
theorem dX1_nextCode_108 : decode cX1_nextCode 108 = .ok (.iload_n 3, 1) := by decide +kernel
theorem dX1_nextCode_109 : decode cX1_nextCode 109 = .ok (.ireturn, 1) := by decide +kernel
theorem dX1_isKnown_0 : decode cX1_isKnown 0 = .ok (.aload_n 0, 1) := by decide +kernel
theorem dX1_isKnown_1 : decode cX1_isKnown 1 = .ok (.getfield 72, 3) := by decide +kernel
theorem dX1_isKnown_4 : decode cX1_isKnown 4 = .ok (.iconst (-1), 1) := by decide +kernel
theorem dX1_isKnown_5 : decode cX1_isKnown 5 = .ok (.if_icmp .eq 17, 3) := by decide +kernel
theorem dX1_isKnown_8 : decode cX1_isKnown 8 = .ok (.aload_n 0, 1) := by decide +kernel
theorem dX1_isKnown_9 : decode cX1_isKnown 9 = .ok (.getfield 69, 3) := by decide +kernel
theorem dX1_isKnown_12 : decode cX1_isKnown 12 = .ok (.sipush 4096, 3) := by decide +kernel
theorem dX1_isKnown_15 : decode cX1_isKnown 15 = .ok (.if_icmp .ge 7, 3) := by decide +kernel
theorem dX1_isKnown_18 : decode cX1_isKnown 18 = .ok (.iconst 1, 1) := by decide +kernel
theorem dX1_isKnown_19 : decode cX1_isKnown 19 = .ok (.goto 4, 3) := by decide +kernel
theorem dX1_isKnown_22 : decode cX1_isKnown 22 = .ok (.iconst 0, 1) := by decide +kernel
theorem dX1_isKnown_23 : decode cX1_isKnown 23 = .ok (.istore_n 2, 1) := by decide +kernel
theorem dX1_isKnown_24 : decode cX1_isKnown 24 = .ok (.iload_n 1, 1) := by decide +kernel
theorem dX1_isKnown_25 : decode cX1_isKnown 25 = .ok (.ifCond .lt 23, 3) := by decide +kernel
theorem dX1_isKnown_28 : decode cX1_isKnown 28 = .ok (.iload_n 1, 1) := by decide +kernel
theorem dX1_isKnown_29 : decode cX1_isKnown 29 = .ok (.aload_n 0, 1) := by decide +kernel
theorem dX1_isKnown_30 : decode cX1_isKnown 30 = .ok (.getfield 69, 3) := by decide +kernel
theorem dX1_isKnown_33 : decode cX1_isKnown 33 = .ok (.if_icmp .gt 15, 3) := by decide +kernel
theorem dX1_isKnown_36 : decode cX1_isKnown 36 = .ok (.iload_n 1, 1) := by decide +kernel
theorem dX1_isKnown_37 : decode cX1_isKnown 37 = .ok (.aload_n 0, 1) := by decide +kernel
theorem dX1_isKnown_38 : decode cX1_isKnown 38 = .ok (.getfield 69, 3) := by decide +kernel
theorem dX1_isKnown_41 : decode cX1_isKnown 41 = .ok (.if_icmp .ne 9, 3) := by decide +kernel
theorem dX1_isKnown_44 : decode cX1_isKnown 44 = .ok (.iload_n 2, 1) := by decide +kernel
theorem dX1_isKnown_45 : decode cX1_isKnown 45 = .ok (.ifCond .ne 5, 3) := by decide +kernel
theorem dX1_isKnown_48 : decode cX1_isKnown 48 = .ok (.iconst 0, 1) := by decide +kernel
theorem dX1_isKnown_49 : decode cX1_isKnown 49 = .ok (.ireturn, 1) := by decide +kernel
theorem dX1_isKnown_50 : decode cX1_isKnown 50 = .ok (.iload_n 2, 1) := by decide +kernel
theorem dX1_isKnown_51 : decode cX1_isKnown 51 = .ok (.ifCond .eq 28, 3) := by decide +kernel
theorem dX1_isKnown_54 : decode cX1_isKnown 54 = .ok (.aload_n 0, 1) := by decide +kernel
theorem dX1_isKnown_55 : decode cX1_isKnown 55 = .ok (.aload_n 0, 1) := by decide +kernel
theorem dX1_isKnown_56 : decode cX1_isKnown 56 = .ok (.getfield 25, 3) := by decide +kernel
theorem dX1_isKnown_59 : decode cX1_isKnown 59 = .ok (.iload_n 1, 1) := by decide +kernel
theorem dX1_isKnown_60 : decode cX1_isKnown 60 = .ok (.aload_n 0, 1) := by decide +kernel
theorem dX1_isKnown_61 : decode cX1_isKnown 61 = .ok (.getfield 69, 3) := by decide +kernel
theorem dX1_isKnown_64 : decode cX1_isKnown 64 = .ok (.if_icmp .ne 10, 3) := by decide +kernel
theorem dX1_isKnown_67 : decode cX1_isKnown 67 = .ok (.aload_n 0, 1) := by decide +kernel
theorem dX1_isKnown_68 : decode cX1_isKnown 68 = .ok (.getfield 72, 3) := by decide +kernel
theorem dX1_isKnown_71 : decode cX1_isKnown 71 = .ok (.goto 4, 3) := by decide +kernel
theorem dX1_isKnown_74 : decode cX1_isKnown 74 = .ok (.iload_n 1, 1) := by decide +kernel
theorem dX1_isKnown_75 : decode cX1_isKnown 75 = .ok (.iaload, 1) := by decide +kernel
theorem dX1_isKnown_76 : decode cX1_isKnown 76 = .ok (.invokevirtual 85, 3) := by decide +kernel
theorem dX1_isKnown_79 : decode cX1_isKnown 79 = .ok (.aload_n 0, 1) := by decide +kernel
theorem dX1_isKnown_80 : decode cX1_isKnown 80 = .ok (.iload_n 1, 1) := by decide +kernel
theorem dX1_isKnown_81 : decode cX1_isKnown 81 = .ok (.putfield 72, 3) := by decide +kernel
theorem dX1_isKnown_84 : decode cX1_isKnown 84 = .ok (.iconst 1, 1) := by decide +kernel
theorem dX1_isKnown_85 : decode cX1_isKnown 85 = .ok (.ireturn, 1) := by decide +kernel
theorem dX1_tell_0 : decode cX1_tell 0 = .ok (.aload_n 0, 1) := by decide +kernel
theorem dX1_tell_1 : decode cX1_tell 1 = .ok (.getfield 22, 3) := by decide +kernel
theorem dX1_tell_4 : decode cX1_tell 4 = .ok (.aload_n 0, 1) := by decide +kernel
theorem dX1_tell_5 : decode cX1_tell 5 = .ok (.getfield 69, 3) := by decide +kernel
theorem dX1_tell_8 : decode cX1_tell 8 = .ok (.aload_n 0, 1) := by decide +kernel
theorem dX1_tell_9 : decode cX1_tell 9 = .ok (.getfield 72, 3) := by decide +kernel
theorem dX1_tell_12 : decode cX1_tell 12 = .ok (.iastore, 1) := by decide +kernel
theorem dX1_tell_13 : decode cX1_tell 13 = .ok (.aload_n 0, 1) := by decide +kernel
theorem dX1_tell_14 : decode cX1_tell 14 = .ok (.getfield 25, 3) := by decide +kernel
theorem dX1_tell_17 : decode cX1_tell 17 = .ok (.aload_n 0, 1) := by decide +kernel
theorem dX1_tell_18 : decode cX1_tell 18 = .ok (.getfield 69, 3) := by decide +kernel
theorem dX1_tell_21 : decode cX1_tell 21 = .ok (.aload_n 0, 1) := by decide +kernel
theorem dX1_tell_22 : decode cX1_tell 22 = .ok (.getfield 25, 3) := by decide +kernel
theorem dX1_tell_25 : decode cX1_tell 25 = .ok (.aload_n 0, 1) := by decide +kernel
theorem dX1_tell_26 : decode cX1_tell 26 = .ok (.getfield 72, 3) := by decide +kernel
theorem dX1_tell_29 : decode cX1_tell 29 = .ok (.iaload, 1) := by decide +kernel
theorem dX1_tell_30 : decode cX1_tell 30 = .ok (.iastore, 1) := by decide +kernel
theorem dX1_tell_31 : decode cX1_tell 31 = .ok (.aload_n 0, 1) := by decide +kernel
theorem dX1_tell_32 : decode cX1_tell 32 = .ok (.getfield 28, 3) := by decide +kernel
theorem dX1_tell_35 : decode cX1_tell 35 = .ok (.aload_n 0, 1) := by decide +kernel
theorem dX1_tell_36 : decode cX1_tell 36 = .ok (.getfield 69, 3) := by decide +kernel
theorem dX1_tell_39 : decode cX1_tell 39 = .ok (.iload_n 1, 1) := by decide +kernel
theorem dX1_tell_40 : decode cX1_tell 40 = .ok (.iastore, 1) := by decide +kernel
theorem dX1_tell_41 : decode cX1_tell 41 = .ok (.aload_n 0, 1) := by decide +kernel
theorem dX1_tell_42 : decode cX1_tell 42 = .ok (.getfield 31, 3) := by decide +kernel
theorem dX1_tell_45 : decode cX1_tell 45 = .ok (.aload_n 0, 1) := by decide +kernel
theorem dX1_tell_46 : decode cX1_tell 46 = .ok (.getfield 69, 3) := by decide +kernel
theorem dX1_tell_49 : decode cX1_tell 49 = .ok (.aload_n 0, 1) := by decide +kernel
theorem dX1_tell_50 : decode cX1_tell 50 = .ok (.getfield 31, 3) := by decide +kernel
theorem dX1_tell_53 : decode cX1_tell 53 = .ok (.aload_n 0, 1) := by decide +kernel
theorem dX1_tell_54 : decode cX1_tell 54 = .ok (.getfield 72, 3) := by decide +kernel
theorem dX1_tell_57 : decode cX1_tell 57 = .ok (.iaload, 1) := by decide +kernel
theorem dX1_tell_58 : decode cX1_tell 58 = .ok (.iconst 1, 1) := by decide +kernel
theorem dX1_tell_59 : decode cX1_tell 59 = .ok (.iadd, 1) := by decide +kernel
theorem dX1_tell_60 : decode cX1_tell 60 = .ok (.iastore, 1) := by decide +kernel
theorem dX1_tell_61 : decode cX1_tell 61 = .ok (.aload_n 0, 1) := by decide +kernel
theorem dX1_tell_62 : decode cX1_tell 62 = .ok (.dup, 1) := by decide +kernel
theorem dX1_tell_63 : decode cX1_tell 63 = .ok (.getfield 69, 3) := by decide +kernel
theorem dX1_tell_66 : decode cX1_tell 66 = .ok (.iconst 1, 1) := by decide +kernel
theorem dX1_tell_67 : decode cX1_tell 67 = .ok (.iadd, 1) := by decide +kernel
theorem dX1_tell_68 : decode cX1_tell 68 = .ok (.putfield 69, 3) := by decide +kernel
theorem dX1_tell_71 : decode cX1_tell 71 = .ok (.aload_n 0, 1) := by decide +kernel
theorem dX1_tell_72 : decode cX1_tell 72 = .ok (.getfield 69, 3) := by decide +kernel
theorem dX1_tell_75 : decode cX1_tell 75 = .ok (.iconst 1, 1) := by decide +kernel
theorem dX1_tell_76 : decode cX1_tell 76 = .ok (.aload_n 0, 1) := by decide +kernel
theorem dX1_tell_77 : decode cX1_tell 77 = .ok (.getfield 66, 3) := by decide +kernel
theorem dX1_tell_80 : decode cX1_tell 80 = .ok (.ishl, 1) := by decide +kernel
theorem dX1_tell_81 : decode cX1_tell 81 = .ok (.if_icmp .ne 22, 3) := by decide +kernel
theorem dX1_tell_84 : decode cX1_tell 84 = .ok (.aload_n 0, 1) := by decide +kernel
theorem dX1_tell_85 : decode cX1_tell 85 = .ok (.getfield 66, 3) := by decide +kernel
theorem dX1_tell_88 : decode cX1_tell 88 = .ok (.bipush 12, 2) := by decide +kernel
theorem dX1_tell_90 : decode cX1_tell 90 = .ok (.if_icmp .ge 13, 3) := by decide +kernel
theorem dX1_tell_93 : decode cX1_tell 93 = .ok (.aload_n 0, 1) := by decide +kernel
theorem dX1_tell_94 : decode cX1_tell 94 = .ok (.dup, 1) := by decide +kernel
theorem dX1_tell_95 : decode cX1_tell 95 = .ok (.getfield 66, 3) := by decide +kernel
theorem dX1_tell_98 : decode cX1_tell 98 = .ok (.iconst 1, 1) := by decide +kernel
theorem dX1_tell_99 : decode cX1_tell 99 = .ok (.iadd, 1) := by decide +kernel
theorem dX1_tell_100 : decode cX1_tell 100 = .ok (.putfield 66, 3) := by decide +kernel
theorem dX1_tell_103 : decode cX1_tell 103 = .ok (.return_, 1) := by decide +kernel
theorem dX1_putOut_0 : decode cX1_putOut 0 = .ok (.aload_n 0, 1) := by decide +kernel
theorem dX1_putOut_1 : decode cX1_putOut 1 = .ok (.getfield 31, 3) := by decide +kernel
theorem dX1_putOut_4 : decode cX1_putOut 4 = .ok (.iload_n 1, 1) := by decide +kernel
theorem dX1_putOut_5 : decode cX1_putOut 5 = .ok (.iaload, 1) := by decide +kernel
theorem dX1_putOut_6 : decode cX1_putOut 6 = .ok (.istore 4, 2) := by decide +kernel
theorem dX1_putOut_8 : decode cX1_putOut 8 = .ok (.iload 4, 2) := by decide +kernel
theorem dX1_putOut_10 : decode cX1_putOut 10 = .ok (.iload_n 2, 1) := by decide +kernel
theorem dX1_putOut_11 : decode cX1_putOut 11 = .ok (.aload_n 0, 1) := by decide +kernel
theorem dX1_putOut_12 : decode cX1_putOut 12 = .ok (.getfield 46, 3) := by decide +kernel
theorem dX1_putOut_15 : decode cX1_putOut 15 = .ok (.isub, 1) := by decide +kernel
theorem dX1_putOut_16 : decode cX1_putOut 16 = .ok (.if_icmp .le 5, 3) := by decide +kernel
theorem dX1_putOut_19 : decode cX1_putOut 19 = .ok (.iconst 0, 1) := by decide +kernel
theorem dX1_putOut_20 : decode cX1_putOut 20 = .ok (.ireturn, 1) := by decide +kernel
theorem dX1_putOut_21 : decode cX1_putOut 21 = .ok (.iload_n 1, 1) := by decide +kernel
theorem dX1_putOut_22 : decode cX1_putOut 22 = .ok (.istore 5, 2) := by decide +kernel
theorem dX1_putOut_24 : decode cX1_putOut 24 = .ok (.iload 4, 2) := by decide +kernel
theorem dX1_putOut_26 : decode cX1_putOut 26 = .ok (.iconst 1, 1) := by decide +kernel
theorem dX1_putOut_27 : decode cX1_putOut 27 = .ok (.isub, 1) := by decide +kernel
theorem dX1_putOut_28 : decode cX1_putOut 28 = .ok (.istore 6, 2) := by decide +kernel
theorem dX1_putOut_30 : decode cX1_putOut 30 = .ok (.iload 6, 2) := by decide +kernel
theorem dX1_putOut_32 : decode cX1_putOut 32 = .ok (.ifCond .lt 60, 3) := by decide +kernel
theorem dX1_putOut_35 : decode cX1_putOut 35 = .ok (.aload_n 0, 1) := by decide +kernel
theorem dX1_putOut_36 : decode cX1_putOut 36 = .ok (.getfield 28, 3) := by decide +kernel
theorem dX1_putOut_39 : decode cX1_putOut 39 = .ok (.iload 5, 2) := by decide +kernel
theorem dX1_putOut_41 : decode cX1_putOut 41 = .ok (.iaload, 1) := by decide +kernel
theorem dX1_putOut_42 : decode cX1_putOut 42 = .ok (.iload_n 3, 1) := by decide +kernel
theorem dX1_putOut_43 : decode cX1_putOut 43 = .ok (.if_icmp .lt 5, 3) := by decide +kernel
theorem dX1_putOut_46 : decode cX1_putOut 46 = .ok (.iconst 0, 1) := by decide +kernel
theorem dX1_putOut_47 : decode cX1_putOut 47 = .ok (.ireturn, 1) := by decide +kernel
theorem dX1_putOut_48 : decode cX1_putOut 48 = .ok (.aload_n 0, 1) := by decide +kernel
theorem dX1_putOut_49 : decode cX1_putOut 49 = .ok (.getfield 18, 3) := by decide +kernel
theorem dX1_putOut_52 : decode cX1_putOut 52 = .ok (.aload_n 0, 1) := by decide +kernel
theorem dX1_putOut_53 : decode cX1_putOut 53 = .ok (.getfield 46, 3) := by decide +kernel
theorem dX1_putOut_56 : decode cX1_putOut 56 = .ok (.iload 6, 2) := by decide +kernel
theorem dX1_putOut_58 : decode cX1_putOut 58 = .ok (.iadd, 1) := by decide +kernel
theorem dX1_putOut_59 : decode cX1_putOut 59 = .ok (.aload_n 0, 1) := by decide +kernel
theorem dX1_putOut_60 : decode cX1_putOut 60 = .ok (.getfield 28, 3) := by decide +kernel
theorem dX1_putOut_63 : decode cX1_putOut 63 = .ok (.iload 5, 2) := by decide +kernel
theorem dX1_putOut_65 : decode cX1_putOut 65 = .ok (.iaload, 1) := by decide +kernel
theorem dX1_putOut_66 : decode cX1_putOut 66 = .ok (.iastore, 1) := by decide +kernel
theorem dX1_putOut_67 : decode cX1_putOut 67 = .ok (.iload 6, 2) := by decide +kernel
theorem dX1_putOut_69 : decode cX1_putOut 69 = .ok (.ifCond .le 13, 3) := by decide +kernel
theorem dX1_putOut_72 : decode cX1_putOut 72 = .ok (.aload_n 0, 1) := by decide +kernel
theorem dX1_putOut_73 : decode cX1_putOut 73 = .ok (.getfield 22, 3) := by decide +kernel
theorem dX1_putOut_76 : decode cX1_putOut 76 = .ok (.iload 5, 2) := by decide +kernel
theorem dX1_putOut_78 : decode cX1_putOut 78 = .ok (.iaload, 1) := by decide +kernel
theorem dX1_putOut_79 : decode cX1_putOut 79 = .ok (.goto 5, 3) := by decide +kernel
theorem dX1_putOut_82 : decode cX1_putOut 82 = .ok (.iload 5, 2) := by decide +kernel
theorem dX1_putOut_84 : decode cX1_putOut 84 = .ok (.istore 5, 2) := by decide +kernel
theorem dX1_putOut_86 : decode cX1_putOut 86 = .ok (.iinc 6 (-1), 3) := by decide +kernel
theorem dX1_putOut_89 : decode cX1_putOut 89 = .ok (.goto (-59), 3) := by decide +kernel
theorem dX1_putOut_92 : decode cX1_putOut 92 = .ok (.aload_n 0, 1) := by decide +kernel
theorem dX1_putOut_93 : decode cX1_putOut 93 = .ok (.dup, 1) := by decide +kernel
theorem dX1_putOut_94 : decode cX1_putOut 94 = .ok (.getfield 46, 3) := by decide +kernel
theorem dX1_putOut_97 : decode cX1_putOut 97 = .ok (.iload 4, 2) := by decide +kernel
theorem dX1_putOut_99 : decode cX1_putOut 99 = .ok (.iadd, 1) := by decide +kernel
theorem dX1_putOut_100 : decode cX1_putOut 100 = .ok (.putfield 46, 3) := by decide +kernel
theorem dX1_putOut_103 : decode cX1_putOut 103 = .ok (.iconst 1, 1) := by decide +kernel
theorem dX1_putOut_104 : decode cX1_putOut 104 = .ok (.ireturn, 1) := by decide +kernel
theorem dX2_init_0 : decode cX2_init 0 = .ok (.aload_n 0, 1) := by decide +kernel
theorem dX2_init_1 : decode cX2_init 1 = .ok (.invokespecial 3, 3) := by decide +kernel
theorem dX2_init_4 : decode cX2_init 4 = .ok (.aload_n 0, 1) := by decide +kernel
theorem dX2_init_5 : decode cX2_init 5 = .ok (.new 9, 3) := by decide +kernel
theorem dX2_init_8 : decode cX2_init 8 = .ok (.dup, 1) := by decide +kernel
theorem dX2_init_9 : decode cX2_init 9 = .ok (.invokespecial 11, 3) := by decide +kernel
theorem dX2_init_12 : decode cX2_init 12 = .ok (.putfield 12, 3) := by decide +kernel
theorem dX2_init_15 : decode cX2_init 15 = .ok (.aload_n 0, 1) := by decide +kernel
theorem dX2_init_16 : decode cX2_init 16 = .ok (.sipush 4096, 3) := by decide +kernel
theorem dX2_init_19 : decode cX2_init 19 = .ok (.newarray .int, 2) := by decide +kernel
theorem dX2_init_21 : decode cX2_init 21 = .ok (.putfield 18, 3) := by decide +kernel
theorem dX2_init_24 : decode cX2_init 24 = .ok (.aload_n 0, 1) := by decide +kernel
theorem dX2_init_25 : decode cX2_init 25 = .ok (.sipush 4096, 3) := by decide +kernel
theorem dX2_init_28 : decode cX2_init 28 = .ok (.newarray .int, 2) := by decide +kernel
theorem dX2_init_30 : decode cX2_init 30 = .ok (.putfield 22, 3) := by decide +kernel
theorem dX2_init_33 : decode cX2_init 33 = .ok (.aload_n 0, 1) := by decide +kernel
theorem dX2_init_34 : decode cX2_init 34 = .ok (.sipush 4096, 3) := by decide +kernel
theorem dX2_init_37 : decode cX2_init 37 = .ok (.newarray .int, 2) := by decide +kernel
theorem dX2_init_39 : decode cX2_init 39 = .ok (.putfield 25, 3) := by decide +kernel
theorem dX2_init_42 : decode cX2_init 42 = .ok (.aload_n 0, 1) := by decide +kernel
theorem dX2_init_43 : decode cX2_init 43 = .ok (.sipush 4096, 3) := by decide +kernel
theorem dX2_init_46 : decode cX2_init 46 = .ok (.newarray .int, 2) := by decide +kernel
theorem dX2_init_48 : decode cX2_init 48 = .ok (.putfield 28, 3) := by decide +kernel
theorem dX2_init_51 : decode cX2_init 51 = .ok (.return_, 1) := by decide +kernel
theorem dX2_encode_0 : decode cX2_encode 0 = .ok (.aload_n 0, 1) := by decide +kernel
theorem dX2_encode_1 : decode cX2_encode 1 = .ok (.iload_n 2, 1) := by decide +kernel
theorem dX2_encode_2 : decode cX2_encode 2 = .ok (.putfield 31, 3) := by decide +kernel
theorem dX2_encode_5 : decode cX2_encode 5 = .ok (.aload_n 0, 1) := by decide +kernel
theorem dX2_encode_6 : decode cX2_encode 6 = .ok (.getfield 12, 3) := by decide +kernel
theorem dX2_encode_9 : decode cX2_encode 9 = .ok (.invokevirtual 35, 3) := by decide +kernel
theorem dX2_encode_12 : decode cX2_encode 12 = .ok (.aload_n 0, 1) := by decide +kernel
theorem dX2_encode_13 : decode cX2_encode 13 = .ok (.iconst 0, 1) := by decide +kernel
theorem dX2_encode_14 : decode cX2_encode 14 = .ok (.putfield 38, 3) := by decide +kernel
theorem dX2_encode_17 : decode cX2_encode 17 = .ok (.aload_n 0, 1) := by decide +kernel
theorem dX2_encode_18 : decode cX2_encode 18 = .ok (.iconst 0, 1) := by decide +kernel
theorem dX2_encode_19 : decode cX2_encode 19 = .ok (.putfield 41, 3) := by decide +kernel
theorem dX2_encode_22 : decode cX2_encode 22 = .ok (.aload_n 0, 1) := by decide +kernel
theorem dX2_encode_23 : decode cX2_encode 23 = .ok (.iconst 0, 1) := by decide +kernel
theorem dX2_encode_24 : decode cX2_encode 24 = .ok (.putfield 44, 3) := by decide +kernel
theorem dX2_encode_27 : decode cX2_encode 27 = .ok (.aload_n 0, 1) := by decide +kernel
theorem dX2_encode_28 : decode cX2_encode 28 = .ok (.aload_n 0, 1) := by decide +kernel
theorem dX2_encode_29 : decode cX2_encode 29 = .ok (.getfield 31, 3) := by decide +kernel
theorem dX2_encode_32 : decode cX2_encode 32 = .ok (.iconst 1, 1) := by decide +kernel
theorem dX2_encode_33 : decode cX2_encode 33 = .ok (.iadd, 1) := by decide +kernel
theorem dX2_encode_34 : decode cX2_encode 34 = .ok (.invokevirtual 47, 3) := by decide +kernel
theorem dX2_encode_37 : decode cX2_encode 37 = .ok (.iconst 0, 1) := by decide +kernel
theorem dX2_encode_38 : decode cX2_encode 38 = .ok (.istore_n 3, 1) := by decide +kernel
theorem dX2_encode_39 : decode cX2_encode 39 = .ok (.iload_n 3, 1) := by decide +kernel
theorem dX2_encode_40 : decode cX2_encode 40 = .ok (.iload_n 1, 1) := by decide +kernel
theorem dX2_encode_41 : decode cX2_encode 41 = .ok (.if_icmp .ge 40, 3) := by decide +kernel
theorem dX2_encode_44 : decode cX2_encode 44 = .ok (.aload_n 0, 1) := by decide +kernel
theorem dX2_encode_45 : decode cX2_encode 45 = .ok (.getfield 44, 3) := by decide +kernel
theorem dX2_encode_48 : decode cX2_encode 48 = .ok (.iload_n 1, 1) := by decide +kernel
theorem dX2_encode_49 : decode cX2_encode 49 = .ok (.if_icmp .ge 32, 3) := by decide +kernel
theorem dX2_encode_52 : decode cX2_encode 52 = .ok (.aload_n 0, 1) := by decide +kernel
theorem dX2_encode_53 : decode cX2_encode 53 = .ok (.getfield 51, 3) := by decide +kernel
theorem dX2_encode_56 : decode cX2_encode 56 = .ok (.sipush 4096, 3) := by decide +kernel
theorem dX2_encode_59 : decode cX2_encode 59 = .ok (.if_icmp .ne 11, 3) := by decide +kernel
theorem dX2_encode_62 : decode cX2_encode 62 = .ok (.aload_n 0, 1) := by decide +kernel
theorem dX2_encode_63 : decode cX2_encode 63 = .ok (.aload_n 0, 1) := by decide +kernel
theorem dX2_encode_64 : decode cX2_encode 64 = .ok (.getfield 54, 3) := by decide +kernel
theorem dX2_encode_67 : decode cX2_encode 67 = .ok (.invokevirtual 47, 3) := by decide +kernel
theorem dX2_encode_70 : decode cX2_encode 70 = .ok (.aload_n 0, 1) := by decide +kernel
theorem dX2_encode_71 : decode cX2_encode 71 = .ok (.iload_n 1, 1) := by decide +kernel
theorem dX2_encode_72 : decode cX2_encode 72 = .ok (.invokevirtual 57, 3) := by decide +kernel
theorem dX2_encode_75 : decode cX2_encode 75 = .ok (.iinc 3 1, 3) := by decide +kernel
theorem dX2_encode_78 : decode cX2_encode 78 = .ok (.goto (-39), 3) := by decide +kernel
theorem dX2_encode_81 : decode cX2_encode 81 = .ok (.aload_n 0, 1) := by decide +kernel
theorem dX2_encode_82 : decode cX2_encode 82 = .ok (.iconst 1, 1) := by decide +kernel
theorem dX2_encode_83 : decode cX2_encode 83 = .ok (.aload_n 0, 1) := by decide +kernel
theorem dX2_encode_84 : decode cX2_encode 84 = .ok (.getfield 31, 3) := by decide +kernel
theorem dX2_encode_87 : decode cX2_encode 87 = .ok (.ishl, 1) := by decide +kernel
theorem dX2_encode_88 : decode cX2_encode 88 = .ok (.iconst 1, 1) := by decide +kernel
theorem dX2_encode_89 : decode cX2_encode 89 = .ok (.iadd, 1) := by decide +kernel
theorem dX2_encode_90 : decode cX2_encode 90 = .ok (.aload_n 0, 1) := by decide +kernel
theorem dX2_encode_91 : decode cX2_encode 91 = .ok (.getfield 54, 3) := by decide +kernel
theorem dX2_encode_94 : decode cX2_encode 94 = .ok (.invokevirtual 60, 3) := by decide +kernel
theorem dX2_encode_97 : decode cX2_encode 97 = .ok (.aload_n 0, 1) := by decide +kernel
theorem dX2_encode_98 : decode cX2_encode 98 = .ok (.getfield 41, 3) := by decide +kernel
theorem dX2_encode_101 : decode cX2_encode 101 = .ok (.ifCond .le 14, 3) := by decide +kernel
theorem dX2_encode_104 : decode cX2_encode 104 = .ok (.aload_n 0, 1) := by decide +kernel
theorem dX2_encode_105 : decode cX2_encode 105 = .ok (.getfield 12, 3) := by decide +kernel
theorem dX2_encode_108 : decode cX2_encode 108 = .ok (.aload_n 0, 1) := by decide +kernel
theorem dX2_encode_109 : decode cX2_encode 109 = .ok (.getfield 38, 3) := by decide +kernel
theorem dX2_encode_112 : decode cX2_encode 112 = .ok (.invokevirtual 64, 3) := by decide +kernel
theorem dX2_encode_115 : decode cX2_encode 115 = .ok (.return_, 1) := by decide +kernel
theorem dX2_putClear_0 : decode cX2_putClear 0 = .ok (.iconst 1, 1) := by decide +kernel
theorem dX2_putClear_1 : decode cX2_putClear 1 = .ok (.aload_n 0, 1) := by decide +kernel
theorem dX2_putClear_2 : decode cX2_putClear 2 = .ok (.getfield 31, 3) := by decide +kernel
theorem dX2_putClear_5 : decode cX2_putClear 5 = .ok (.ishl, 1) := by decide +kernel
theorem dX2_putClear_6 : decode cX2_putClear 6 = .ok (.istore_n 2, 1) := by decide +kernel
theorem dX2_putClear_7 : decode cX2_putClear 7 = .ok (.aload_n 0, 1) := by decide +kernel
theorem dX2_putClear_8 : decode cX2_putClear 8 = .ok (.iload_n 2, 1) := by decide +kernel
theorem dX2_putClear_9 : decode cX2_putClear 9 = .ok (.iload_n 1, 1) := by decide +kernel
theorem dX2_putClear_10 : decode cX2_putClear 10 = .ok (.invokevirtual 60, 3) := by decide +kernel
theorem dX2_putClear_13 : decode cX2_putClear 13 = .ok (.iconst 0, 1) := by decide +kernel
theorem dX2_putClear_14 : decode cX2_putClear 14 = .ok (.istore_n 3, 1) := by decide +kernel
theorem dX2_putClear_15 : decode cX2_putClear 15 = .ok (.iload_n 3, 1) := by decide +kernel
theorem dX2_putClear_16 : decode cX2_putClear 16 = .ok (.iload_n 2, 1) := by decide +kernel
theorem dX2_putClear_17 : decode cX2_putClear 17 = .ok (.if_icmp .ge 16, 3) := by decide +kernel
theorem dX2_putClear_20 : decode cX2_putClear 20 = .ok (.aload_n 0, 1) := by decide +kernel
theorem dX2_putClear_21 : decode cX2_putClear 21 = .ok (.getfield 22, 3) := by decide +kernel
theorem dX2_putClear_24 : decode cX2_putClear 24 = .ok (.iload_n 3, 1) := by decide +kernel
theorem dX2_putClear_25 : decode cX2_putClear 25 = .ok (.iconst (-1), 1) := by decide +kernel
theorem dX2_putClear_26 : decode cX2_putClear 26 = .ok (.iastore, 1) := by decide +kernel
theorem dX2_putClear_27 : decode cX2_putClear 27 = .ok (.iinc 3 1, 3) := by decide +kernel
theorem dX2_putClear_30 : decode cX2_putClear 30 = .ok (.goto (-15), 3) := by decide +kernel
theorem dX2_putClear_33 : decode cX2_putClear 33 = .ok (.aload_n 0, 1) := by decide +kernel
theorem dX2_putClear_34 : decode cX2_putClear 34 = .ok (.aload_n 0, 1) := by decide +kernel
theorem dX2_putClear_35 : decode cX2_putClear 35 = .ok (.getfield 31, 3) := by decide +kernel
theorem dX2_putClear_38 : decode cX2_putClear 38 = .ok (.iconst 1, 1) := by decide +kernel
theorem dX2_putClear_39 : decode cX2_putClear 39 = .ok (.iadd, 1) := by decide +kernel
theorem dX2_putClear_40 : decode cX2_putClear 40 = .ok (.putfield 54, 3) := by decide +kernel
theorem dX2_putClear_43 : decode cX2_putClear 43 = .ok (.aload_n 0, 1) := by decide +kernel
theorem dX2_putClear_44 : decode cX2_putClear 44 = .ok (.iload_n 2, 1) := by decide +kernel
theorem dX2_putClear_45 : decode cX2_putClear 45 = .ok (.iconst 2, 1) := by decide +kernel
theorem dX2_putClear_46 : decode cX2_putClear 46 = .ok (.iadd, 1) := by decide +kernel
theorem dX2_putClear_47 : decode cX2_putClear 47 = .ok (.putfield 51, 3) := by decide +kernel
theorem dX2_putClear_50 : decode cX2_putClear 50 = .ok (.aload_n 0, 1) := by decide +kernel
theorem dX2_putClear_51 : decode cX2_putClear 51 = .ok (.iconst (-1), 1) := by decide +kernel
theorem dX2_putClear_52 : decode cX2_putClear 52 = .ok (.putfield 67, 3) := by decide +kernel
theorem dX2_putClear_55 : decode cX2_putClear 55 = .ok (.return_, 1) := by decide +kernel
theorem dX2_putLongest_0 : decode cX2_putLongest 0 = .ok (.aload_n 0, 1) := by decide +kernel
theorem dX2_putLongest_1 : decode cX2_putLongest 1 = .ok (.getfield 67, 3) := by decide +kernel
theorem dX2_putLongest_4 : decode cX2_putLongest 4 = .ok (.iconst (-1), 1) := by decide +kernel
theorem dX2_putLongest_5 : decode cX2_putLongest 5 = .ok (.if_icmp .eq 7, 3) := by decide +kernel
theorem dX2_putLongest_8 : decode cX2_putLongest 8 = .ok (.iconst 1, 1) := by decide +kernel
theorem dX2_putLongest_9 : decode cX2_putLongest 9 = .ok (.goto 4, 3) := by decide +kernel
theorem dX2_putLongest_12 : decode cX2_putLongest 12 = .ok (.iconst 0, 1) := by decide +kernel
theorem dX2_putLongest_13 : decode cX2_putLongest 13 = .ok (.istore_n 2, 1) := by decide +kernel
theorem dX2_putLongest_14 : decode cX2_putLongest 14 = .ok (.iload_n 2, 1) := by decide +kernel
theorem dX2_putLongest_15 : decode cX2_putLongest 15 = .ok (.ifCond .eq 16, 3) := by decide +kernel
theorem dX2_putLongest_18 : decode cX2_putLongest 18 = .ok (.aload_n 0, 1) := by decide +kernel
theorem dX2_putLongest_19 : decode cX2_putLongest 19 = .ok (.aload_n 0, 1) := by decide +kernel
theorem dX2_putLongest_20 : decode cX2_putLongest 20 = .ok (.getfield 18, 3) := by decide +kernel
theorem dX2_putLongest_23 : decode cX2_putLongest 23 = .ok (.aload_n 0, 1) := by decide +kernel
theorem dX2_putLongest_24 : decode cX2_putLongest 24 = .ok (.getfield 44, 3) := by decide +kernel
theorem dX2_putLongest_27 : decode cX2_putLongest 27 = .ok (.iaload, 1) := by decide +kernel
theorem dX2_putLongest_28 : decode cX2_putLongest 28 = .ok (.invokevirtual 70, 3) := by decide +kernel
theorem dX2_putLongest_31 : decode cX2_putLongest 31 = .ok (.aload_n 0, 1) := by decide +kernel
theorem dX2_putLongest_32 : decode cX2_putLongest 32 = .ok (.aload_n 0, 1) := by decide +kernel
theorem dX2_putLongest_33 : decode cX2_putLongest 33 = .ok (.iload_n 1, 1) := by decide +kernel
theorem dX2_putLongest_34 : decode cX2_putLongest 34 = .ok (.invokevirtual 73, 3) := by decide +kernel
theorem dX2_putLongest_37 : decode cX2_putLongest 37 = .ok (.putfield 67, 3) := by decide +kernel
theorem dX2_putLongest_40 : decode cX2_putLongest 40 = .ok (.aload_n 0, 1) := by decide +kernel
theorem dX2_putLongest_41 : decode cX2_putLongest 41 = .ok (.aload_n 0, 1) := by decide +kernel
theorem dX2_putLongest_42 : decode cX2_putLongest 42 = .ok (.getfield 67, 3) := by decide +kernel
theorem dX2_putLongest_45 : decode cX2_putLongest 45 = .ok (.aload_n 0, 1) := by decide +kernel
theorem dX2_putLongest_46 : decode cX2_putLongest 46 = .ok (.getfield 54, 3) := by decide +kernel
theorem dX2_putLongest_49 : decode cX2_putLongest 49 = .ok (.invokevirtual 60, 3) := by decide +kernel
theorem dX2_putLongest_52 : decode cX2_putLongest 52 = .ok (.iload_n 2, 1) := by decide +kernel
theorem dX2_putLongest_53 : decode cX2_putLongest 53 = .ok (.ifCond .eq 45, 3) := by decide +kernel
theorem dX2_putLongest_56 : decode cX2_putLongest 56 = .ok (.aload_n 0, 1) := by decide +kernel
theorem dX2_putLongest_57 : decode cX2_putLongest 57 = .ok (.dup, 1) := by decide +kernel
theorem dX2_putLongest_58 : decode cX2_putLongest 58 = .ok (.getfield 51, 3) := by decide +kernel
theorem dX2_putLongest_61 : decode cX2_putLongest 61 = .ok (.iconst 1, 1) := by decide +kernel
theorem dX2_putLongest_62 : decode cX2_putLongest 62 = .ok (.iadd, 1) := by decide +kernel
theorem dX2_putLongest_63 : decode cX2_putLongest 63 = .ok (.putfield 51, 3) := by decide +kernel
theorem dX2_putLongest_66 : decode cX2_putLongest 66 = .ok (.aload_n 0, 1) := by decide +kernel
theorem dX2_putLongest_67 : decode cX2_putLongest 67 = .ok (.getfield 51, 3) := by decide +kernel
theorem dX2_putLongest_70 : decode cX2_putLongest 70 = .ok (.iconst 1, 1) := by decide +kernel
theorem dX2_putLongest_71 : decode cX2_putLongest 71 = .ok (.aload_n 0, 1) := by decide +kernel
theorem dX2_putLongest_72 : decode cX2_putLongest 72 = .ok (.getfield 54, 3) := by decide +kernel
theorem dX2_putLongest_75 : decode cX2_putLongest 75 = .ok (.ishl, 1) := by decide +kernel
theorem dX2_putLongest_76 : decode cX2_putLongest 76 = .ok (.if_icmp .ne 22, 3) := by decide +kernel
theorem dX2_putLongest_79 : decode cX2_putLongest 79 = .ok (.aload_n 0, 1) := by decide +kernel
theorem dX2_putLongest_80 : decode cX2_putLongest 80 = .ok (.getfield 54, 3) := by decide +kernel
theorem dX2_putLongest_83 : decode cX2_putLongest 83 = .ok (.bipush 12, 2) := by decide +kernel
theorem dX2_putLongest_85 : decode cX2_putLongest 85 = .ok (.if_icmp .ge 13, 3) := by decide +kernel
theorem dX2_putLongest_88 : decode cX2_putLongest 88 = .ok (.aload_n 0, 1) := by decide +kernel
theorem dX2_putLongest_89 : decode cX2_putLongest 89 = .ok (.dup, 1) := by decide +kernel
theorem dX2_putLongest_90 : decode cX2_putLongest 90 = .ok (.getfield 54, 3) := by decide +kernel
theorem dX2_putLongest_93 : decode cX2_putLongest 93 = .ok (.iconst 1, 1) := by decide +kernel
theorem dX2_putLongest_94 : decode cX2_putLongest 94 = .ok (.iadd, 1) := by decide +kernel
theorem dX2_putLongest_95 : decode cX2_putLongest 95 = .ok (.putfield 54, 3) := by decide +kernel
theorem dX2_putLongest_98 : decode cX2_putLongest 98 = .ok (.return_, 1) := by decide +kernel
theorem dX2_tell_0 : decode cX2_tell 0 = .ok (.aload_n 0, 1) := by decide +kernel
theorem dX2_tell_1 : decode cX2_tell 1 = .ok (.getfield 28, 3) := by decide +kernel
theorem dX2_tell_4 : decode cX2_tell 4 = .ok (.aload_n 0, 1) := by decide +kernel
theorem dX2_tell_5 : decode cX2_tell 5 = .ok (.getfield 51, 3) := by decide +kernel
theorem dX2_tell_8 : decode cX2_tell 8 = .ok (.iload_n 1, 1) := by decide +kernel
theorem dX2_tell_9 : decode cX2_tell 9 = .ok (.iastore, 1) := by decide +kernel
theorem dX2_tell_10 : decode cX2_tell 10 = .ok (.aload_n 0, 1) := by decide +kernel
theorem dX2_tell_11 : decode cX2_tell 11 = .ok (.getfield 22, 3) := by decide +kernel
theorem dX2_tell_14 : decode cX2_tell 14 = .ok (.aload_n 0, 1) := by decide +kernel
theorem dX2_tell_15 : decode cX2_tell 15 = .ok (.getfield 51, 3) := by decide +kernel
theorem dX2_tell_18 : decode cX2_tell 18 = .ok (.iconst (-1), 1) := by decide +kernel
theorem dX2_tell_19 : decode cX2_tell 19 = .ok (.iastore, 1) := by decide +kernel
theorem dX2_tell_20 : decode cX2_tell 20 = .ok (.aload_n 0, 1) := by decide +kernel
theorem dX2_tell_21 : decode cX2_tell 21 = .ok (.getfield 25, 3) := by decide +kernel
theorem dX2_tell_24 : decode cX2_tell 24 = .ok (.aload_n 0, 1) := by decide +kernel
theorem dX2_tell_25 : decode cX2_tell 25 = .ok (.getfield 51, 3) := by decide +kernel
theorem dX2_tell_28 : decode cX2_tell 28 = .ok (.aload_n 0, 1) := by decide +kernel
theorem dX2_tell_29 : decode cX2_tell 29 = .ok (.getfield 22, 3) := by decide +kernel
theorem dX2_tell_32 : decode cX2_tell 32 = .ok (.aload_n 0, 1) := by decide +kernel
theorem dX2_tell_33 : decode cX2_tell 33 = .ok (.getfield 67, 3) := by decide +kernel
theorem dX2_tell_36 : decode cX2_tell 36 = .ok (.iaload, 1) := by decide +kernel
theorem dX2_tell_37 : decode cX2_tell 37 = .ok (.iastore, 1) := by decide +kernel
theorem dX2_tell_38 : decode cX2_tell 38 = .ok (.aload_n 0, 1) := by decide +kernel
theorem dX2_tell_39 : decode cX2_tell 39 = .ok (.getfield 22, 3) := by decide +kernel
theorem dX2_tell_42 : decode cX2_tell 42 = .ok (.aload_n 0, 1) := by decide +kernel
theorem dX2_tell_43 : decode cX2_tell 43 = .ok (.getfield 67, 3) := by decide +kernel
theorem dX2_tell_46 : decode cX2_tell 46 = .ok (.aload_n 0, 1) := by decide +kernel
theorem dX2_tell_47 : decode cX2_tell 47 = .ok (.getfield 51, 3) := by decide +kernel
theorem dX2_tell_50 : decode cX2_tell 50 = .ok (.iastore, 1) := by decide +kernel
theorem dX2_tell_51 : decode cX2_tell 51 = .ok (.return_, 1) := by decide +kernel
theorem dX2_longest_0 : decode cX2_longest 0 = .ok (.aload_n 0, 1) := by decide +kernel
theorem dX2_longest_1 : decode cX2_longest 1 = .ok (.getfield 18, 3) := by decide +kernel
theorem dX2_longest_4 : decode cX2_longest 4 = .ok (.aload_n 0, 1) := by decide +kernel
theorem dX2_longest_5 : decode cX2_longest 5 = .ok (.getfield 44, 3) := by decide +kernel
theorem dX2_longest_8 : decode cX2_longest 8 = .ok (.iaload, 1) := by decide +kernel
theorem dX2_longest_9 : decode cX2_longest 9 = .ok (.istore_n 2, 1) := by decide +kernel
theorem dX2_longest_10 : decode cX2_longest 10 = .ok (.aload_n 0, 1) := by decide +kernel
theorem dX2_longest_11 : decode cX2_longest 11 = .ok (.dup, 1) := by decide +kernel
theorem dX2_longest_12 : decode cX2_longest 12 = .ok (.getfield 44, 3) := by decide +kernel
theorem dX2_longest_15 : decode cX2_longest 15 = .ok (.iconst 1, 1) := by decide +kernel
theorem dX2_longest_16 : decode cX2_longest 16 = .ok (.iadd, 1) := by decide +kernel
theorem dX2_longest_17 : decode cX2_longest 17 = .ok (.putfield 44, 3) := by decide +kernel
theorem dX2_longest_20 : decode cX2_longest 20 = .ok (.aload_n 0, 1) := by decide +kernel
theorem dX2_longest_21 : decode cX2_longest 21 = .ok (.getfield 44, 3) := by decide +kernel
theorem dX2_longest_24 : decode cX2_longest 24 = .ok (.iload_n 1, 1) := by decide +kernel
theorem dX2_longest_25 : decode cX2_longest 25 = .ok (.if_icmp .ge 40, 3) := by decide +kernel
theorem dX2_longest_28 : decode cX2_longest 28 = .ok (.aload_n 0, 1) := by decide +kernel
theorem dX2_longest_29 : decode cX2_longest 29 = .ok (.iload_n 2, 1) := by decide +kernel
theorem dX2_longest_30 : decode cX2_longest 30 = .ok (.aload_n 0, 1) := by decide +kernel
theorem dX2_longest_31 : decode cX2_longest 31 = .ok (.getfield 18, 3) := by decide +kernel
theorem dX2_longest_34 : decode cX2_longest 34 = .ok (.aload_n 0, 1) := by decide +kernel
theorem dX2_longest_35 : decode cX2_longest 35 = .ok (.getfield 44, 3) := by decide +kernel
theorem dX2_longest_38 : decode cX2_longest 38 = .ok (.iaload, 1) := by decide +kernel
theorem dX2_longest_39 : decode cX2_longest 39 = .ok (.invokevirtual 77, 3) := by decide +kernel
theorem dX2_longest_42 : decode cX2_longest 42 = .ok (.istore_n 3, 1) := by decide +kernel
theorem dX2_longest_43 : decode cX2_longest 43 = .ok (.iload_n 3, 1) := by decide +kernel
theorem dX2_longest_44 : decode cX2_longest 44 = .ok (.iconst (-1), 1) := by decide +kernel
theorem dX2_longest_45 : decode cX2_longest 45 = .ok (.if_icmp .ne 5, 3) := by decide +kernel
theorem dX2_longest_48 : decode cX2_longest 48 = .ok (.iload_n 2, 1) := by decide +kernel
theorem dX2_longest_49 : decode cX2_longest 49 = .ok (.ireturn, 1) := by decide +kernel
theorem dX2_longest_50 : decode cX2_longest 50 = .ok (.iload_n 3, 1) := by decide +kernel
theorem dX2_longest_51 : decode cX2_longest 51 = .ok (.istore_n 2, 1) := by decide +kernel
theorem dX2_longest_52 : decode cX2_longest 52 = .ok (.aload_n 0, 1) := by decide +kernel
theorem dX2_longest_53 : decode cX2_longest 53 = .ok (.dup, 1) := by decide +kernel
theorem dX2_longest_54 : decode cX2_longest 54 = .ok (.getfield 44, 3) := by decide +kernel
theorem dX2_longest_57 : decode cX2_longest 57 = .ok (.iconst 1, 1) := by decide +kernel
theorem dX2_longest_58 : decode cX2_longest 58 = .ok (.iadd, 1) := by decide +kernel
theorem dX2_longest_59 : decode cX2_longest 59 = .ok (.putfield 44, 3) := by decide +kernel
theorem dX2_longest_62 : decode cX2_longest 62 = .ok (.goto (-42), 3) := by decide +kernel
theorem dX2_longest_65 : decode cX2_longest 65 = .ok (.iload_n 2, 1) := by decide +kernel
theorem dX2_longest_66 : decode cX2_longest 66 = .ok (.ireturn, 1) := by decide +kernel
theorem dX2_childOf_0 : decode cX2_childOf 0 = .ok (.aload_n 0, 1) := by decide +kernel
theorem dX2_childOf_1 : decode cX2_childOf 1 = .ok (.getfield 22, 3) := by decide +kernel
theorem dX2_childOf_4 : decode cX2_childOf 4 = .ok (.iload_n 1, 1) := by decide +kernel
theorem dX2_childOf_5 : decode cX2_childOf 5 = .ok (.iaload, 1) := by decide +kernel
theorem dX2_childOf_6 : decode cX2_childOf 6 = .ok (.istore_n 3, 1) := by decide +kernel
theorem dX2_childOf_7 : decode cX2_childOf 7 = .ok (.iconst 0, 1) := by decide +kernel
theorem dX2_childOf_8 : decode cX2_childOf 8 = .ok (.istore 4, 2) := by decide +kernel
theorem dX2_childOf_10 : decode cX2_childOf 10 = .ok (.iload 4, 2) := by decide +kernel
theorem dX2_childOf_12 : decode cX2_childOf 12 = .ok (.sipush 256, 3) := by decide +kernel
theorem dX2_childOf_15 : decode cX2_childOf 15 = .ok (.if_icmp .ge 33, 3) := by decide +kernel
theorem dX2_childOf_18 : decode cX2_childOf 18 = .ok (.iload_n 3, 1) := by decide +kernel
theorem dX2_childOf_19 : decode cX2_childOf 19 = .ok (.iconst (-1), 1) := by decide +kernel
theorem dX2_childOf_20 : decode cX2_childOf 20 = .ok (.if_icmp .eq 28, 3) := by decide +kernel
theorem dX2_childOf_23 : decode cX2_childOf 23 = .ok (.aload_n 0, 1) := by decide +kernel
theorem dX2_childOf_24 : decode cX2_childOf 24 = .ok (.getfield 28, 3) := by decide +kernel
theorem dX2_childOf_27 : decode cX2_childOf 27 = .ok (.iload_n 3, 1) := by decide +kernel
theorem dX2_childOf_28 : decode cX2_childOf 28 = .ok (.iaload, 1) := by decide +kernel
theorem dX2_childOf_29 : decode cX2_childOf 29 = .ok (.iload_n 2, 1) := by decide +kernel
theorem dX2_childOf_30 : decode cX2_childOf 30 = .ok (.if_icmp .ne 5, 3) := by decide +kernel
theorem dX2_childOf_33 : decode cX2_childOf 33 = .ok (.iload_n 3, 1) := by decide +kernel
theorem dX2_childOf_34 : decode cX2_childOf 34 = .ok (.ireturn, 1) := by decide +kernel
theorem dX2_childOf_35 : decode cX2_childOf 35 = .ok (.aload_n 0, 1) := by decide +kernel
theorem dX2_childOf_36 : decode cX2_childOf 36 = .ok (.getfield 25, 3) := by decide +kernel
theorem dX2_childOf_39 : decode cX2_childOf 39 = .ok (.iload_n 3, 1) := by decide +kernel
theorem dX2_childOf_40 : decode cX2_childOf 40 = .ok (.iaload, 1) := by decide +kernel
theorem dX2_childOf_41 : decode cX2_childOf 41 = .ok (.istore_n 3, 1) := by decide +kernel
theorem dX2_childOf_42 : decode cX2_childOf 42 = .ok (.iinc 4 1, 3) := by decide +kernel
theorem dX2_childOf_45 : decode cX2_childOf 45 = .ok (.goto (-35), 3) := by decide +kernel
theorem dX2_childOf_48 : decode cX2_childOf 48 = .ok (.iconst (-1), 1) := by decide +kernel
theorem dX2_childOf_49 : decode cX2_childOf 49 = .ok (.ireturn, 1) := by decide +kernel
theorem dX2_putCode_0 : decode cX2_putCode 0 = .ok (.aload_n 0, 1) := by decide +kernel
theorem dX2_putCode_1 : decode cX2_putCode 1 = .ok (.dup, 1) := by decide +kernel
theorem dX2_putCode_2 : decode cX2_putCode 2 = .ok (.getfield 38, 3) := by decide +kernel
theorem dX2_putCode_5 : decode cX2_putCode 5 = .ok (.iload_n 1, 1) := by decide +kernel
theorem dX2_putCode_6 : decode cX2_putCode 6 = .ok (.aload_n 0, 1) := by decide +kernel
theorem dX2_putCode_7 : decode cX2_putCode 7 = .ok (.getfield 41, 3) := by decide +kernel
theorem dX2_putCode_10 : decode cX2_putCode 10 = .ok (.ishl, 1) := by decide +kernel
theorem dX2_putCode_11 : decode cX2_putCode 11 = .ok (.ior, 1) := by decide +kernel
theorem dX2_putCode_12 : decode cX2_putCode 12 = .ok (.putfield 38, 3) := by decide +kernel
theorem dX2_putCode_15 : decode cX2_putCode 15 = .ok (.aload_n 0, 1) := by decide +kernel
theorem dX2_putCode_16 : decode cX2_putCode 16 = .ok (.dup, 1) := by decide +kernel
theorem dX2_putCode_17 : decode cX2_putCode 17 = .ok (.getfield 41, 3) := by decide +kernel
theorem dX2_putCode_20 : decode cX2_putCode 20 = .ok (.iload_n 2, 1) := by decide +kernel
theorem dX2_putCode_21 : decode cX2_putCode 21 = .ok (.iadd, 1) := by decide +kernel
theorem dX2_putCode_22 : decode cX2_putCode 22 = .ok (.putfield 41, 3) := by decide +kernel
theorem dX2_putCode_25 : decode cX2_putCode 25 = .ok (.aload_n 0, 1) := by decide +kernel
theorem dX2_putCode_26 : decode cX2_putCode 26 = .ok (.getfield 41, 3) := by decide +kernel
theorem dX2_putCode_29 : decode cX2_putCode 29 = .ok (.bipush 8, 2) := by decide +kernel
theorem dX2_putCode_31 : decode cX2_putCode 31 = .ok (.if_icmp .lt 39, 3) := by decide +kernel
theorem dX2_putCode_34 : decode cX2_putCode 34 = .ok (.aload_n 0, 1) := by decide +kernel
theorem dX2_putCode_35 : decode cX2_putCode 35 = .ok (.getfield 12, 3) := by decide +kernel
theorem dX2_putCode_38 : decode cX2_putCode 38 = .ok (.aload_n 0, 1) := by decide +kernel
theorem dX2_putCode_39 : decode cX2_putCode 39 = .ok (.getfield 38, 3) := by decide +kernel
theorem dX2_putCode_42 : decode cX2_putCode 42 = .ok (.invokevirtual 64, 3) := by decide +kernel
theorem dX2_putCode_45 : decode cX2_putCode 45 = .ok (.aload_n 0, 1) := by decide +kernel
theorem dX2_putCode_46 : decode cX2_putCode 46 = .ok (.dup, 1) := by decide +kernel
theorem dX2_putCode_47 : decode cX2_putCode 47 = .ok (.getfield 38, 3) := by decide +kernel
theorem dX2_putCode_50 : decode cX2_putCode 50 = .ok (.bipush 8, 2) := by decide +kernel
theorem dX2_putCode_52 : decode cX2_putCode 52 = .ok (.ishr, 1) := by decide +kernel
theorem dX2_putCode_53 : decode cX2_putCode 53 = .ok (.putfield 38, 3) := by decide +kernel
theorem dX2_putCode_56 : decode cX2_putCode 56 = .ok (.aload_n 0, 1) := by decide +kernel
theorem dX2_putCode_57 : decode cX2_putCode 57 = .ok (.dup, 1) := by decide +kernel
theorem dX2_putCode_58 : decode cX2_putCode 58 = .ok (.getfield 41, 3) := by decide +kernel
theorem dX2_putCode_61 : decode cX2_putCode 61 = .ok (.bipush 8, 2) := by decide +kernel
theorem dX2_putCode_63 : decode cX2_putCode 63 = .ok (.isub, 1) := by decide +kernel
theorem dX2_putCode_64 : decode cX2_putCode 64 = .ok (.putfield 41, 3) := by decide +kernel
theorem dX2_putCode_67 : decode cX2_putCode 67 = .ok (.goto (-42), 3) := by decide +kernel
theorem dX2_putCode_70 : decode cX2_putCode 70 = .ok (.return_, 1) := by decide +kernel
theorem dX3_init_0 : decode cX3_init 0 = .ok (.aload_n 0, 1) := by decide +kernel
theorem dX3_init_1 : decode cX3_init 1 = .ok (.invokespecial 3, 3) := by decide +kernel
theorem dX3_init_4 : decode cX3_init 4 = .ok (.aload_n 0, 1) := by decide +kernel
theorem dX3_init_5 : decode cX3_init 5 = .ok (.iconst 0, 1) := by decide +kernel
theorem dX3_init_6 : decode cX3_init 6 = .ok (.putfield 9, 3) := by decide +kernel
theorem dX3_init_9 : decode cX3_init 9 = .ok (.aload_n 0, 1) := by decide +kernel
theorem dX3_init_10 : decode cX3_init 10 = .ok (.iconst 0, 1) := by decide +kernel
theorem dX3_init_11 : decode cX3_init 11 = .ok (.putfield 15, 3) := by decide +kernel
theorem dX3_init_14 : decode cX3_init 14 = .ok (.aload_n 0, 1) := by decide +kernel
theorem dX3_init_15 : decode cX3_init 15 = .ok (.iconst 1, 1) := by decide +kernel
theorem dX3_init_16 : decode cX3_init 16 = .ok (.putfield 18, 3) := by decide +kernel
theorem dX3_init_19 : decode cX3_init 19 = .ok (.aload_n 0, 1) := by decide +kernel
theorem dX3_init_20 : decode cX3_init 20 = .ok (.iconst 1, 1) := by decide +kernel
theorem dX3_init_21 : decode cX3_init 21 = .ok (.putfield 21, 3) := by decide +kernel
theorem dX3_init_24 : decode cX3_init 24 = .ok (.aload_n 0, 1) := by decide +kernel
theorem dX3_init_25 : decode cX3_init 25 = .ok (.iconst 0, 1) := by decide +kernel
theorem dX3_init_26 : decode cX3_init 26 = .ok (.putfield 24, 3) := by decide +kernel
theorem dX3_init_29 : decode cX3_init 29 = .ok (.aload_n 0, 1) := by decide +kernel
theorem dX3_init_30 : decode cX3_init 30 = .ok (.new 28, 3) := by decide +kernel
theorem dX3_init_33 : decode cX3_init 33 = .ok (.dup, 1) := by decide +kernel
theorem dX3_init_34 : decode cX3_init 34 = .ok (.invokespecial 30, 3) := by decide +kernel
theorem dX3_init_37 : decode cX3_init 37 = .ok (.putfield 31, 3) := by decide +kernel
theorem dX3_init_40 : decode cX3_init 40 = .ok (.aload_n 0, 1) := by decide +kernel
theorem dX3_init_41 : decode cX3_init 41 = .ok (.new 35, 3) := by decide +kernel
theorem dX3_init_44 : decode cX3_init 44 = .ok (.dup, 1) := by decide +kernel
theorem dX3_init_45 : decode cX3_init 45 = .ok (.invokespecial 37, 3) := by decide +kernel
theorem dX3_init_48 : decode cX3_init 48 = .ok (.putfield 38, 3) := by decide +kernel
theorem dX3_init_51 : decode cX3_init 51 = .ok (.aload_n 0, 1) := by decide +kernel
theorem dX3_init_52 : decode cX3_init 52 = .ok (.sipush 4096, 3) := by decide +kernel
theorem dX3_init_55 : decode cX3_init 55 = .ok (.newarray .int, 2) := by decide +kernel
theorem dX3_init_57 : decode cX3_init 57 = .ok (.putfield 42, 3) := by decide +kernel
theorem dX3_init_60 : decode cX3_init 60 = .ok (.return_, 1) := by decide +kernel
theorem dX3_reset_0 : decode cX3_reset 0 = .ok (.aload_n 0, 1) := by decide +kernel
theorem dX3_reset_1 : decode cX3_reset 1 = .ok (.iload_n 1, 1) := by decide +kernel
theorem dX3_reset_2 : decode cX3_reset 2 = .ok (.putfield 9, 3) := by decide +kernel
theorem dX3_reset_5 : decode cX3_reset 5 = .ok (.aload_n 0, 1) := by decide +kernel
theorem dX3_reset_6 : decode cX3_reset 6 = .ok (.iload_n 2, 1) := by decide +kernel
theorem dX3_reset_7 : decode cX3_reset 7 = .ok (.putfield 15, 3) := by decide +kernel
theorem dX3_reset_10 : decode cX3_reset 10 = .ok (.aload_n 0, 1) := by decide +kernel
theorem dX3_reset_11 : decode cX3_reset 11 = .ok (.iload_n 3, 1) := by decide +kernel
theorem dX3_reset_12 : decode cX3_reset 12 = .ok (.putfield 18, 3) := by decide +kernel
theorem dX3_reset_15 : decode cX3_reset 15 = .ok (.aload_n 0, 1) := by decide +kernel
theorem dX3_reset_16 : decode cX3_reset 16 = .ok (.iload 4, 2) := by decide +kernel
theorem dX3_reset_18 : decode cX3_reset 18 = .ok (.putfield 21, 3) := by decide +kernel
theorem dX3_reset_21 : decode cX3_reset 21 = .ok (.aload_n 0, 1) := by decide +kernel
theorem dX3_reset_22 : decode cX3_reset 22 = .ok (.getfield 38, 3) := by decide +kernel
theorem dX3_reset_25 : decode cX3_reset 25 = .ok (.invokevirtual 46, 3) := by decide +kernel
theorem dX3_reset_28 : decode cX3_reset 28 = .ok (.aload_n 0, 1) := by decide +kernel
theorem dX3_reset_29 : decode cX3_reset 29 = .ok (.iconst 0, 1) := by decide +kernel
theorem dX3_reset_30 : decode cX3_reset 30 = .ok (.aload_n 0, 1) := by decide +kernel
theorem dX3_reset_31 : decode cX3_reset 31 = .ok (.invokevirtual 49, 3) := by decide +kernel
theorem dX3_reset_34 : decode cX3_reset 34 = .ok (.iconst 0, 1) := by decide +kernel
theorem dX3_reset_35 : decode cX3_reset 35 = .ok (.invokevirtual 53, 3) := by decide +kernel
theorem dX3_reset_38 : decode cX3_reset 38 = .ok (.return_, 1) := by decide +kernel
theorem dX3_size_0 : decode cX3_size 0 = .ok (.aload_n 0, 1) := by decide +kernel
theorem dX3_size_1 : decode cX3_size 1 = .ok (.getfield 18, 3) := by decide +kernel
theorem dX3_size_4 : decode cX3_size 4 = .ok (.aload_n 0, 1) := by decide +kernel
theorem dX3_size_5 : decode cX3_size 5 = .ok (.getfield 21, 3) := by decide +kernel
theorem dX3_size_8 : decode cX3_size 8 = .ok (.imul, 1) := by decide +kernel
theorem dX3_size_9 : decode cX3_size 9 = .ok (.ireturn, 1) := by decide +kernel
theorem dX3_fill_0 : decode cX3_fill 0 = .ok (.iload_n 1, 1) := by decide +kernel
theorem dX3_fill_1 : decode cX3_fill 1 = .ok (.istore 4, 2) := by decide +kernel
theorem dX3_fill_3 : decode cX3_fill 3 = .ok (.iload 4, 2) := by decide +kernel
theorem dX3_fill_5 : decode cX3_fill 5 = .ok (.iload_n 2, 1) := by decide +kernel
theorem dX3_fill_6 : decode cX3_fill 6 = .ok (.if_icmp .ge 17, 3) := by decide +kernel
theorem dX3_fill_9 : decode cX3_fill 9 = .ok (.aload_n 0, 1) := by decide +kernel
theorem dX3_fill_10 : decode cX3_fill 10 = .ok (.getfield 42, 3) := by decide +kernel
theorem dX3_fill_13 : decode cX3_fill 13 = .ok (.iload 4, 2) := by decide +kernel
theorem dX3_fill_15 : decode cX3_fill 15 = .ok (.iload_n 3, 1) := by decide +kernel
theorem dX3_fill_16 : decode cX3_fill 16 = .ok (.iastore, 1) := by decide +kernel
theorem dX3_fill_17 : decode cX3_fill 17 = .ok (.iinc 4 1, 3) := by decide +kernel
theorem dX3_fill_20 : decode cX3_fill 20 = .ok (.goto (-17), 3) := by decide +kernel
theorem dX3_fill_23 : decode cX3_fill 23 = .ok (.return_, 1) := by decide +kernel
theorem dX3_covers_0 : decode cX3_covers 0 = .ok (.iload_n 1, 1) := by decide +kernel
theorem dX3_covers_1 : decode cX3_covers 1 = .ok (.aload_n 0, 1) := by decide +kernel
theorem dX3_covers_2 : decode cX3_covers 2 = .ok (.getfield 9, 3) := by decide +kernel
theorem dX3_covers_5 : decode cX3_covers 5 = .ok (.if_icmp .lt 41, 3) := by decide +kernel
theorem dX3_covers_8 : decode cX3_covers 8 = .ok (.iload_n 1, 1) := by decide +kernel
theorem dX3_covers_9 : decode cX3_covers 9 = .ok (.aload_n 0, 1) := by decide +kernel
theorem dX3_covers_10 : decode cX3_covers 10 = .ok (.getfield 9, 3) := by decide +kernel
theorem dX3_covers_13 : decode cX3_covers 13 = .ok (.aload_n 0, 1) := by decide +kernel
theorem dX3_covers_14 : decode cX3_covers 14 = .ok (.getfield 18, 3) := by decide +kernel
theorem dX3_covers_17 : decode cX3_covers 17 = .ok (.iadd, 1) := by decide +kernel
theorem dX3_covers_18 : decode cX3_covers 18 = .ok (.if_icmp .ge 28, 3) := by decide +kernel
theorem dX3_covers_21 : decode cX3_covers 21 = .ok (.iload_n 2, 1) := by decide +kernel
theorem dX3_covers_22 : decode cX3_covers 22 = .ok (.aload_n 0, 1) := by decide +kernel
theorem dX3_covers_23 : decode cX3_covers 23 = .ok (.getfield 15, 3) := by decide +kernel
theorem dX3_covers_26 : decode cX3_covers 26 = .ok (.if_icmp .lt 20, 3) := by decide +kernel
theorem dX3_covers_29 : decode cX3_covers 29 = .ok (.iload_n 2, 1) := by decide +kernel
theorem dX3_covers_30 : decode cX3_covers 30 = .ok (.aload_n 0, 1) := by decide +kernel
theorem dX3_covers_31 : decode cX3_covers 31 = .ok (.getfield 15, 3) := by decide +kernel
theorem dX3_covers_34 : decode cX3_covers 34 = .ok (.aload_n 0, 1) := by decide +kernel
theorem dX3_covers_35 : decode cX3_covers 35 = .ok (.getfield 21, 3) := by decide +kernel
theorem dX3_covers_38 : decode cX3_covers 38 = .ok (.iadd, 1) := by decide +kernel
theorem dX3_covers_39 : decode cX3_covers 39 = .ok (.if_icmp .ge 7, 3) := by decide +kernel
theorem dX3_covers_42 : decode cX3_covers 42 = .ok (.iconst 1, 1) := by decide +kernel
theorem dX3_covers_43 : decode cX3_covers 43 = .ok (.goto 4, 3) := by decide +kernel
theorem dX3_covers_46 : decode cX3_covers 46 = .ok (.iconst 0, 1) := by decide +kernel
theorem dX3_covers_47 : decode cX3_covers 47 = .ok (.ireturn, 1) := by decide +kernel
theorem dX3_indexAt_0 : decode cX3_indexAt 0 = .ok (.aload_n 0, 1) := by decide +kernel
theorem dX3_indexAt_1 : decode cX3_indexAt 1 = .ok (.getfield 42, 3) := by decide +kernel
theorem dX3_indexAt_4 : decode cX3_indexAt 4 = .ok (.iload_n 2, 1) := by decide +kernel
theorem dX3_indexAt_5 : decode cX3_indexAt 5 = .ok (.aload_n 0, 1) := by decide +kernel
theorem dX3_indexAt_6 : decode cX3_indexAt 6 = .ok (.getfield 15, 3) := by decide +kernel
theorem dX3_indexAt_9 : decode cX3_indexAt 9 = .ok (.isub, 1) := by decide +kernel
theorem dX3_indexAt_10 : decode cX3_indexAt 10 = .ok (.aload_n 0, 1) := by decide +kernel
theorem dX3_indexAt_11 : decode cX3_indexAt 11 = .ok (.getfield 18, 3) := by decide +kernel
theorem dX3_indexAt_14 : decode cX3_indexAt 14 = .ok (.imul, 1) := by decide +kernel
theorem dX3_indexAt_15 : decode cX3_indexAt 15 = .ok (.iload_n 1, 1) := by decide +kernel
theorem dX3_indexAt_16 : decode cX3_indexAt 16 = .ok (.iadd, 1) := by decide +kernel
theorem dX3_indexAt_17 : decode cX3_indexAt 17 = .ok (.aload_n 0, 1) := by decide +kernel
theorem dX3_indexAt_18 : decode cX3_indexAt 18 = .ok (.getfield 9, 3) := by decide +kernel
theorem dX3_indexAt_21 : decode cX3_indexAt 21 = .ok (.isub, 1) := by decide +kernel
theorem dX3_indexAt_22 : decode cX3_indexAt 22 = .ok (.iaload, 1) := by decide +kernel
theorem dX3_indexAt_23 : decode cX3_indexAt 23 = .ok (.ireturn, 1) := by decide +kernel
theorem dX3_fromStreamOrder_0 : decode cX3_fromStreamOrder 0 = .ok (.iconst 0, 1) := by decide +kernel
theorem dX3_fromStreamOrder_1 : decode cX3_fromStreamOrder 1 = .ok (.istore_n 2, 1) := by decide +kernel
theorem dX3_fromStreamOrder_2 : decode cX3_fromStreamOrder 2 = .ok (.iload_n 2, 1) := by decide +kernel
theorem dX3_fromStreamOrder_3 : decode cX3_fromStreamOrder 3 = .ok (.aload_n 0, 1) := by decide +kernel
theorem dX3_fromStreamOrder_4 : decode cX3_fromStreamOrder 4 = .ok (.getfield 21, 3) := by decide +kernel
theorem dX3_fromStreamOrder_7 : decode cX3_fromStreamOrder 7 = .ok (.if_icmp .ge 37, 3) := by decide +kernel
theorem dX3_fromStreamOrder_10 : decode cX3_fromStreamOrder 10 = .ok (.aload_n 1, 1) := by decide +kernel
theorem dX3_fromStreamOrder_11 : decode cX3_fromStreamOrder 11 = .ok (.iload_n 2, 1) := by decide +kernel
theorem dX3_fromStreamOrder_12 : decode cX3_fromStreamOrder 12 = .ok (.aload_n 0, 1) := by decide +kernel
theorem dX3_fromStreamOrder_13 : decode cX3_fromStreamOrder 13 = .ok (.getfield 18, 3) := by decide +kernel
theorem dX3_fromStreamOrder_16 : decode cX3_fromStreamOrder 16 = .ok (.imul, 1) := by decide +kernel
theorem dX3_fromStreamOrder_17 : decode cX3_fromStreamOrder 17 = .ok (.aload_n 0, 1) := by decide +kernel
theorem dX3_fromStreamOrder_18 : decode cX3_fromStreamOrder 18 = .ok (.getfield 42, 3) := by decide +kernel
theorem dX3_fromStreamOrder_21 : decode cX3_fromStreamOrder 21 = .ok (.aload_n 0, 1) := by decide +kernel
theorem dX3_fromStreamOrder_22 : decode cX3_fromStreamOrder 22 = .ok (.iload_n 2, 1) := by decide +kernel
theorem dX3_fromStreamOrder_23 : decode cX3_fromStreamOrder 23 = .ok (.invokevirtual 57, 3) := by decide +kernel
theorem dX3_fromStreamOrder_26 : decode cX3_fromStreamOrder 26 = .ok (.aload_n 0, 1) := by decide +kernel
theorem dX3_fromStreamOrder_27 : decode cX3_fromStreamOrder 27 = .ok (.getfield 18, 3) := by decide +kernel
theorem dX3_fromStreamOrder_30 : decode cX3_fromStreamOrder 30 = .ok (.imul, 1) := by decide +kernel
theorem dX3_fromStreamOrder_31 : decode cX3_fromStreamOrder 31 = .ok (.aload_n 0, 1) := by decide +kernel
theorem dX3_fromStreamOrder_32 : decode cX3_fromStreamOrder 32 = .ok (.getfield 18, 3) := by decide +kernel
theorem dX3_fromStreamOrder_35 : decode cX3_fromStreamOrder 35 = .ok (.invokestatic 61, 3) := by decide +kernel
theorem dX3_fromStreamOrder_38 : decode cX3_fromStreamOrder 38 = .ok (.iinc 2 1, 3) := by decide +kernel
theorem dX3_fromStreamOrder_41 : decode cX3_fromStreamOrder 41 = .ok (.goto (-39), 3) := by decide +kernel
theorem dX3_fromStreamOrder_44 : decode cX3_fromStreamOrder 44 = .ok (.return_, 1) := by decide +kernel
theorem dX3_toStreamOrder_0 : decode cX3_toStreamOrder 0 = .ok (.iconst 0, 1) := by decide +kernel
theorem dX3_toStreamOrder_1 : decode cX3_toStreamOrder 1 = .ok (.istore_n 2, 1) := by decide +kernel
theorem dX3_toStreamOrder_2 : decode cX3_toStreamOrder 2 = .ok (.iload_n 2, 1) := by decide +kernel
theorem dX3_toStreamOrder_3 : decode cX3_toStreamOrder 3 = .ok (.aload_n 0, 1) := by decide +kernel
theorem dX3_toStreamOrder_4 : decode cX3_toStreamOrder 4 = .ok (.getfield 21, 3) := by decide +kernel
theorem dX3_toStreamOrder_7 : decode cX3_toStreamOrder 7 = .ok (.if_icmp .ge 37, 3) := by decide +kernel
theorem dX3_toStreamOrder_10 : decode cX3_toStreamOrder 10 = .ok (.aload_n 0, 1) := by decide +kernel
theorem dX3_toStreamOrder_11 : decode cX3_toStreamOrder 11 = .ok (.getfield 42, 3) := by decide +kernel
theorem dX3_toStreamOrder_14 : decode cX3_toStreamOrder 14 = .ok (.aload_n 0, 1) := by decide +kernel
theorem dX3_toStreamOrder_15 : decode cX3_toStreamOrder 15 = .ok (.iload_n 2, 1) := by decide +kernel
theorem dX3_toStreamOrder_16 : decode cX3_toStreamOrder 16 = .ok (.invokevirtual 57, 3) := by decide +kernel
theorem dX3_toStreamOrder_19 : decode cX3_toStreamOrder 19 = .ok (.aload_n 0, 1) := by decide +kernel
theorem dX3_toStreamOrder_20 : decode cX3_toStreamOrder 20 = .ok (.getfield 18, 3) := by decide +kernel
theorem dX3_toStreamOrder_23 : decode cX3_toStreamOrder 23 = .ok (.imul, 1) := by decide +kernel
theorem dX3_toStreamOrder_24 : decode cX3_toStreamOrder 24 = .ok (.aload_n 1, 1) := by decide +kernel
theorem dX3_toStreamOrder_25 : decode cX3_toStreamOrder 25 = .ok (.iload_n 2, 1) := by decide +kernel
theorem dX3_toStreamOrder_26 : decode cX3_toStreamOrder 26 = .ok (.aload_n 0, 1) := by decide +kernel
theorem dX3_toStreamOrder_27 : decode cX3_toStreamOrder 27 = .ok (.getfield 18, 3) := by decide +kernel
theorem dX3_toStreamOrder_30 : decode cX3_toStreamOrder 30 = .ok (.imul, 1) := by decide +kernel
theorem dX3_toStreamOrder_31 : decode cX3_toStreamOrder 31 = .ok (.aload_n 0, 1) := by decide +kernel
theorem dX3_toStreamOrder_32 : decode cX3_toStreamOrder 32 = .ok (.getfield 18, 3) := by decide +kernel
theorem dX3_toStreamOrder_35 : decode cX3_toStreamOrder 35 = .ok (.invokestatic 61, 3) := by decide +kernel
theorem dX3_toStreamOrder_38 : decode cX3_toStreamOrder 38 = .ok (.iinc 2 1, 3) := by decide +kernel
theorem dX3_toStreamOrder_41 : decode cX3_toStreamOrder 41 = .ok (.goto (-39), 3) := by decide +kernel
theorem dX3_toStreamOrder_44 : decode cX3_toStreamOrder 44 = .ok (.return_, 1) := by decide +kernel
theorem dX3_lineOf_0 : decode cX3_lineOf 0 = .ok (.aload_n 0, 1) := by decide +kernel
theorem dX3_lineOf_1 : decode cX3_lineOf 1 = .ok (.getfield 24, 3) := by decide +kernel
theorem dX3_lineOf_4 : decode cX3_lineOf 4 = .ok (.ifCond .ne 5, 3) := by decide +kernel
theorem dX3_lineOf_7 : decode cX3_lineOf 7 = .ok (.iload_n 1, 1) := by decide +kernel
theorem dX3_lineOf_8 : decode cX3_lineOf 8 = .ok (.ireturn, 1) := by decide +kernel
theorem dX3_lineOf_9 : decode cX3_lineOf 9 = .ok (.iload_n 1, 1) := by decide +kernel
theorem dX3_lineOf_10 : decode cX3_lineOf 10 = .ok (.istore_n 2, 1) := by decide +kernel
theorem dX3_lineOf_11 : decode cX3_lineOf 11 = .ok (.iconst 0, 1) := by decide +kernel
theorem dX3_lineOf_12 : decode cX3_lineOf 12 = .ok (.istore_n 3, 1) := by decide +kernel
theorem dX3_lineOf_13 : decode cX3_lineOf 13 = .ok (.iload_n 3, 1) := by decide +kernel
theorem dX3_lineOf_14 : decode cX3_lineOf 14 = .ok (.getstatic 67, 3) := by decide +kernel
theorem dX3_lineOf_17 : decode cX3_lineOf 17 = .ok (.arraylength, 1) := by decide +kernel
theorem dX3_lineOf_18 : decode cX3_lineOf 18 = .ok (.if_icmp .ge 61, 3) := by decide +kernel
theorem dX3_lineOf_21 : decode cX3_lineOf 21 = .ok (.getstatic 67, 3) := by decide +kernel
theorem dX3_lineOf_24 : decode cX3_lineOf 24 = .ok (.iload_n 3, 1) := by decide +kernel
theorem dX3_lineOf_25 : decode cX3_lineOf 25 = .ok (.iaload, 1) := by decide +kernel
theorem dX3_lineOf_26 : decode cX3_lineOf 26 = .ok (.istore 4, 2) := by decide +kernel
theorem dX3_lineOf_28 : decode cX3_lineOf 28 = .ok (.getstatic 70, 3) := by decide +kernel
theorem dX3_lineOf_31 : decode cX3_lineOf 31 = .ok (.iload_n 3, 1) := by decide +kernel
theorem dX3_lineOf_32 : decode cX3_lineOf 32 = .ok (.iaload, 1) := by decide +kernel
theorem dX3_lineOf_33 : decode cX3_lineOf 33 = .ok (.istore 5, 2) := by decide +kernel
theorem dX3_lineOf_35 : decode cX3_lineOf 35 = .ok (.aload_n 0, 1) := by decide +kernel
theorem dX3_lineOf_36 : decode cX3_lineOf 36 = .ok (.getfield 21, 3) := by decide +kernel
theorem dX3_lineOf_39 : decode cX3_lineOf 39 = .ok (.iload 4, 2) := by decide +kernel
theorem dX3_lineOf_41 : decode cX3_lineOf 41 = .ok (.isub, 1) := by decide +kernel
theorem dX3_lineOf_42 : decode cX3_lineOf 42 = .ok (.iconst 1, 1) := by decide +kernel
theorem dX3_lineOf_43 : decode cX3_lineOf 43 = .ok (.iload 5, 2) := by decide +kernel
theorem dX3_lineOf_45 : decode cX3_lineOf 45 = .ok (.ishl, 1) := by decide +kernel
theorem dX3_lineOf_46 : decode cX3_lineOf 46 = .ok (.iadd, 1) := by decide +kernel
theorem dX3_lineOf_47 : decode cX3_lineOf 47 = .ok (.iconst 1, 1) := by decide +kernel
theorem dX3_lineOf_48 : decode cX3_lineOf 48 = .ok (.isub, 1) := by decide +kernel
theorem dX3_lineOf_49 : decode cX3_lineOf 49 = .ok (.iload 5, 2) := by decide +kernel
theorem dX3_lineOf_51 : decode cX3_lineOf 51 = .ok (.ishr, 1) := by decide +kernel
theorem dX3_lineOf_52 : decode cX3_lineOf 52 = .ok (.istore 6, 2) := by decide +kernel
theorem dX3_lineOf_54 : decode cX3_lineOf 54 = .ok (.iload_n 2, 1) := by decide +kernel
theorem dX3_lineOf_55 : decode cX3_lineOf 55 = .ok (.iload 6, 2) := by decide +kernel
theorem dX3_lineOf_57 : decode cX3_lineOf 57 = .ok (.if_icmp .ge 11, 3) := by decide +kernel
theorem dX3_lineOf_60 : decode cX3_lineOf 60 = .ok (.iload 4, 2) := by decide +kernel
theorem dX3_lineOf_62 : decode cX3_lineOf 62 = .ok (.iload_n 2, 1) := by decide +kernel
theorem dX3_lineOf_63 : decode cX3_lineOf 63 = .ok (.iload 5, 2) := by decide +kernel
theorem dX3_lineOf_65 : decode cX3_lineOf 65 = .ok (.ishl, 1) := by decide +kernel
theorem dX3_lineOf_66 : decode cX3_lineOf 66 = .ok (.iadd, 1) := by decide +kernel
theorem dX3_lineOf_67 : decode cX3_lineOf 67 = .ok (.ireturn, 1) := by decide +kernel
theorem dX3_lineOf_68 : decode cX3_lineOf 68 = .ok (.iload_n 2, 1) := by decide +kernel
theorem dX3_lineOf_69 : decode cX3_lineOf 69 = .ok (.iload 6, 2) := by decide +kernel
theorem dX3_lineOf_71 : decode cX3_lineOf 71 = .ok (.isub, 1) := by decide +kernel
theorem dX3_lineOf_72 : decode cX3_lineOf 72 = .ok (.istore_n 2, 1) := by decide +kernel
theorem dX3_lineOf_73 : decode cX3_lineOf 73 = .ok (.iinc 3 1, 3) := by decide +kernel
theorem dX3_lineOf_76 : decode cX3_lineOf 76 = .ok (.goto (-63), 3) := by decide +kernel
theorem dX3_lineOf_79 : decode cX3_lineOf 79 = .ok (.iload_n 1, 1) := by decide +kernel
theorem dX3_lineOf_80 : decode cX3_lineOf 80 = .ok (.ireturn, 1) := by decide +kernel
theorem dX4_init_0 : decode cX4_init 0 = .ok (.aload_n 0, 1) := by decide +kernel
theorem dX4_init_1 : decode cX4_init 1 = .ok (.invokespecial 3, 3) := by decide +kernel
theorem dX4_init_4 : decode cX4_init 4 = .ok (.aload_n 0, 1) := by decide +kernel
theorem dX4_init_5 : decode cX4_init 5 = .ok (.new 9, 3) := by decide +kernel
theorem dX4_init_8 : decode cX4_init 8 = .ok (.dup, 1) := by decide +kernel
theorem dX4_init_9 : decode cX4_init 9 = .ok (.invokespecial 11, 3) := by decide +kernel
theorem dX4_init_12 : decode cX4_init 12 = .ok (.putfield 12, 3) := by decide +kernel
theorem dX4_init_15 : decode cX4_init 15 = .ok (.aload_n 0, 1) := by decide +kernel
theorem dX4_init_16 : decode cX4_init 16 = .ok (.bipush 24, 2) := by decide +kernel
theorem dX4_init_18 : decode cX4_init 18 = .ok (.anewarray 18, 3) := by decide +kernel
theorem dX4_init_21 : decode cX4_init 21 = .ok (.putfield 20, 3) := by decide +kernel
theorem dX4_init_24 : decode cX4_init 24 = .ok (.iconst 0, 1) := by decide +kernel
theorem dX4_init_25 : decode cX4_init 25 = .ok (.istore_n 1, 1) := by decide +kernel
theorem dX4_init_26 : decode cX4_init 26 = .ok (.iload_n 1, 1) := by decide +kernel
theorem dX4_init_27 : decode cX4_init 27 = .ok (.bipush 24, 2) := by decide +kernel
theorem dX4_init_29 : decode cX4_init 29 = .ok (.if_icmp .ge 22, 3) := by decide +kernel
theorem dX4_init_32 : decode cX4_init 32 = .ok (.aload_n 0, 1) := by decide +kernel
theorem dX4_init_33 : decode cX4_init 33 = .ok (.getfield 20, 3) := by decide +kernel
theorem dX4_init_36 : decode cX4_init 36 = .ok (.iload_n 1, 1) := by decide +kernel
theorem dX4_init_37 : decode cX4_init 37 = .ok (.new 18, 3) := by decide +kernel
theorem dX4_init_40 : decode cX4_init 40 = .ok (.dup, 1) := by decide +kernel
theorem dX4_init_41 : decode cX4_init 41 = .ok (.invokespecial 24, 3) := by decide +kernel
theorem dX4_init_44 : decode cX4_init 44 = .ok (.aastore, 1) := by decide +kernel
theorem dX4_init_45 : decode cX4_init 45 = .ok (.iinc 1 1, 3) := by decide +kernel
theorem dX4_init_48 : decode cX4_init 48 = .ok (.goto (-22), 3) := by decide +kernel
theorem dX4_init_51 : decode cX4_init 51 = .ok (.aload_n 0, 1) := by decide +kernel
theorem dX4_init_52 : decode cX4_init 52 = .ok (.iconst 1, 1) := by decide +kernel
theorem dX4_init_53 : decode cX4_init 53 = .ok (.iconst 1, 1) := by decide +kernel
theorem dX4_init_54 : decode cX4_init 54 = .ok (.iconst 0, 1) := by decide +kernel
theorem dX4_init_55 : decode cX4_init 55 = .ok (.iconst 0, 1) := by decide +kernel
theorem dX4_init_56 : decode cX4_init 56 = .ok (.iconst 0, 1) := by decide +kernel
theorem dX4_init_57 : decode cX4_init 57 = .ok (.invokevirtual 25, 3) := by decide +kernel
theorem dX4_init_60 : decode cX4_init 60 = .ok (.return_, 1) := by decide +kernel
theorem dX4_reset_0 : decode cX4_reset 0 = .ok (.aload_n 0, 1) := by decide +kernel
theorem dX4_reset_1 : decode cX4_reset 1 = .ok (.iload_n 1, 1) := by decide +kernel
theorem dX4_reset_2 : decode cX4_reset 2 = .ok (.putfield 29, 3) := by decide +kernel
theorem dX4_reset_5 : decode cX4_reset 5 = .ok (.aload_n 0, 1) := by decide +kernel
theorem dX4_reset_6 : decode cX4_reset 6 = .ok (.iload_n 2, 1) := by decide +kernel
theorem dX4_reset_7 : decode cX4_reset 7 = .ok (.putfield 33, 3) := by decide +kernel
theorem dX4_reset_10 : decode cX4_reset 10 = .ok (.aload_n 0, 1) := by decide +kernel
theorem dX4_reset_11 : decode cX4_reset 11 = .ok (.iload 4, 2) := by decide +kernel
theorem dX4_reset_13 : decode cX4_reset 13 = .ok (.putfield 36, 3) := by decide +kernel
theorem dX4_reset_16 : decode cX4_reset 16 = .ok (.aload_n 0, 1) := by decide +kernel
theorem dX4_reset_17 : decode cX4_reset 17 = .ok (.iload 5, 2) := by decide +kernel
theorem dX4_reset_19 : decode cX4_reset 19 = .ok (.putfield 39, 3) := by decide +kernel
theorem dX4_reset_22 : decode cX4_reset 22 = .ok (.aload_n 0, 1) := by decide +kernel
theorem dX4_reset_23 : decode cX4_reset 23 = .ok (.iconst 0, 1) := by decide +kernel
theorem dX4_reset_24 : decode cX4_reset 24 = .ok (.putfield 42, 3) := by decide +kernel
theorem dX4_reset_27 : decode cX4_reset 27 = .ok (.aload_n 0, 1) := by decide +kernel
theorem dX4_reset_28 : decode cX4_reset 28 = .ok (.getfield 12, 3) := by decide +kernel
theorem dX4_reset_31 : decode cX4_reset 31 = .ok (.iload_n 3, 1) := by decide +kernel
theorem dX4_reset_32 : decode cX4_reset 32 = .ok (.invokevirtual 45, 3) := by decide +kernel
theorem dX4_reset_35 : decode cX4_reset 35 = .ok (.return_, 1) := by decide +kernel
theorem dX4_hasRoom_0 : decode cX4_hasRoom 0 = .ok (.aload_n 0, 1) := by decide +kernel
theorem dX4_hasRoom_1 : decode cX4_hasRoom 1 = .ok (.getfield 42, 3) := by decide +kernel
theorem dX4_hasRoom_4 : decode cX4_hasRoom 4 = .ok (.bipush 24, 2) := by decide +kernel
theorem dX4_hasRoom_6 : decode cX4_hasRoom 6 = .ok (.if_icmp .ge 7, 3) := by decide +kernel
theorem dX4_hasRoom_9 : decode cX4_hasRoom 9 = .ok (.iconst 1, 1) := by decide +kernel
theorem dX4_hasRoom_10 : decode cX4_hasRoom 10 = .ok (.goto 4, 3) := by decide +kernel
theorem dX4_hasRoom_13 : decode cX4_hasRoom 13 = .ok (.iconst 0, 1) := by decide +kernel
theorem dX4_hasRoom_14 : decode cX4_hasRoom 14 = .ok (.ireturn, 1) := by decide +kernel
theorem dX4_holds_0 : decode cX4_holds 0 = .ok (.iload_n 3, 1) := by decide +kernel
theorem dX4_holds_1 : decode cX4_holds 1 = .ok (.iconst 1, 1) := by decide +kernel
theorem dX4_holds_2 : decode cX4_holds 2 = .ok (.if_icmp .lt 59, 3) := by decide +kernel
theorem dX4_holds_5 : decode cX4_holds 5 = .ok (.iload_n 3, 1) := by decide +kernel
theorem dX4_holds_6 : decode cX4_holds 6 = .ok (.aload_n 0, 1) := by decide +kernel
theorem dX4_holds_7 : decode cX4_holds 7 = .ok (.getfield 29, 3) := by decide +kernel
theorem dX4_holds_10 : decode cX4_holds 10 = .ok (.if_icmp .gt 51, 3) := by decide +kernel
theorem dX4_holds_13 : decode cX4_holds 13 = .ok (.iload_n 1, 1) := by decide +kernel
theorem dX4_holds_14 : decode cX4_holds 14 = .ok (.ifCond .lt 47, 3) := by decide +kernel
theorem dX4_holds_17 : decode cX4_holds 17 = .ok (.iload_n 1, 1) := by decide +kernel
theorem dX4_holds_18 : decode cX4_holds 18 = .ok (.aload_n 0, 1) := by decide +kernel
theorem dX4_holds_19 : decode cX4_holds 19 = .ok (.getfield 29, 3) := by decide +kernel
theorem dX4_holds_22 : decode cX4_holds 22 = .ok (.iload_n 3, 1) := by decide +kernel
theorem dX4_holds_23 : decode cX4_holds 23 = .ok (.isub, 1) := by decide +kernel
theorem dX4_holds_24 : decode cX4_holds 24 = .ok (.if_icmp .gt 37, 3) := by decide +kernel
theorem dX4_holds_27 : decode cX4_holds 27 = .ok (.iload 4, 2) := by decide +kernel
theorem dX4_holds_29 : decode cX4_holds 29 = .ok (.iconst 1, 1) := by decide +kernel
theorem dX4_holds_30 : decode cX4_holds 30 = .ok (.if_icmp .lt 31, 3) := by decide +kernel
theorem dX4_holds_33 : decode cX4_holds 33 = .ok (.iload 4, 2) := by decide +kernel
theorem dX4_holds_35 : decode cX4_holds 35 = .ok (.aload_n 0, 1) := by decide +kernel
theorem dX4_holds_36 : decode cX4_holds 36 = .ok (.getfield 33, 3) := by decide +kernel
theorem dX4_holds_39 : decode cX4_holds 39 = .ok (.if_icmp .gt 22, 3) := by decide +kernel
theorem dX4_holds_42 : decode cX4_holds 42 = .ok (.iload_n 2, 1) := by decide +kernel
theorem dX4_holds_43 : decode cX4_holds 43 = .ok (.ifCond .lt 18, 3) := by decide +kernel
theorem dX4_holds_46 : decode cX4_holds 46 = .ok (.iload_n 2, 1) := by decide +kernel
theorem dX4_holds_47 : decode cX4_holds 47 = .ok (.aload_n 0, 1) := by decide +kernel
theorem dX4_holds_48 : decode cX4_holds 48 = .ok (.getfield 33, 3) := by decide +kernel
theorem dX4_holds_51 : decode cX4_holds 51 = .ok (.iload 4, 2) := by decide +kernel
theorem dX4_holds_53 : decode cX4_holds 53 = .ok (.isub, 1) := by decide +kernel
theorem dX4_holds_54 : decode cX4_holds 54 = .ok (.if_icmp .gt 7, 3) := by decide +kernel
theorem dX4_holds_57 : decode cX4_holds 57 = .ok (.iconst 1, 1) := by decide +kernel
theorem dX4_holds_58 : decode cX4_holds 58 = .ok (.goto 4, 3) := by decide +kernel
theorem dX4_holds_61 : decode cX4_holds 61 = .ok (.iconst 0, 1) := by decide +kernel
theorem dX4_holds_62 : decode cX4_holds 62 = .ok (.ireturn, 1) := by decide +kernel
theorem dX4_givesTable_0 : decode cX4_givesTable 0 = .ok (.iload_n 1, 1) := by decide +kernel
theorem dX4_givesTable_1 : decode cX4_givesTable 1 = .ok (.ifCond .ne 13, 3) := by decide +kernel
theorem dX4_givesTable_4 : decode cX4_givesTable 4 = .ok (.aload_n 0, 1) := by decide +kernel
theorem dX4_givesTable_5 : decode cX4_givesTable 5 = .ok (.getfield 12, 3) := by decide +kernel
theorem dX4_givesTable_8 : decode cX4_givesTable 8 = .ok (.getfield 48, 3) := by decide +kernel
theorem dX4_givesTable_11 : decode cX4_givesTable 11 = .ok (.ifCond .eq 7, 3) := by decide +kernel
theorem dX4_givesTable_14 : decode cX4_givesTable 14 = .ok (.iconst 1, 1) := by decide +kernel
theorem dX4_givesTable_15 : decode cX4_givesTable 15 = .ok (.goto 4, 3) := by decide +kernel
theorem dX4_givesTable_18 : decode cX4_givesTable 18 = .ok (.iconst 0, 1) := by decide +kernel
theorem dX4_givesTable_19 : decode cX4_givesTable 19 = .ok (.ireturn, 1) := by decide +kernel
theorem dX4_frameAt_0 : decode cX4_frameAt 0 = .ok (.iload_n 1, 1) := by decide +kernel
theorem dX4_frameAt_1 : decode cX4_frameAt 1 = .ok (.ifCond .lt 20, 3) := by decide +kernel
theorem dX4_frameAt_4 : decode cX4_frameAt 4 = .ok (.iload_n 1, 1) := by decide +kernel
theorem dX4_frameAt_5 : decode cX4_frameAt 5 = .ok (.aload_n 0, 1) := by decide +kernel
theorem dX4_frameAt_6 : decode cX4_frameAt 6 = .ok (.getfield 42, 3) := by decide +kernel
theorem dX4_frameAt_9 : decode cX4_frameAt 9 = .ok (.if_icmp .ge 12, 3) := by decide +kernel
theorem dX4_frameAt_12 : decode cX4_frameAt 12 = .ok (.aload_n 0, 1) := by decide +kernel
theorem dX4_frameAt_13 : decode cX4_frameAt 13 = .ok (.getfield 20, 3) := by decide +kernel
theorem dX4_frameAt_16 : decode cX4_frameAt 16 = .ok (.iload_n 1, 1) := by decide +kernel
theorem dX4_frameAt_17 : decode cX4_frameAt 17 = .ok (.aaload, 1) := by decide +kernel
theorem dX4_frameAt_18 : decode cX4_frameAt 18 = .ok (.goto 4, 3) := by decide +kernel
theorem dX4_frameAt_21 : decode cX4_frameAt 21 = .ok (.aconst_null, 1) := by decide +kernel
theorem dX4_frameAt_22 : decode cX4_frameAt 22 = .ok (.areturn, 1) := by decide +kernel
theorem dX4_tableOf_0 : decode cX4_tableOf 0 = .ok (.aload_n 1, 1) := by decide +kernel
theorem dX4_tableOf_1 : decode cX4_tableOf 1 = .ok (.getfield 51, 3) := by decide +kernel
theorem dX4_tableOf_4 : decode cX4_tableOf 4 = .ok (.getfield 48, 3) := by decide +kernel
theorem dX4_tableOf_7 : decode cX4_tableOf 7 = .ok (.ifCond .eq 10, 3) := by decide +kernel
theorem dX4_tableOf_10 : decode cX4_tableOf 10 = .ok (.aload_n 1, 1) := by decide +kernel
theorem dX4_tableOf_11 : decode cX4_tableOf 11 = .ok (.getfield 51, 3) := by decide +kernel
theorem dX4_tableOf_14 : decode cX4_tableOf 14 = .ok (.goto 7, 3) := by decide +kernel
theorem dX4_tableOf_17 : decode cX4_tableOf 17 = .ok (.aload_n 0, 1) := by decide +kernel
theorem dX4_tableOf_18 : decode cX4_tableOf 18 = .ok (.getfield 12, 3) := by decide +kernel
theorem dX4_tableOf_21 : decode cX4_tableOf 21 = .ok (.areturn, 1) := by decide +kernel
theorem dX4_addFrame_0 : decode cX4_addFrame 0 = .ok (.aload_n 0, 1) := by decide +kernel
theorem dX4_addFrame_1 : decode cX4_addFrame 1 = .ok (.getfield 20, 3) := by decide +kernel
theorem dX4_addFrame_4 : decode cX4_addFrame 4 = .ok (.aload_n 0, 1) := by decide +kernel
theorem dX4_addFrame_5 : decode cX4_addFrame 5 = .ok (.getfield 42, 3) := by decide +kernel
theorem dX4_addFrame_8 : decode cX4_addFrame 8 = .ok (.aaload, 1) := by decide +kernel
theorem dX4_addFrame_9 : decode cX4_addFrame 9 = .ok (.astore 7, 2) := by decide +kernel
theorem dX4_addFrame_11 : decode cX4_addFrame 11 = .ok (.aload 7, 2) := by decide +kernel
theorem dX4_addFrame_13 : decode cX4_addFrame 13 = .ok (.iload_n 1, 1) := by decide +kernel
theorem dX4_addFrame_14 : decode cX4_addFrame 14 = .ok (.iload_n 2, 1) := by decide +kernel
theorem dX4_addFrame_15 : decode cX4_addFrame 15 = .ok (.iload_n 3, 1) := by decide +kernel
theorem dX4_addFrame_16 : decode cX4_addFrame 16 = .ok (.iload 4, 2) := by decide +kernel
theorem dX4_addFrame_18 : decode cX4_addFrame 18 = .ok (.invokevirtual 54, 3) := by decide +kernel
theorem dX4_addFrame_21 : decode cX4_addFrame 21 = .ok (.aload 7, 2) := by decide +kernel
theorem dX4_addFrame_23 : decode cX4_addFrame 23 = .ok (.getfield 51, 3) := by decide +kernel
theorem dX4_addFrame_26 : decode cX4_addFrame 26 = .ok (.iload 5, 2) := by decide +kernel
theorem dX4_addFrame_28 : decode cX4_addFrame 28 = .ok (.invokevirtual 45, 3) := by decide +kernel
theorem dX4_addFrame_31 : decode cX4_addFrame 31 = .ok (.aload 7, 2) := by decide +kernel
theorem dX4_addFrame_33 : decode cX4_addFrame 33 = .ok (.iload 6, 2) := by decide +kernel
theorem dX4_addFrame_35 : decode cX4_addFrame 35 = .ok (.putfield 57, 3) := by decide +kernel
theorem dX4_addFrame_38 : decode cX4_addFrame 38 = .ok (.aload_n 0, 1) := by decide +kernel
theorem dX4_addFrame_39 : decode cX4_addFrame 39 = .ok (.dup, 1) := by decide +kernel
theorem dX4_addFrame_40 : decode cX4_addFrame 40 = .ok (.getfield 42, 3) := by decide +kernel
theorem dX4_addFrame_43 : decode cX4_addFrame 43 = .ok (.iconst 1, 1) := by decide +kernel
theorem dX4_addFrame_44 : decode cX4_addFrame 44 = .ok (.iadd, 1) := by decide +kernel
theorem dX4_addFrame_45 : decode cX4_addFrame 45 = .ok (.putfield 42, 3) := by decide +kernel
theorem dX4_addFrame_48 : decode cX4_addFrame 48 = .ok (.aload 7, 2) := by decide +kernel
theorem dX4_addFrame_50 : decode cX4_addFrame 50 = .ok (.areturn, 1) := by decide +kernel
theorem dX4_colourAt_0 : decode cX4_colourAt 0 = .ok (.aload_n 0, 1) := by decide +kernel
theorem dX4_colourAt_1 : decode cX4_colourAt 1 = .ok (.getfield 12, 3) := by decide +kernel
theorem dX4_colourAt_4 : decode cX4_colourAt 4 = .ok (.aload_n 0, 1) := by decide +kernel
theorem dX4_colourAt_5 : decode cX4_colourAt 5 = .ok (.getfield 36, 3) := by decide +kernel
theorem dX4_colourAt_8 : decode cX4_colourAt 8 = .ok (.invokevirtual 61, 3) := by decide +kernel
theorem dX4_colourAt_11 : decode cX4_colourAt 11 = .ok (.ifCond .eq 18, 3) := by decide +kernel
theorem dX4_colourAt_14 : decode cX4_colourAt 14 = .ok (.aload_n 0, 1) := by decide +kernel
theorem dX4_colourAt_15 : decode cX4_colourAt 15 = .ok (.getfield 12, 3) := by decide +kernel
theorem dX4_colourAt_18 : decode cX4_colourAt 18 = .ok (.getfield 65, 3) := by decide +kernel
theorem dX4_colourAt_21 : decode cX4_colourAt 21 = .ok (.aload_n 0, 1) := by decide +kernel
theorem dX4_colourAt_22 : decode cX4_colourAt 22 = .ok (.getfield 36, 3) := by decide +kernel
theorem dX4_colourAt_25 : decode cX4_colourAt 25 = .ok (.iaload, 1) := by decide +kernel
theorem dX4_colourAt_26 : decode cX4_colourAt 26 = .ok (.goto 4, 3) := by decide +kernel
theorem dX4_colourAt_29 : decode cX4_colourAt 29 = .ok (.iconst (-1), 1) := by decide +kernel
theorem dX4_colourAt_30 : decode cX4_colourAt 30 = .ok (.istore 4, 2) := by decide +kernel
theorem dX4_colourAt_32 : decode cX4_colourAt 32 = .ok (.iload 4, 2) := by decide +kernel
theorem dX4_colourAt_34 : decode cX4_colourAt 34 = .ok (.istore 5, 2) := by decide +kernel
theorem dX4_colourAt_36 : decode cX4_colourAt 36 = .ok (.iconst 0, 1) := by decide +kernel
theorem dX4_colourAt_37 : decode cX4_colourAt 37 = .ok (.istore 6, 2) := by decide +kernel
theorem dX4_colourAt_39 : decode cX4_colourAt 39 = .ok (.iload 6, 2) := by decide +kernel
theorem dX4_colourAt_41 : decode cX4_colourAt 41 = .ok (.iload_n 1, 1) := by decide +kernel
theorem dX4_colourAt_42 : decode cX4_colourAt 42 = .ok (.if_icmp .ge 28, 3) := by decide +kernel
theorem dX4_colourAt_45 : decode cX4_colourAt 45 = .ok (.aload_n 0, 1) := by decide +kernel
theorem dX4_colourAt_46 : decode cX4_colourAt 46 = .ok (.aload_n 0, 1) := by decide +kernel
theorem dX4_colourAt_47 : decode cX4_colourAt 47 = .ok (.getfield 20, 3) := by decide +kernel
theorem dX4_colourAt_50 : decode cX4_colourAt 50 = .ok (.iload 6, 2) := by decide +kernel
theorem dX4_colourAt_52 : decode cX4_colourAt 52 = .ok (.aaload, 1) := by decide +kernel
theorem dX4_colourAt_53 : decode cX4_colourAt 53 = .ok (.iload_n 2, 1) := by decide +kernel
theorem dX4_colourAt_54 : decode cX4_colourAt 54 = .ok (.iload_n 3, 1) := by decide +kernel
theorem dX4_colourAt_55 : decode cX4_colourAt 55 = .ok (.iload 5, 2) := by decide +kernel
theorem dX4_colourAt_57 : decode cX4_colourAt 57 = .ok (.iload 4, 2) := by decide +kernel
theorem dX4_colourAt_59 : decode cX4_colourAt 59 = .ok (.invokevirtual 69, 3) := by decide +kernel
theorem dX4_colourAt_62 : decode cX4_colourAt 62 = .ok (.istore 5, 2) := by decide +kernel
theorem dX4_colourAt_64 : decode cX4_colourAt 64 = .ok (.iinc 6 1, 3) := by decide +kernel
theorem dX4_colourAt_67 : decode cX4_colourAt 67 = .ok (.goto (-28), 3) := by decide +kernel
theorem dX4_colourAt_70 : decode cX4_colourAt 70 = .ok (.aload_n 0, 1) := by decide +kernel
theorem dX4_colourAt_71 : decode cX4_colourAt 71 = .ok (.aload_n 0, 1) := by decide +kernel
theorem dX4_colourAt_72 : decode cX4_colourAt 72 = .ok (.getfield 20, 3) := by decide +kernel
theorem dX4_colourAt_75 : decode cX4_colourAt 75 = .ok (.iload_n 1, 1) := by decide +kernel
theorem dX4_colourAt_76 : decode cX4_colourAt 76 = .ok (.aaload, 1) := by decide +kernel
theorem dX4_colourAt_77 : decode cX4_colourAt 77 = .ok (.iload_n 2, 1) := by decide +kernel
theorem dX4_colourAt_78 : decode cX4_colourAt 78 = .ok (.iload_n 3, 1) := by decide +kernel
theorem dX4_colourAt_79 : decode cX4_colourAt 79 = .ok (.iload 5, 2) := by decide +kernel
theorem dX4_colourAt_81 : decode cX4_colourAt 81 = .ok (.invokevirtual 73, 3) := by decide +kernel
theorem dX4_colourAt_84 : decode cX4_colourAt 84 = .ok (.ireturn, 1) := by decide +kernel
theorem dX4_shown_0 : decode cX4_shown 0 = .ok (.aload_n 1, 1) := by decide +kernel
theorem dX4_shown_1 : decode cX4_shown 1 = .ok (.iload_n 2, 1) := by decide +kernel
theorem dX4_shown_2 : decode cX4_shown 2 = .ok (.iload_n 3, 1) := by decide +kernel
theorem dX4_shown_3 : decode cX4_shown 3 = .ok (.invokevirtual 77, 3) := by decide +kernel
theorem dX4_shown_6 : decode cX4_shown 6 = .ok (.ifCond .ne 6, 3) := by decide +kernel
theorem dX4_shown_9 : decode cX4_shown 9 = .ok (.iload 4, 2) := by decide +kernel
theorem dX4_shown_11 : decode cX4_shown 11 = .ok (.ireturn, 1) := by decide +kernel
theorem dX4_shown_12 : decode cX4_shown 12 = .ok (.aload_n 1, 1) := by decide +kernel
theorem dX4_shown_13 : decode cX4_shown 13 = .ok (.iload_n 2, 1) := by decide +kernel
theorem dX4_shown_14 : decode cX4_shown 14 = .ok (.iload_n 3, 1) := by decide +kernel
theorem dX4_shown_15 : decode cX4_shown 15 = .ok (.invokevirtual 81, 3) := by decide +kernel
theorem dX4_shown_18 : decode cX4_shown 18 = .ok (.istore 5, 2) := by decide +kernel
theorem dX4_shown_20 : decode cX4_shown 20 = .ok (.iload 5, 2) := by decide +kernel
theorem dX4_shown_22 : decode cX4_shown 22 = .ok (.aload_n 1, 1) := by decide +kernel
theorem dX4_shown_23 : decode cX4_shown 23 = .ok (.getfield 85, 3) := by decide +kernel
theorem dX4_shown_26 : decode cX4_shown 26 = .ok (.getfield 89, 3) := by decide +kernel
theorem dX4_shown_29 : decode cX4_shown 29 = .ok (.if_icmp .ne 8, 3) := by decide +kernel
theorem dX4_shown_32 : decode cX4_shown 32 = .ok (.iload 4, 2) := by decide +kernel
theorem dX4_shown_34 : decode cX4_shown 34 = .ok (.goto 14, 3) := by decide +kernel
theorem dX4_shown_37 : decode cX4_shown 37 = .ok (.aload_n 0, 1) := by decide +kernel
theorem dX4_shown_38 : decode cX4_shown 38 = .ok (.aload_n 1, 1) := by decide +kernel
theorem dX4_shown_39 : decode cX4_shown 39 = .ok (.invokevirtual 94, 3) := by decide +kernel
theorem dX4_shown_42 : decode cX4_shown 42 = .ok (.getfield 65, 3) := by decide +kernel
theorem dX4_shown_45 : decode cX4_shown 45 = .ok (.iload 5, 2) := by decide +kernel
theorem dX4_shown_47 : decode cX4_shown 47 = .ok (.iaload, 1) := by decide +kernel
theorem dX4_shown_48 : decode cX4_shown 48 = .ok (.ireturn, 1) := by decide +kernel
theorem dX4_leftBehind_0 : decode cX4_leftBehind 0 = .ok (.aload_n 1, 1) := by decide +kernel
theorem dX4_leftBehind_1 : decode cX4_leftBehind 1 = .ok (.iload_n 2, 1) := by decide +kernel
theorem dX4_leftBehind_2 : decode cX4_leftBehind 2 = .ok (.iload_n 3, 1) := by decide +kernel
theorem dX4_leftBehind_3 : decode cX4_leftBehind 3 = .ok (.invokevirtual 77, 3) := by decide +kernel
theorem dX4_leftBehind_6 : decode cX4_leftBehind 6 = .ok (.ifCond .eq 14, 3) := by decide +kernel
theorem dX4_leftBehind_9 : decode cX4_leftBehind 9 = .ok (.aload_n 1, 1) := by decide +kernel
theorem dX4_leftBehind_10 : decode cX4_leftBehind 10 = .ok (.getfield 85, 3) := by decide +kernel
theorem dX4_leftBehind_13 : decode cX4_leftBehind 13 = .ok (.getfield 98, 3) := by decide +kernel
theorem dX4_leftBehind_16 : decode cX4_leftBehind 16 = .ok (.iconst 3, 1) := by decide +kernel
theorem dX4_leftBehind_17 : decode cX4_leftBehind 17 = .ok (.if_icmp .ne 6, 3) := by decide +kernel
theorem dX4_leftBehind_20 : decode cX4_leftBehind 20 = .ok (.iload 4, 2) := by decide +kernel
theorem dX4_leftBehind_22 : decode cX4_leftBehind 22 = .ok (.ireturn, 1) := by decide +kernel
theorem dX4_leftBehind_23 : decode cX4_leftBehind 23 = .ok (.aload_n 1, 1) := by decide +kernel
theorem dX4_leftBehind_24 : decode cX4_leftBehind 24 = .ok (.getfield 85, 3) := by decide +kernel
theorem dX4_leftBehind_27 : decode cX4_leftBehind 27 = .ok (.getfield 98, 3) := by decide +kernel
theorem dX4_leftBehind_30 : decode cX4_leftBehind 30 = .ok (.iconst 2, 1) := by decide +kernel
theorem dX4_leftBehind_31 : decode cX4_leftBehind 31 = .ok (.if_icmp .ne 8, 3) := by decide +kernel
theorem dX4_leftBehind_34 : decode cX4_leftBehind 34 = .ok (.iload 5, 2) := by decide +kernel
theorem dX4_leftBehind_36 : decode cX4_leftBehind 36 = .ok (.goto 12, 3) := by decide +kernel
theorem dX4_leftBehind_39 : decode cX4_leftBehind 39 = .ok (.aload_n 0, 1) := by decide +kernel
theorem dX4_leftBehind_40 : decode cX4_leftBehind 40 = .ok (.aload_n 1, 1) := by decide +kernel
theorem dX4_leftBehind_41 : decode cX4_leftBehind 41 = .ok (.iload_n 2, 1) := by decide +kernel
theorem dX4_leftBehind_42 : decode cX4_leftBehind 42 = .ok (.iload_n 3, 1) := by decide +kernel
theorem dX4_leftBehind_43 : decode cX4_leftBehind 43 = .ok (.iload 4, 2) := by decide +kernel
theorem dX4_leftBehind_45 : decode cX4_leftBehind 45 = .ok (.invokevirtual 73, 3) := by decide +kernel
theorem dX4_leftBehind_48 : decode cX4_leftBehind 48 = .ok (.ireturn, 1) := by decide +kernel
theorem dX5_init_0 : decode cX5_init 0 = .ok (.aload_n 0, 1) := by decide +kernel
theorem dX5_init_1 : decode cX5_init 1 = .ok (.invokespecial 3, 3) := by decide +kernel
theorem dX5_init_4 : decode cX5_init 4 = .ok (.aload_n 0, 1) := by decide +kernel
theorem dX5_init_5 : decode cX5_init 5 = .ok (.new 9, 3) := by decide +kernel
theorem dX5_init_8 : decode cX5_init 8 = .ok (.dup, 1) := by decide +kernel
theorem dX5_init_9 : decode cX5_init 9 = .ok (.invokespecial 11, 3) := by decide +kernel
theorem dX5_init_12 : decode cX5_init 12 = .ok (.putfield 12, 3) := by decide +kernel
theorem dX5_init_15 : decode cX5_init 15 = .ok (.aload_n 0, 1) := by decide +kernel
theorem dX5_init_16 : decode cX5_init 16 = .ok (.new 18, 3) := by decide +kernel
theorem dX5_init_19 : decode cX5_init 19 = .ok (.dup, 1) := by decide +kernel
theorem dX5_init_20 : decode cX5_init 20 = .ok (.invokespecial 20, 3) := by decide +kernel
theorem dX5_init_23 : decode cX5_init 23 = .ok (.putfield 21, 3) := by decide +kernel
theorem dX5_init_26 : decode cX5_init 26 = .ok (.aload_n 0, 1) := by decide +kernel
theorem dX5_init_27 : decode cX5_init 27 = .ok (.new 25, 3) := by decide +kernel
theorem dX5_init_30 : decode cX5_init 30 = .ok (.dup, 1) := by decide +kernel
theorem dX5_init_31 : decode cX5_init 31 = .ok (.invokespecial 27, 3) := by decide +kernel
theorem dX5_init_34 : decode cX5_init 34 = .ok (.putfield 28, 3) := by decide +kernel
theorem dX5_init_37 : decode cX5_init 37 = .ok (.aload_n 0, 1) := by decide +kernel
end
section
theorem dX5_init_38 : decode cX5_init 38 = .ok (.new 32, 3) := by decide +kernel
theorem dX5_init_41 : decode cX5_init 41 = .ok (.dup, 1) := by decide +kernel
theorem dX5_init_42 : decode cX5_init 42 = .ok (.invokespecial 34, 3) := by decide +kernel
theorem dX5_init_45 : decode cX5_init 45 = .ok (.putfield 35, 3) := by decide +kernel
theorem dX5_init_48 : decode cX5_init 48 = .ok (.aload_n 0, 1) := by decide +kernel
theorem dX5_init_49 : decode cX5_init 49 = .ok (.iconst 0, 1) := by decide +kernel
theorem dX5_init_50 : decode cX5_init 50 = .ok (.putfield 39, 3) := by decide +kernel
theorem dX5_init_53 : decode cX5_init 53 = .ok (.aload_n 0, 1) := by decide +kernel
theorem dX5_init_54 : decode cX5_init 54 = .ok (.iconst (-1), 1) := by decide +kernel
theorem dX5_init_55 : decode cX5_init 55 = .ok (.putfield 43, 3) := by decide +kernel
theorem dX5_init_58 : decode cX5_init 58 = .ok (.return_, 1) := by decide +kernel
theorem dX5_exchange_0 : decode cX5_exchange 0 = .ok (.aload_n 0, 1) := by decide +kernel
theorem dX5_exchange_1 : decode cX5_exchange 1 = .ok (.getfield 35, 3) := by decide +kernel
theorem dX5_exchange_4 : decode cX5_exchange 4 = .ok (.astore_n 2, 1) := by decide +kernel
theorem dX5_exchange_5 : decode cX5_exchange 5 = .ok (.aload_n 0, 1) := by decide +kernel
theorem dX5_exchange_6 : decode cX5_exchange 6 = .ok (.aload_n 1, 1) := by decide +kernel
theorem dX5_exchange_7 : decode cX5_exchange 7 = .ok (.putfield 35, 3) := by decide +kernel
theorem dX5_exchange_10 : decode cX5_exchange 10 = .ok (.aload_n 2, 1) := by decide +kernel
theorem dX5_exchange_11 : decode cX5_exchange 11 = .ok (.areturn, 1) := by decide +kernel
theorem dX5_parse_0 : decode cX5_parse 0 = .ok (.aload_n 0, 1) := by decide +kernel
theorem dX5_parse_1 : decode cX5_parse 1 = .ok (.iload_n 1, 1) := by decide +kernel
theorem dX5_parse_2 : decode cX5_parse 2 = .ok (.aload_n 0, 1) := by decide +kernel
theorem dX5_parse_3 : decode cX5_parse 3 = .ok (.getfield 12, 3) := by decide +kernel
theorem dX5_parse_6 : decode cX5_parse 6 = .ok (.getfield 46, 3) := by decide +kernel
theorem dX5_parse_9 : decode cX5_parse 9 = .ok (.invokestatic 49, 3) := by decide +kernel
theorem dX5_parse_12 : decode cX5_parse 12 = .ok (.putfield 55, 3) := by decide +kernel
theorem dX5_parse_15 : decode cX5_parse 15 = .ok (.aload_n 0, 1) := by decide +kernel
theorem dX5_parse_16 : decode cX5_parse 16 = .ok (.iconst 0, 1) := by decide +kernel
theorem dX5_parse_17 : decode cX5_parse 17 = .ok (.putfield 58, 3) := by decide +kernel
theorem dX5_parse_20 : decode cX5_parse 20 = .ok (.aload_n 0, 1) := by decide +kernel
theorem dX5_parse_21 : decode cX5_parse 21 = .ok (.iconst 0, 1) := by decide +kernel
theorem dX5_parse_22 : decode cX5_parse 22 = .ok (.putfield 61, 3) := by decide +kernel
theorem dX5_parse_25 : decode cX5_parse 25 = .ok (.aload_n 0, 1) := by decide +kernel
theorem dX5_parse_26 : decode cX5_parse 26 = .ok (.iconst 0, 1) := by decide +kernel
theorem dX5_parse_27 : decode cX5_parse 27 = .ok (.putfield 65, 3) := by decide +kernel
theorem dX5_parse_30 : decode cX5_parse 30 = .ok (.aload_n 0, 1) := by decide +kernel
theorem dX5_parse_31 : decode cX5_parse 31 = .ok (.iconst 0, 1) := by decide +kernel
theorem dX5_parse_32 : decode cX5_parse 32 = .ok (.putfield 39, 3) := by decide +kernel
theorem dX5_parse_35 : decode cX5_parse 35 = .ok (.aload_n 0, 1) := by decide +kernel
theorem dX5_parse_36 : decode cX5_parse 36 = .ok (.iconst (-1), 1) := by decide +kernel
theorem dX5_parse_37 : decode cX5_parse 37 = .ok (.putfield 43, 3) := by decide +kernel
theorem dX5_parse_40 : decode cX5_parse 40 = .ok (.aload_n 0, 1) := by decide +kernel
theorem dX5_parse_41 : decode cX5_parse 41 = .ok (.invokevirtual 68, 3) := by decide +kernel
theorem dX5_parse_44 : decode cX5_parse 44 = .ok (.aload_n 0, 1) := by decide +kernel
theorem dX5_parse_45 : decode cX5_parse 45 = .ok (.invokevirtual 71, 3) := by decide +kernel
theorem dX5_parse_48 : decode cX5_parse 48 = .ok (.aload_n 0, 1) := by decide +kernel
theorem dX5_parse_49 : decode cX5_parse 49 = .ok (.invokevirtual 74, 3) := by decide +kernel
theorem dX5_parse_52 : decode cX5_parse 52 = .ok (.iconst 0, 1) := by decide +kernel
theorem dX5_parse_53 : decode cX5_parse 53 = .ok (.istore_n 2, 1) := by decide +kernel
theorem dX5_parse_54 : decode cX5_parse 54 = .ok (.iload_n 2, 1) := by decide +kernel
theorem dX5_parse_55 : decode cX5_parse 55 = .ok (.aload_n 0, 1) := by decide +kernel
theorem dX5_parse_56 : decode cX5_parse 56 = .ok (.getfield 55, 3) := by decide +kernel
theorem dX5_parse_59 : decode cX5_parse 59 = .ok (.if_icmp .gt 27, 3) := by decide +kernel
theorem dX5_parse_62 : decode cX5_parse 62 = .ok (.aload_n 0, 1) := by decide +kernel
theorem dX5_parse_63 : decode cX5_parse 63 = .ok (.getfield 39, 3) := by decide +kernel
theorem dX5_parse_66 : decode cX5_parse 66 = .ok (.ifCond .ne 20, 3) := by decide +kernel
theorem dX5_parse_69 : decode cX5_parse 69 = .ok (.aload_n 0, 1) := by decide +kernel
theorem dX5_parse_70 : decode cX5_parse 70 = .ok (.getfield 65, 3) := by decide +kernel
theorem dX5_parse_73 : decode cX5_parse 73 = .ok (.ifCond .ne 13, 3) := by decide +kernel
theorem dX5_parse_76 : decode cX5_parse 76 = .ok (.aload_n 0, 1) := by decide +kernel
theorem dX5_parse_77 : decode cX5_parse 77 = .ok (.invokevirtual 77, 3) := by decide +kernel
theorem dX5_parse_80 : decode cX5_parse 80 = .ok (.iinc 2 1, 3) := by decide +kernel
theorem dX5_parse_83 : decode cX5_parse 83 = .ok (.goto (-29), 3) := by decide +kernel
theorem dX5_parse_86 : decode cX5_parse 86 = .ok (.return_, 1) := by decide +kernel
theorem dX5_refuse_0 : decode cX5_refuse 0 = .ok (.aload_n 0, 1) := by decide +kernel
theorem dX5_refuse_1 : decode cX5_refuse 1 = .ok (.getfield 39, 3) := by decide +kernel
theorem dX5_refuse_4 : decode cX5_refuse 4 = .ok (.ifCond .ne 13, 3) := by decide +kernel
theorem dX5_refuse_7 : decode cX5_refuse 7 = .ok (.aload_n 0, 1) := by decide +kernel
theorem dX5_refuse_8 : decode cX5_refuse 8 = .ok (.iload_n 1, 1) := by decide +kernel
theorem dX5_refuse_9 : decode cX5_refuse 9 = .ok (.putfield 39, 3) := by decide +kernel
theorem dX5_refuse_12 : decode cX5_refuse 12 = .ok (.aload_n 0, 1) := by decide +kernel
theorem dX5_refuse_13 : decode cX5_refuse 13 = .ok (.iload_n 2, 1) := by decide +kernel
theorem dX5_refuse_14 : decode cX5_refuse 14 = .ok (.putfield 43, 3) := by decide +kernel
theorem dX5_refuse_17 : decode cX5_refuse 17 = .ok (.return_, 1) := by decide +kernel
theorem dX5_nextByte_0 : decode cX5_nextByte 0 = .ok (.aload_n 0, 1) := by decide +kernel
theorem dX5_nextByte_1 : decode cX5_nextByte 1 = .ok (.getfield 58, 3) := by decide +kernel
theorem dX5_nextByte_4 : decode cX5_nextByte 4 = .ok (.aload_n 0, 1) := by decide +kernel
theorem dX5_nextByte_5 : decode cX5_nextByte 5 = .ok (.getfield 55, 3) := by decide +kernel
theorem dX5_nextByte_8 : decode cX5_nextByte 8 = .ok (.if_icmp .lt 12, 3) := by decide +kernel
theorem dX5_nextByte_11 : decode cX5_nextByte 11 = .ok (.aload_n 0, 1) := by decide +kernel
theorem dX5_nextByte_12 : decode cX5_nextByte 12 = .ok (.iconst 2, 1) := by decide +kernel
theorem dX5_nextByte_13 : decode cX5_nextByte 13 = .ok (.aload_n 0, 1) := by decide +kernel
theorem dX5_nextByte_14 : decode cX5_nextByte 14 = .ok (.getfield 55, 3) := by decide +kernel
theorem dX5_nextByte_17 : decode cX5_nextByte 17 = .ok (.invokevirtual 80, 3) := by decide +kernel
theorem dX5_nextByte_20 : decode cX5_nextByte 20 = .ok (.aload_n 0, 1) := by decide +kernel
theorem dX5_nextByte_21 : decode cX5_nextByte 21 = .ok (.getfield 39, 3) := by decide +kernel
theorem dX5_nextByte_24 : decode cX5_nextByte 24 = .ok (.ifCond .eq 5, 3) := by decide +kernel
theorem dX5_nextByte_27 : decode cX5_nextByte 27 = .ok (.iconst 0, 1) := by decide +kernel
theorem dX5_nextByte_28 : decode cX5_nextByte 28 = .ok (.ireturn, 1) := by decide +kernel
theorem dX5_nextByte_29 : decode cX5_nextByte 29 = .ok (.aload_n 0, 1) := by decide +kernel
theorem dX5_nextByte_30 : decode cX5_nextByte 30 = .ok (.dup, 1) := by decide +kernel
theorem dX5_nextByte_31 : decode cX5_nextByte 31 = .ok (.getfield 58, 3) := by decide +kernel
theorem dX5_nextByte_34 : decode cX5_nextByte 34 = .ok (.iconst 1, 1) := by decide +kernel
theorem dX5_nextByte_35 : decode cX5_nextByte 35 = .ok (.iadd, 1) := by decide +kernel
theorem dX5_nextByte_36 : decode cX5_nextByte 36 = .ok (.putfield 58, 3) := by decide +kernel
theorem dX5_nextByte_39 : decode cX5_nextByte 39 = .ok (.aload_n 0, 1) := by decide +kernel
theorem dX5_nextByte_40 : decode cX5_nextByte 40 = .ok (.getfield 12, 3) := by decide +kernel
theorem dX5_nextByte_43 : decode cX5_nextByte 43 = .ok (.aload_n 0, 1) := by decide +kernel
theorem dX5_nextByte_44 : decode cX5_nextByte 44 = .ok (.getfield 58, 3) := by decide +kernel
theorem dX5_nextByte_47 : decode cX5_nextByte 47 = .ok (.iconst 1, 1) := by decide +kernel
theorem dX5_nextByte_48 : decode cX5_nextByte 48 = .ok (.isub, 1) := by decide +kernel
theorem dX5_nextByte_49 : decode cX5_nextByte 49 = .ok (.invokevirtual 84, 3) := by decide +kernel
theorem dX5_nextByte_52 : decode cX5_nextByte 52 = .ok (.ireturn, 1) := by decide +kernel
theorem dX5_nextNumber_0 : decode cX5_nextNumber 0 = .ok (.aload_n 0, 1) := by decide +kernel
theorem dX5_nextNumber_1 : decode cX5_nextNumber 1 = .ok (.invokevirtual 87, 3) := by decide +kernel
theorem dX5_nextNumber_4 : decode cX5_nextNumber 4 = .ok (.istore_n 1, 1) := by decide +kernel
theorem dX5_nextNumber_5 : decode cX5_nextNumber 5 = .ok (.iload_n 1, 1) := by decide +kernel
theorem dX5_nextNumber_6 : decode cX5_nextNumber 6 = .ok (.aload_n 0, 1) := by decide +kernel
theorem dX5_nextNumber_7 : decode cX5_nextNumber 7 = .ok (.invokevirtual 87, 3) := by decide +kernel
theorem dX5_nextNumber_10 : decode cX5_nextNumber 10 = .ok (.bipush 8, 2) := by decide +kernel
theorem dX5_nextNumber_12 : decode cX5_nextNumber 12 = .ok (.ishl, 1) := by decide +kernel
theorem dX5_nextNumber_13 : decode cX5_nextNumber 13 = .ok (.iadd, 1) := by decide +kernel
theorem dX5_nextNumber_14 : decode cX5_nextNumber 14 = .ok (.ireturn, 1) := by decide +kernel
theorem dX5_skip_0 : decode cX5_skip 0 = .ok (.iconst 0, 1) := by decide +kernel
theorem dX5_skip_1 : decode cX5_skip 1 = .ok (.istore_n 2, 1) := by decide +kernel
theorem dX5_skip_2 : decode cX5_skip 2 = .ok (.iload_n 2, 1) := by decide +kernel
theorem dX5_skip_3 : decode cX5_skip 3 = .ok (.iload_n 1, 1) := by decide +kernel
theorem dX5_skip_4 : decode cX5_skip 4 = .ok (.if_icmp .ge 14, 3) := by decide +kernel
theorem dX5_skip_7 : decode cX5_skip 7 = .ok (.aload_n 0, 1) := by decide +kernel
theorem dX5_skip_8 : decode cX5_skip 8 = .ok (.invokevirtual 87, 3) := by decide +kernel
theorem dX5_skip_11 : decode cX5_skip 11 = .ok (.pop, 1) := by decide +kernel
theorem dX5_skip_12 : decode cX5_skip 12 = .ok (.iinc 2 1, 3) := by decide +kernel
theorem dX5_skip_15 : decode cX5_skip 15 = .ok (.goto (-13), 3) := by decide +kernel
theorem dX5_skip_18 : decode cX5_skip 18 = .ok (.return_, 1) := by decide +kernel
theorem dX5_expect_0 : decode cX5_expect 0 = .ok (.aload_n 0, 1) := by decide +kernel
theorem dX5_expect_1 : decode cX5_expect 1 = .ok (.getfield 58, 3) := by decide +kernel
theorem dX5_expect_4 : decode cX5_expect 4 = .ok (.istore_n 2, 1) := by decide +kernel
theorem dX5_expect_5 : decode cX5_expect 5 = .ok (.aload_n 0, 1) := by decide +kernel
theorem dX5_expect_6 : decode cX5_expect 6 = .ok (.invokevirtual 87, 3) := by decide +kernel
theorem dX5_expect_9 : decode cX5_expect 9 = .ok (.iload_n 1, 1) := by decide +kernel
theorem dX5_expect_10 : decode cX5_expect 10 = .ok (.if_icmp .eq 9, 3) := by decide +kernel
theorem dX5_expect_13 : decode cX5_expect 13 = .ok (.aload_n 0, 1) := by decide +kernel
theorem dX5_expect_14 : decode cX5_expect 14 = .ok (.iconst 5, 1) := by decide +kernel
theorem dX5_expect_15 : decode cX5_expect 15 = .ok (.iload_n 2, 1) := by decide +kernel
theorem dX5_expect_16 : decode cX5_expect 16 = .ok (.invokevirtual 80, 3) := by decide +kernel
theorem dX5_expect_19 : decode cX5_expect 19 = .ok (.return_, 1) := by decide +kernel
theorem dX5_parseStart_0 : decode cX5_parseStart 0 = .ok (.iconst 0, 1) := by decide +kernel
theorem dX5_parseStart_1 : decode cX5_parseStart 1 = .ok (.istore_n 1, 1) := by decide +kernel
theorem dX5_parseStart_2 : decode cX5_parseStart 2 = .ok (.iload_n 1, 1) := by decide +kernel
theorem dX5_parseStart_3 : decode cX5_parseStart 3 = .ok (.bipush 6, 2) := by decide +kernel
theorem dX5_parseStart_5 : decode cX5_parseStart 5 = .ok (.if_icmp .ge 70, 3) := by decide +kernel
theorem dX5_parseStart_8 : decode cX5_parseStart 8 = .ok (.aload_n 0, 1) := by decide +kernel
theorem dX5_parseStart_9 : decode cX5_parseStart 9 = .ok (.invokevirtual 87, 3) := by decide +kernel
theorem dX5_parseStart_12 : decode cX5_parseStart 12 = .ok (.istore_n 2, 1) := by decide +kernel
theorem dX5_parseStart_13 : decode cX5_parseStart 13 = .ok (.iload_n 1, 1) := by decide +kernel
theorem dX5_parseStart_14 : decode cX5_parseStart 14 = .ok (.iconst 4, 1) := by decide +kernel
theorem dX5_parseStart_15 : decode cX5_parseStart 15 = .ok (.if_icmp .ne 13, 3) := by decide +kernel
theorem dX5_parseStart_18 : decode cX5_parseStart 18 = .ok (.iload_n 2, 1) := by decide +kernel
theorem dX5_parseStart_19 : decode cX5_parseStart 19 = .ok (.bipush 55, 2) := by decide +kernel
theorem dX5_parseStart_21 : decode cX5_parseStart 21 = .ok (.if_icmp .ne 7, 3) := by decide +kernel
theorem dX5_parseStart_24 : decode cX5_parseStart 24 = .ok (.iconst 1, 1) := by decide +kernel
theorem dX5_parseStart_25 : decode cX5_parseStart 25 = .ok (.goto 4, 3) := by decide +kernel
theorem dX5_parseStart_28 : decode cX5_parseStart 28 = .ok (.iconst 0, 1) := by decide +kernel
theorem dX5_parseStart_29 : decode cX5_parseStart 29 = .ok (.istore_n 3, 1) := by decide +kernel
theorem dX5_parseStart_30 : decode cX5_parseStart 30 = .ok (.iload_n 2, 1) := by decide +kernel
theorem dX5_parseStart_31 : decode cX5_parseStart 31 = .ok (.getstatic 91, 3) := by decide +kernel
theorem dX5_parseStart_34 : decode cX5_parseStart 34 = .ok (.iload_n 1, 1) := by decide +kernel
theorem dX5_parseStart_35 : decode cX5_parseStart 35 = .ok (.iaload, 1) := by decide +kernel
theorem dX5_parseStart_36 : decode cX5_parseStart 36 = .ok (.if_icmp .eq 13, 3) := by decide +kernel
theorem dX5_parseStart_39 : decode cX5_parseStart 39 = .ok (.iload_n 3, 1) := by decide +kernel
theorem dX5_parseStart_40 : decode cX5_parseStart 40 = .ok (.ifCond .ne 9, 3) := by decide +kernel
theorem dX5_parseStart_43 : decode cX5_parseStart 43 = .ok (.aload_n 0, 1) := by decide +kernel
theorem dX5_parseStart_44 : decode cX5_parseStart 44 = .ok (.iconst 1, 1) := by decide +kernel
theorem dX5_parseStart_45 : decode cX5_parseStart 45 = .ok (.iconst 0, 1) := by decide +kernel
theorem dX5_parseStart_46 : decode cX5_parseStart 46 = .ok (.invokevirtual 80, 3) := by decide +kernel
theorem dX5_parseStart_49 : decode cX5_parseStart 49 = .ok (.aload_n 0, 1) := by decide +kernel
theorem dX5_parseStart_50 : decode cX5_parseStart 50 = .ok (.aload_n 0, 1) := by decide +kernel
theorem dX5_parseStart_51 : decode cX5_parseStart 51 = .ok (.getfield 61, 3) := by decide +kernel
theorem dX5_parseStart_54 : decode cX5_parseStart 54 = .ok (.ifCond .ne 7, 3) := by decide +kernel
theorem dX5_parseStart_57 : decode cX5_parseStart 57 = .ok (.iload_n 3, 1) := by decide +kernel
theorem dX5_parseStart_58 : decode cX5_parseStart 58 = .ok (.ifCond .eq 7, 3) := by decide +kernel
theorem dX5_parseStart_61 : decode cX5_parseStart 61 = .ok (.iconst 1, 1) := by decide +kernel
theorem dX5_parseStart_62 : decode cX5_parseStart 62 = .ok (.goto 4, 3) := by decide +kernel
theorem dX5_parseStart_65 : decode cX5_parseStart 65 = .ok (.iconst 0, 1) := by decide +kernel
theorem dX5_parseStart_66 : decode cX5_parseStart 66 = .ok (.putfield 61, 3) := by decide +kernel
theorem dX5_parseStart_69 : decode cX5_parseStart 69 = .ok (.iinc 1 1, 3) := by decide +kernel
theorem dX5_parseStart_72 : decode cX5_parseStart 72 = .ok (.goto (-70), 3) := by decide +kernel
theorem dX5_parseStart_75 : decode cX5_parseStart 75 = .ok (.return_, 1) := by decide +kernel
theorem dX5_parseScreen_0 : decode cX5_parseScreen 0 = .ok (.aload_n 0, 1) := by decide +kernel
theorem dX5_parseScreen_1 : decode cX5_parseScreen 1 = .ok (.invokevirtual 97, 3) := by decide +kernel
theorem dX5_parseScreen_4 : decode cX5_parseScreen 4 = .ok (.istore_n 1, 1) := by decide +kernel
theorem dX5_parseScreen_5 : decode cX5_parseScreen 5 = .ok (.iload_n 1, 1) := by decide +kernel
theorem dX5_parseScreen_6 : decode cX5_parseScreen 6 = .ok (.invokestatic 100, 3) := by decide +kernel
theorem dX5_parseScreen_9 : decode cX5_parseScreen 9 = .ok (.ifCond .ne 10, 3) := by decide +kernel
theorem dX5_parseScreen_12 : decode cX5_parseScreen 12 = .ok (.aload_n 0, 1) := by decide +kernel
theorem dX5_parseScreen_13 : decode cX5_parseScreen 13 = .ok (.iconst 3, 1) := by decide +kernel
theorem dX5_parseScreen_14 : decode cX5_parseScreen 14 = .ok (.bipush 6, 2) := by decide +kernel
theorem dX5_parseScreen_16 : decode cX5_parseScreen 16 = .ok (.invokevirtual 80, 3) := by decide +kernel
theorem dX5_parseScreen_19 : decode cX5_parseScreen 19 = .ok (.aload_n 0, 1) := by decide +kernel
theorem dX5_parseScreen_20 : decode cX5_parseScreen 20 = .ok (.invokevirtual 97, 3) := by decide +kernel
theorem dX5_parseScreen_23 : decode cX5_parseScreen 23 = .ok (.istore_n 2, 1) := by decide +kernel
theorem dX5_parseScreen_24 : decode cX5_parseScreen 24 = .ok (.iload_n 2, 1) := by decide +kernel
theorem dX5_parseScreen_25 : decode cX5_parseScreen 25 = .ok (.invokestatic 100, 3) := by decide +kernel
theorem dX5_parseScreen_28 : decode cX5_parseScreen 28 = .ok (.ifCond .ne 10, 3) := by decide +kernel
theorem dX5_parseScreen_31 : decode cX5_parseScreen 31 = .ok (.aload_n 0, 1) := by decide +kernel
theorem dX5_parseScreen_32 : decode cX5_parseScreen 32 = .ok (.iconst 3, 1) := by decide +kernel
theorem dX5_parseScreen_33 : decode cX5_parseScreen 33 = .ok (.bipush 8, 2) := by decide +kernel
theorem dX5_parseScreen_35 : decode cX5_parseScreen 35 = .ok (.invokevirtual 80, 3) := by decide +kernel
theorem dX5_parseScreen_38 : decode cX5_parseScreen 38 = .ok (.aload_n 0, 1) := by decide +kernel
theorem dX5_parseScreen_39 : decode cX5_parseScreen 39 = .ok (.invokevirtual 87, 3) := by decide +kernel
theorem dX5_parseScreen_42 : decode cX5_parseScreen 42 = .ok (.istore_n 3, 1) := by decide +kernel
theorem dX5_parseScreen_43 : decode cX5_parseScreen 43 = .ok (.aload_n 0, 1) := by decide +kernel
theorem dX5_parseScreen_44 : decode cX5_parseScreen 44 = .ok (.invokevirtual 87, 3) := by decide +kernel
theorem dX5_parseScreen_47 : decode cX5_parseScreen 47 = .ok (.istore 4, 2) := by decide +kernel
theorem dX5_parseScreen_49 : decode cX5_parseScreen 49 = .ok (.aload_n 0, 1) := by decide +kernel
theorem dX5_parseScreen_50 : decode cX5_parseScreen 50 = .ok (.invokevirtual 87, 3) := by decide +kernel
theorem dX5_parseScreen_53 : decode cX5_parseScreen 53 = .ok (.istore 5, 2) := by decide +kernel
theorem dX5_parseScreen_55 : decode cX5_parseScreen 55 = .ok (.aload_n 0, 1) := by decide +kernel
theorem dX5_parseScreen_56 : decode cX5_parseScreen 56 = .ok (.getfield 39, 3) := by decide +kernel
theorem dX5_parseScreen_59 : decode cX5_parseScreen 59 = .ok (.ifCond .ne 31, 3) := by decide +kernel
theorem dX5_parseScreen_62 : decode cX5_parseScreen 62 = .ok (.aload_n 0, 1) := by decide +kernel
theorem dX5_parseScreen_63 : decode cX5_parseScreen 63 = .ok (.getfield 35, 3) := by decide +kernel
theorem dX5_parseScreen_66 : decode cX5_parseScreen 66 = .ok (.iload_n 1, 1) := by decide +kernel
theorem dX5_parseScreen_67 : decode cX5_parseScreen 67 = .ok (.iload_n 2, 1) := by decide +kernel
theorem dX5_parseScreen_68 : decode cX5_parseScreen 68 = .ok (.iload_n 3, 1) := by decide +kernel
theorem dX5_parseScreen_69 : decode cX5_parseScreen 69 = .ok (.invokestatic 104, 3) := by decide +kernel
theorem dX5_parseScreen_72 : decode cX5_parseScreen 72 = .ok (.iload 4, 2) := by decide +kernel
theorem dX5_parseScreen_74 : decode cX5_parseScreen 74 = .ok (.iload 5, 2) := by decide +kernel
theorem dX5_parseScreen_76 : decode cX5_parseScreen 76 = .ok (.invokevirtual 109, 3) := by decide +kernel
theorem dX5_parseScreen_79 : decode cX5_parseScreen 79 = .ok (.aload_n 0, 1) := by decide +kernel
theorem dX5_parseScreen_80 : decode cX5_parseScreen 80 = .ok (.aload_n 0, 1) := by decide +kernel
theorem dX5_parseScreen_81 : decode cX5_parseScreen 81 = .ok (.getfield 35, 3) := by decide +kernel
theorem dX5_parseScreen_84 : decode cX5_parseScreen 84 = .ok (.getfield 113, 3) := by decide +kernel
theorem dX5_parseScreen_87 : decode cX5_parseScreen 87 = .ok (.invokevirtual 117, 3) := by decide +kernel
theorem dX5_parseScreen_90 : decode cX5_parseScreen 90 = .ok (.return_, 1) := by decide +kernel
theorem dX5_parseTable_0 : decode cX5_parseTable 0 = .ok (.iconst 0, 1) := by decide +kernel
theorem dX5_parseTable_1 : decode cX5_parseTable 1 = .ok (.istore_n 2, 1) := by decide +kernel
theorem dX5_parseTable_2 : decode cX5_parseTable 2 = .ok (.iload_n 2, 1) := by decide +kernel
theorem dX5_parseTable_3 : decode cX5_parseTable 3 = .ok (.aload_n 1, 1) := by decide +kernel
theorem dX5_parseTable_4 : decode cX5_parseTable 4 = .ok (.getfield 121, 3) := by decide +kernel
theorem dX5_parseTable_7 : decode cX5_parseTable 7 = .ok (.if_icmp .ge 45, 3) := by decide +kernel
theorem dX5_parseTable_10 : decode cX5_parseTable 10 = .ok (.aload_n 0, 1) := by decide +kernel
theorem dX5_parseTable_11 : decode cX5_parseTable 11 = .ok (.invokevirtual 87, 3) := by decide +kernel
theorem dX5_parseTable_14 : decode cX5_parseTable 14 = .ok (.istore_n 3, 1) := by decide +kernel
theorem dX5_parseTable_15 : decode cX5_parseTable 15 = .ok (.aload_n 0, 1) := by decide +kernel
theorem dX5_parseTable_16 : decode cX5_parseTable 16 = .ok (.invokevirtual 87, 3) := by decide +kernel
theorem dX5_parseTable_19 : decode cX5_parseTable 19 = .ok (.istore 4, 2) := by decide +kernel
theorem dX5_parseTable_21 : decode cX5_parseTable 21 = .ok (.aload_n 0, 1) := by decide +kernel
theorem dX5_parseTable_22 : decode cX5_parseTable 22 = .ok (.invokevirtual 87, 3) := by decide +kernel
theorem dX5_parseTable_25 : decode cX5_parseTable 25 = .ok (.istore 5, 2) := by decide +kernel
theorem dX5_parseTable_27 : decode cX5_parseTable 27 = .ok (.aload_n 1, 1) := by decide +kernel
theorem dX5_parseTable_28 : decode cX5_parseTable 28 = .ok (.getfield 122, 3) := by decide +kernel
theorem dX5_parseTable_31 : decode cX5_parseTable 31 = .ok (.iload_n 2, 1) := by decide +kernel
theorem dX5_parseTable_32 : decode cX5_parseTable 32 = .ok (.iload_n 3, 1) := by decide +kernel
theorem dX5_parseTable_33 : decode cX5_parseTable 33 = .ok (.bipush 16, 2) := by decide +kernel
theorem dX5_parseTable_35 : decode cX5_parseTable 35 = .ok (.ishl, 1) := by decide +kernel
theorem dX5_parseTable_36 : decode cX5_parseTable 36 = .ok (.iload 4, 2) := by decide +kernel
theorem dX5_parseTable_38 : decode cX5_parseTable 38 = .ok (.bipush 8, 2) := by decide +kernel
theorem dX5_parseTable_40 : decode cX5_parseTable 40 = .ok (.ishl, 1) := by decide +kernel
theorem dX5_parseTable_41 : decode cX5_parseTable 41 = .ok (.ior, 1) := by decide +kernel
theorem dX5_parseTable_42 : decode cX5_parseTable 42 = .ok (.iload 5, 2) := by decide +kernel
theorem dX5_parseTable_44 : decode cX5_parseTable 44 = .ok (.ior, 1) := by decide +kernel
theorem dX5_parseTable_45 : decode cX5_parseTable 45 = .ok (.iastore, 1) := by decide +kernel
theorem dX5_parseTable_46 : decode cX5_parseTable 46 = .ok (.iinc 2 1, 3) := by decide +kernel
theorem dX5_parseTable_49 : decode cX5_parseTable 49 = .ok (.goto (-47), 3) := by decide +kernel
theorem dX5_parseTable_52 : decode cX5_parseTable 52 = .ok (.return_, 1) := by decide +kernel
theorem dX5_parseBlock_0 : decode cX5_parseBlock 0 = .ok (.aload_n 0, 1) := by decide +kernel
theorem dX5_parseBlock_1 : decode cX5_parseBlock 1 = .ok (.getfield 58, 3) := by decide +kernel
theorem dX5_parseBlock_4 : decode cX5_parseBlock 4 = .ok (.istore_n 1, 1) := by decide +kernel
theorem dX5_parseBlock_5 : decode cX5_parseBlock 5 = .ok (.aload_n 0, 1) := by decide +kernel
theorem dX5_parseBlock_6 : decode cX5_parseBlock 6 = .ok (.invokevirtual 87, 3) := by decide +kernel
theorem dX5_parseBlock_9 : decode cX5_parseBlock 9 = .ok (.istore_n 2, 1) := by decide +kernel
theorem dX5_parseBlock_10 : decode cX5_parseBlock 10 = .ok (.iload_n 2, 1) := by decide +kernel
theorem dX5_parseBlock_11 : decode cX5_parseBlock 11 = .ok (.bipush 44, 2) := by decide +kernel
theorem dX5_parseBlock_13 : decode cX5_parseBlock 13 = .ok (.if_icmp .ne 11, 3) := by decide +kernel
theorem dX5_parseBlock_16 : decode cX5_parseBlock 16 = .ok (.aload_n 0, 1) := by decide +kernel
theorem dX5_parseBlock_17 : decode cX5_parseBlock 17 = .ok (.iload_n 1, 1) := by decide +kernel
theorem dX5_parseBlock_18 : decode cX5_parseBlock 18 = .ok (.invokevirtual 125, 3) := by decide +kernel
theorem dX5_parseBlock_21 : decode cX5_parseBlock 21 = .ok (.goto 49, 3) := by decide +kernel
theorem dX5_parseBlock_24 : decode cX5_parseBlock 24 = .ok (.iload_n 2, 1) := by decide +kernel
theorem dX5_parseBlock_25 : decode cX5_parseBlock 25 = .ok (.bipush 33, 2) := by decide +kernel
theorem dX5_parseBlock_27 : decode cX5_parseBlock 27 = .ok (.if_icmp .ne 17, 3) := by decide +kernel
theorem dX5_parseBlock_30 : decode cX5_parseBlock 30 = .ok (.aload_n 0, 1) := by decide +kernel
theorem dX5_parseBlock_31 : decode cX5_parseBlock 31 = .ok (.getfield 61, 3) := by decide +kernel
theorem dX5_parseBlock_34 : decode cX5_parseBlock 34 = .ok (.ifCond .ne 10, 3) := by decide +kernel
theorem dX5_parseBlock_37 : decode cX5_parseBlock 37 = .ok (.aload_n 0, 1) := by decide +kernel
theorem dX5_parseBlock_38 : decode cX5_parseBlock 38 = .ok (.invokevirtual 129, 3) := by decide +kernel
theorem dX5_parseBlock_41 : decode cX5_parseBlock 41 = .ok (.goto 29, 3) := by decide +kernel
theorem dX5_parseBlock_44 : decode cX5_parseBlock 44 = .ok (.iload_n 2, 1) := by decide +kernel
theorem dX5_parseBlock_45 : decode cX5_parseBlock 45 = .ok (.bipush 59, 2) := by decide +kernel
theorem dX5_parseBlock_47 : decode cX5_parseBlock 47 = .ok (.if_icmp .ne 17, 3) := by decide +kernel
theorem dX5_parseBlock_50 : decode cX5_parseBlock 50 = .ok (.aload_n 0, 1) := by decide +kernel
theorem dX5_parseBlock_51 : decode cX5_parseBlock 51 = .ok (.getfield 132, 3) := by decide +kernel
theorem dX5_parseBlock_54 : decode cX5_parseBlock 54 = .ok (.ifCond .ne 10, 3) := by decide +kernel
theorem dX5_parseBlock_57 : decode cX5_parseBlock 57 = .ok (.aload_n 0, 1) := by decide +kernel
theorem dX5_parseBlock_58 : decode cX5_parseBlock 58 = .ok (.invokevirtual 135, 3) := by decide +kernel
theorem dX5_parseBlock_61 : decode cX5_parseBlock 61 = .ok (.goto 9, 3) := by decide +kernel
theorem dX5_parseBlock_64 : decode cX5_parseBlock 64 = .ok (.aload_n 0, 1) := by decide +kernel
theorem dX5_parseBlock_65 : decode cX5_parseBlock 65 = .ok (.iconst 4, 1) := by decide +kernel
theorem dX5_parseBlock_66 : decode cX5_parseBlock 66 = .ok (.iload_n 1, 1) := by decide +kernel
theorem dX5_parseBlock_67 : decode cX5_parseBlock 67 = .ok (.invokevirtual 80, 3) := by decide +kernel
theorem dX5_parseBlock_70 : decode cX5_parseBlock 70 = .ok (.return_, 1) := by decide +kernel
theorem dX5_parseEnd_0 : decode cX5_parseEnd 0 = .ok (.aload_n 0, 1) := by decide +kernel
theorem dX5_parseEnd_1 : decode cX5_parseEnd 1 = .ok (.iconst 1, 1) := by decide +kernel
theorem dX5_parseEnd_2 : decode cX5_parseEnd 2 = .ok (.putfield 65, 3) := by decide +kernel
theorem dX5_parseEnd_5 : decode cX5_parseEnd 5 = .ok (.aload_n 0, 1) := by decide +kernel
theorem dX5_parseEnd_6 : decode cX5_parseEnd 6 = .ok (.getfield 58, 3) := by decide +kernel
theorem dX5_parseEnd_9 : decode cX5_parseEnd 9 = .ok (.aload_n 0, 1) := by decide +kernel
theorem dX5_parseEnd_10 : decode cX5_parseEnd 10 = .ok (.getfield 55, 3) := by decide +kernel
theorem dX5_parseEnd_13 : decode cX5_parseEnd 13 = .ok (.if_icmp .ge 13, 3) := by decide +kernel
theorem dX5_parseEnd_16 : decode cX5_parseEnd 16 = .ok (.aload_n 0, 1) := by decide +kernel
theorem dX5_parseEnd_17 : decode cX5_parseEnd 17 = .ok (.bipush 10, 2) := by decide +kernel
theorem dX5_parseEnd_19 : decode cX5_parseEnd 19 = .ok (.aload_n 0, 1) := by decide +kernel
theorem dX5_parseEnd_20 : decode cX5_parseEnd 20 = .ok (.getfield 58, 3) := by decide +kernel
theorem dX5_parseEnd_23 : decode cX5_parseEnd 23 = .ok (.invokevirtual 80, 3) := by decide +kernel
theorem dX5_parseEnd_26 : decode cX5_parseEnd 26 = .ok (.return_, 1) := by decide +kernel
theorem dX5_parseExtension_0 : decode cX5_parseExtension 0 = .ok (.aload_n 0, 1) := by decide +kernel
theorem dX5_parseExtension_1 : decode cX5_parseExtension 1 = .ok (.getfield 58, 3) := by decide +kernel
theorem dX5_parseExtension_4 : decode cX5_parseExtension 4 = .ok (.istore_n 1, 1) := by decide +kernel
theorem dX5_parseExtension_5 : decode cX5_parseExtension 5 = .ok (.aload_n 0, 1) := by decide +kernel
theorem dX5_parseExtension_6 : decode cX5_parseExtension 6 = .ok (.invokevirtual 87, 3) := by decide +kernel
theorem dX5_parseExtension_9 : decode cX5_parseExtension 9 = .ok (.istore_n 2, 1) := by decide +kernel
theorem dX5_parseExtension_10 : decode cX5_parseExtension 10 = .ok (.iload_n 2, 1) := by decide +kernel
theorem dX5_parseExtension_11 : decode cX5_parseExtension 11 = .ok (.iconst 1, 1) := by decide +kernel
theorem dX5_parseExtension_12 : decode cX5_parseExtension 12 = .ok (.if_icmp .ne 26, 3) := by decide +kernel
theorem dX5_parseExtension_15 : decode cX5_parseExtension 15 = .ok (.aload_n 0, 1) := by decide +kernel
theorem dX5_parseExtension_16 : decode cX5_parseExtension 16 = .ok (.bipush 12, 2) := by decide +kernel
theorem dX5_parseExtension_18 : decode cX5_parseExtension 18 = .ok (.invokevirtual 138, 3) := by decide +kernel
theorem dX5_parseExtension_21 : decode cX5_parseExtension 21 = .ok (.aload_n 0, 1) := by decide +kernel
theorem dX5_parseExtension_22 : decode cX5_parseExtension 22 = .ok (.bipush 12, 2) := by decide +kernel
theorem dX5_parseExtension_24 : decode cX5_parseExtension 24 = .ok (.invokevirtual 141, 3) := by decide +kernel
theorem dX5_parseExtension_27 : decode cX5_parseExtension 27 = .ok (.aload_n 0, 1) := by decide +kernel
theorem dX5_parseExtension_28 : decode cX5_parseExtension 28 = .ok (.invokevirtual 144, 3) := by decide +kernel
theorem dX5_parseExtension_31 : decode cX5_parseExtension 31 = .ok (.aload_n 0, 1) := by decide +kernel
theorem dX5_parseExtension_32 : decode cX5_parseExtension 32 = .ok (.invokevirtual 68, 3) := by decide +kernel
theorem dX5_parseExtension_35 : decode cX5_parseExtension 35 = .ok (.goto 84, 3) := by decide +kernel
theorem dX5_parseExtension_38 : decode cX5_parseExtension 38 = .ok (.iload_n 2, 1) := by decide +kernel
theorem dX5_parseExtension_39 : decode cX5_parseExtension 39 = .ok (.sipush 249, 3) := by decide +kernel
theorem dX5_parseExtension_42 : decode cX5_parseExtension 42 = .ok (.if_icmp .ne 17, 3) := by decide +kernel
theorem dX5_parseExtension_45 : decode cX5_parseExtension 45 = .ok (.aload_n 0, 1) := by decide +kernel
theorem dX5_parseExtension_46 : decode cX5_parseExtension 46 = .ok (.getfield 132, 3) := by decide +kernel
theorem dX5_parseExtension_49 : decode cX5_parseExtension 49 = .ok (.ifCond .ne 10, 3) := by decide +kernel
theorem dX5_parseExtension_52 : decode cX5_parseExtension 52 = .ok (.aload_n 0, 1) := by decide +kernel
theorem dX5_parseExtension_53 : decode cX5_parseExtension 53 = .ok (.invokevirtual 147, 3) := by decide +kernel
theorem dX5_parseExtension_56 : decode cX5_parseExtension 56 = .ok (.goto 63, 3) := by decide +kernel
theorem dX5_parseExtension_59 : decode cX5_parseExtension 59 = .ok (.iload_n 2, 1) := by decide +kernel
theorem dX5_parseExtension_60 : decode cX5_parseExtension 60 = .ok (.sipush 254, 3) := by decide +kernel
theorem dX5_parseExtension_63 : decode cX5_parseExtension 63 = .ok (.if_icmp .ne 17, 3) := by decide +kernel
theorem dX5_parseExtension_66 : decode cX5_parseExtension 66 = .ok (.aload_n 0, 1) := by decide +kernel
theorem dX5_parseExtension_67 : decode cX5_parseExtension 67 = .ok (.getfield 132, 3) := by decide +kernel
theorem dX5_parseExtension_70 : decode cX5_parseExtension 70 = .ok (.ifCond .ne 10, 3) := by decide +kernel
theorem dX5_parseExtension_73 : decode cX5_parseExtension 73 = .ok (.aload_n 0, 1) := by decide +kernel
theorem dX5_parseExtension_74 : decode cX5_parseExtension 74 = .ok (.invokevirtual 144, 3) := by decide +kernel
theorem dX5_parseExtension_77 : decode cX5_parseExtension 77 = .ok (.goto 42, 3) := by decide +kernel
theorem dX5_parseExtension_80 : decode cX5_parseExtension 80 = .ok (.iload_n 2, 1) := by decide +kernel
theorem dX5_parseExtension_81 : decode cX5_parseExtension 81 = .ok (.sipush 255, 3) := by decide +kernel
theorem dX5_parseExtension_84 : decode cX5_parseExtension 84 = .ok (.if_icmp .ne 29, 3) := by decide +kernel
theorem dX5_parseExtension_87 : decode cX5_parseExtension 87 = .ok (.aload_n 0, 1) := by decide +kernel
theorem dX5_parseExtension_88 : decode cX5_parseExtension 88 = .ok (.getfield 132, 3) := by decide +kernel
theorem dX5_parseExtension_91 : decode cX5_parseExtension 91 = .ok (.ifCond .ne 22, 3) := by decide +kernel
theorem dX5_parseExtension_94 : decode cX5_parseExtension 94 = .ok (.aload_n 0, 1) := by decide +kernel
theorem dX5_parseExtension_95 : decode cX5_parseExtension 95 = .ok (.bipush 11, 2) := by decide +kernel
theorem dX5_parseExtension_97 : decode cX5_parseExtension 97 = .ok (.invokevirtual 138, 3) := by decide +kernel
theorem dX5_parseExtension_100 : decode cX5_parseExtension 100 = .ok (.aload_n 0, 1) := by decide +kernel
theorem dX5_parseExtension_101 : decode cX5_parseExtension 101 = .ok (.bipush 11, 2) := by decide +kernel
theorem dX5_parseExtension_103 : decode cX5_parseExtension 103 = .ok (.invokevirtual 141, 3) := by decide +kernel
theorem dX5_parseExtension_106 : decode cX5_parseExtension 106 = .ok (.aload_n 0, 1) := by decide +kernel
theorem dX5_parseExtension_107 : decode cX5_parseExtension 107 = .ok (.invokevirtual 144, 3) := by decide +kernel
theorem dX5_parseExtension_110 : decode cX5_parseExtension 110 = .ok (.goto 9, 3) := by decide +kernel
theorem dX5_parseExtension_113 : decode cX5_parseExtension 113 = .ok (.aload_n 0, 1) := by decide +kernel
theorem dX5_parseExtension_114 : decode cX5_parseExtension 114 = .ok (.iconst 4, 1) := by decide +kernel
theorem dX5_parseExtension_115 : decode cX5_parseExtension 115 = .ok (.iload_n 1, 1) := by decide +kernel
theorem dX5_parseExtension_116 : decode cX5_parseExtension 116 = .ok (.invokevirtual 80, 3) := by decide +kernel
theorem dX5_parseExtension_119 : decode cX5_parseExtension 119 = .ok (.return_, 1) := by decide +kernel
theorem dX5_parseControl_0 : decode cX5_parseControl 0 = .ok (.aload_n 0, 1) := by decide +kernel
theorem dX5_parseControl_1 : decode cX5_parseControl 1 = .ok (.iconst 4, 1) := by decide +kernel
theorem dX5_parseControl_2 : decode cX5_parseControl 2 = .ok (.invokevirtual 138, 3) := by decide +kernel
theorem dX5_parseControl_5 : decode cX5_parseControl 5 = .ok (.aload_n 0, 1) := by decide +kernel
theorem dX5_parseControl_6 : decode cX5_parseControl 6 = .ok (.invokevirtual 87, 3) := by decide +kernel
theorem dX5_parseControl_9 : decode cX5_parseControl 9 = .ok (.istore_n 1, 1) := by decide +kernel
theorem dX5_parseControl_10 : decode cX5_parseControl 10 = .ok (.aload_n 0, 1) := by decide +kernel
theorem dX5_parseControl_11 : decode cX5_parseControl 11 = .ok (.invokevirtual 97, 3) := by decide +kernel
theorem dX5_parseControl_14 : decode cX5_parseControl 14 = .ok (.istore_n 2, 1) := by decide +kernel
theorem dX5_parseControl_15 : decode cX5_parseControl 15 = .ok (.aload_n 0, 1) := by decide +kernel
theorem dX5_parseControl_16 : decode cX5_parseControl 16 = .ok (.invokevirtual 87, 3) := by decide +kernel
theorem dX5_parseControl_19 : decode cX5_parseControl 19 = .ok (.istore_n 3, 1) := by decide +kernel
theorem dX5_parseControl_20 : decode cX5_parseControl 20 = .ok (.aload_n 0, 1) := by decide +kernel
theorem dX5_parseControl_21 : decode cX5_parseControl 21 = .ok (.iconst 0, 1) := by decide +kernel
theorem dX5_parseControl_22 : decode cX5_parseControl 22 = .ok (.invokevirtual 138, 3) := by decide +kernel
theorem dX5_parseControl_25 : decode cX5_parseControl 25 = .ok (.iload_n 1, 1) := by decide +kernel
theorem dX5_parseControl_26 : decode cX5_parseControl 26 = .ok (.iconst 1, 1) := by decide +kernel
theorem dX5_parseControl_27 : decode cX5_parseControl 27 = .ok (.iand, 1) := by decide +kernel
theorem dX5_parseControl_28 : decode cX5_parseControl 28 = .ok (.ifCond .eq 7, 3) := by decide +kernel
theorem dX5_parseControl_31 : decode cX5_parseControl 31 = .ok (.iload_n 3, 1) := by decide +kernel
theorem dX5_parseControl_32 : decode cX5_parseControl 32 = .ok (.goto 4, 3) := by decide +kernel
theorem dX5_parseControl_35 : decode cX5_parseControl 35 = .ok (.iconst (-1), 1) := by decide +kernel
theorem dX5_parseControl_36 : decode cX5_parseControl 36 = .ok (.istore 4, 2) := by decide +kernel
theorem dX5_parseControl_38 : decode cX5_parseControl 38 = .ok (.aload_n 0, 1) := by decide +kernel
theorem dX5_parseControl_39 : decode cX5_parseControl 39 = .ok (.getfield 28, 3) := by decide +kernel
theorem dX5_parseControl_42 : decode cX5_parseControl 42 = .ok (.iload_n 1, 1) := by decide +kernel
theorem dX5_parseControl_43 : decode cX5_parseControl 43 = .ok (.iconst 2, 1) := by decide +kernel
theorem dX5_parseControl_44 : decode cX5_parseControl 44 = .ok (.ishr, 1) := by decide +kernel
theorem dX5_parseControl_45 : decode cX5_parseControl 45 = .ok (.bipush 7, 2) := by decide +kernel
theorem dX5_parseControl_47 : decode cX5_parseControl 47 = .ok (.iand, 1) := by decide +kernel
theorem dX5_parseControl_48 : decode cX5_parseControl 48 = .ok (.iload 4, 2) := by decide +kernel
theorem dX5_parseControl_50 : decode cX5_parseControl 50 = .ok (.iload_n 2, 1) := by decide +kernel
theorem dX5_parseControl_51 : decode cX5_parseControl 51 = .ok (.iload_n 1, 1) := by decide +kernel
theorem dX5_parseControl_52 : decode cX5_parseControl 52 = .ok (.iconst 2, 1) := by decide +kernel
theorem dX5_parseControl_53 : decode cX5_parseControl 53 = .ok (.iand, 1) := by decide +kernel
theorem dX5_parseControl_54 : decode cX5_parseControl 54 = .ok (.ifCond .eq 7, 3) := by decide +kernel
theorem dX5_parseControl_57 : decode cX5_parseControl 57 = .ok (.iconst 1, 1) := by decide +kernel
theorem dX5_parseControl_58 : decode cX5_parseControl 58 = .ok (.goto 4, 3) := by decide +kernel
theorem dX5_parseControl_61 : decode cX5_parseControl 61 = .ok (.iconst 0, 1) := by decide +kernel
theorem dX5_parseControl_62 : decode cX5_parseControl 62 = .ok (.invokevirtual 150, 3) := by decide +kernel
theorem dX5_parseControl_65 : decode cX5_parseControl 65 = .ok (.aload_n 0, 1) := by decide +kernel
theorem dX5_parseControl_66 : decode cX5_parseControl 66 = .ok (.iconst 1, 1) := by decide +kernel
theorem dX5_parseControl_67 : decode cX5_parseControl 67 = .ok (.putfield 132, 3) := by decide +kernel
theorem dX5_parseControl_70 : decode cX5_parseControl 70 = .ok (.return_, 1) := by decide +kernel
theorem dX5_dropControl_0 : decode cX5_dropControl 0 = .ok (.aload_n 0, 1) := by decide +kernel
theorem dX5_dropControl_1 : decode cX5_dropControl 1 = .ok (.getfield 28, 3) := by decide +kernel
theorem dX5_dropControl_4 : decode cX5_dropControl 4 = .ok (.invokevirtual 154, 3) := by decide +kernel
theorem dX5_dropControl_7 : decode cX5_dropControl 7 = .ok (.aload_n 0, 1) := by decide +kernel
theorem dX5_dropControl_8 : decode cX5_dropControl 8 = .ok (.iconst 0, 1) := by decide +kernel
theorem dX5_dropControl_9 : decode cX5_dropControl 9 = .ok (.putfield 132, 3) := by decide +kernel
theorem dX5_dropControl_12 : decode cX5_dropControl 12 = .ok (.return_, 1) := by decide +kernel
theorem dX5_parseImage_0 : decode cX5_parseImage 0 = .ok (.aload_n 0, 1) := by decide +kernel
theorem dX5_parseImage_1 : decode cX5_parseImage 1 = .ok (.iload_n 1, 1) := by decide +kernel
theorem dX5_parseImage_2 : decode cX5_parseImage 2 = .ok (.invokevirtual 156, 3) := by decide +kernel
theorem dX5_parseImage_5 : decode cX5_parseImage 5 = .ok (.astore_n 2, 1) := by decide +kernel
theorem dX5_parseImage_6 : decode cX5_parseImage 6 = .ok (.aload_n 0, 1) := by decide +kernel
theorem dX5_parseImage_7 : decode cX5_parseImage 7 = .ok (.getfield 58, 3) := by decide +kernel
theorem dX5_parseImage_10 : decode cX5_parseImage 10 = .ok (.istore_n 3, 1) := by decide +kernel
theorem dX5_parseImage_11 : decode cX5_parseImage 11 = .ok (.aload_n 0, 1) := by decide +kernel
theorem dX5_parseImage_12 : decode cX5_parseImage 12 = .ok (.invokevirtual 87, 3) := by decide +kernel
theorem dX5_parseImage_15 : decode cX5_parseImage 15 = .ok (.istore 4, 2) := by decide +kernel
theorem dX5_parseImage_17 : decode cX5_parseImage 17 = .ok (.iload 4, 2) := by decide +kernel
theorem dX5_parseImage_19 : decode cX5_parseImage 19 = .ok (.iconst 2, 1) := by decide +kernel
theorem dX5_parseImage_20 : decode cX5_parseImage 20 = .ok (.if_icmp .lt 10, 3) := by decide +kernel
theorem dX5_parseImage_23 : decode cX5_parseImage 23 = .ok (.iload 4, 2) := by decide +kernel
theorem dX5_parseImage_25 : decode cX5_parseImage 25 = .ok (.bipush 8, 2) := by decide +kernel
theorem dX5_parseImage_27 : decode cX5_parseImage 27 = .ok (.if_icmp .le 10, 3) := by decide +kernel
theorem dX5_parseImage_30 : decode cX5_parseImage 30 = .ok (.aload_n 0, 1) := by decide +kernel
theorem dX5_parseImage_31 : decode cX5_parseImage 31 = .ok (.bipush 8, 2) := by decide +kernel
theorem dX5_parseImage_33 : decode cX5_parseImage 33 = .ok (.iload_n 3, 1) := by decide +kernel
theorem dX5_parseImage_34 : decode cX5_parseImage 34 = .ok (.invokevirtual 80, 3) := by decide +kernel
theorem dX5_parseImage_37 : decode cX5_parseImage 37 = .ok (.aload_n 0, 1) := by decide +kernel
theorem dX5_parseImage_38 : decode cX5_parseImage 38 = .ok (.invokevirtual 144, 3) := by decide +kernel
theorem dX5_parseImage_41 : decode cX5_parseImage 41 = .ok (.aload_n 0, 1) := by decide +kernel
theorem dX5_parseImage_42 : decode cX5_parseImage 42 = .ok (.getfield 39, 3) := by decide +kernel
theorem dX5_parseImage_45 : decode cX5_parseImage 45 = .ok (.ifCond .ne 7, 3) := by decide +kernel
theorem dX5_parseImage_48 : decode cX5_parseImage 48 = .ok (.aload_n 2, 1) := by decide +kernel
theorem dX5_parseImage_49 : decode cX5_parseImage 49 = .ok (.ifnonnull 4, 3) := by decide +kernel
theorem dX5_parseImage_52 : decode cX5_parseImage 52 = .ok (.return_, 1) := by decide +kernel
theorem dX5_parseImage_53 : decode cX5_parseImage 53 = .ok (.aload_n 0, 1) := by decide +kernel
theorem dX5_parseImage_54 : decode cX5_parseImage 54 = .ok (.getfield 21, 3) := by decide +kernel
theorem dX5_parseImage_57 : decode cX5_parseImage 57 = .ok (.iload 4, 2) := by decide +kernel
theorem dX5_parseImage_59 : decode cX5_parseImage 59 = .ok (.aload_n 2, 1) := by decide +kernel
theorem dX5_parseImage_60 : decode cX5_parseImage 60 = .ok (.invokevirtual 160, 3) := by decide +kernel
theorem dX5_parseImage_63 : decode cX5_parseImage 63 = .ok (.aload_n 0, 1) := by decide +kernel
theorem dX5_parseImage_64 : decode cX5_parseImage 64 = .ok (.getfield 35, 3) := by decide +kernel
theorem dX5_parseImage_67 : decode cX5_parseImage 67 = .ok (.aload_n 2, 1) := by decide +kernel
theorem dX5_parseImage_68 : decode cX5_parseImage 68 = .ok (.invokevirtual 164, 3) := by decide +kernel
theorem dX5_parseImage_71 : decode cX5_parseImage 71 = .ok (.getfield 121, 3) := by decide +kernel
theorem dX5_parseImage_74 : decode cX5_parseImage 74 = .ok (.invokevirtual 168, 3) := by decide +kernel
theorem dX5_parseImage_77 : decode cX5_parseImage 77 = .ok (.ifCond .eq 17, 3) := by decide +kernel
theorem dX5_parseImage_80 : decode cX5_parseImage 80 = .ok (.aload_n 2, 1) := by decide +kernel
theorem dX5_parseImage_81 : decode cX5_parseImage 81 = .ok (.aload_n 0, 1) := by decide +kernel
theorem dX5_parseImage_82 : decode cX5_parseImage 82 = .ok (.getfield 21, 3) := by decide +kernel
theorem dX5_parseImage_85 : decode cX5_parseImage 85 = .ok (.getfield 172, 3) := by decide +kernel
theorem dX5_parseImage_88 : decode cX5_parseImage 88 = .ok (.invokevirtual 175, 3) := by decide +kernel
theorem dX5_parseImage_91 : decode cX5_parseImage 91 = .ok (.goto 10, 3) := by decide +kernel
theorem dX5_parseImage_94 : decode cX5_parseImage 94 = .ok (.aload_n 0, 1) := by decide +kernel
theorem dX5_parseImage_95 : decode cX5_parseImage 95 = .ok (.bipush 9, 2) := by decide +kernel
theorem dX5_parseImage_97 : decode cX5_parseImage 97 = .ok (.iload_n 3, 1) := by decide +kernel
theorem dX5_parseImage_98 : decode cX5_parseImage 98 = .ok (.invokevirtual 80, 3) := by decide +kernel
theorem dX5_parseImage_101 : decode cX5_parseImage 101 = .ok (.return_, 1) := by decide +kernel
theorem dX5_parseFrame_0 : decode cX5_parseFrame 0 = .ok (.aload_n 0, 1) := by decide +kernel
theorem dX5_parseFrame_1 : decode cX5_parseFrame 1 = .ok (.invokevirtual 97, 3) := by decide +kernel
theorem dX5_parseFrame_4 : decode cX5_parseFrame 4 = .ok (.istore_n 2, 1) := by decide +kernel
theorem dX5_parseFrame_5 : decode cX5_parseFrame 5 = .ok (.aload_n 0, 1) := by decide +kernel
theorem dX5_parseFrame_6 : decode cX5_parseFrame 6 = .ok (.invokevirtual 97, 3) := by decide +kernel
theorem dX5_parseFrame_9 : decode cX5_parseFrame 9 = .ok (.istore_n 3, 1) := by decide +kernel
theorem dX5_parseFrame_10 : decode cX5_parseFrame 10 = .ok (.aload_n 0, 1) := by decide +kernel
theorem dX5_parseFrame_11 : decode cX5_parseFrame 11 = .ok (.invokevirtual 97, 3) := by decide +kernel
theorem dX5_parseFrame_14 : decode cX5_parseFrame 14 = .ok (.istore 4, 2) := by decide +kernel
theorem dX5_parseFrame_16 : decode cX5_parseFrame 16 = .ok (.aload_n 0, 1) := by decide +kernel
theorem dX5_parseFrame_17 : decode cX5_parseFrame 17 = .ok (.invokevirtual 97, 3) := by decide +kernel
theorem dX5_parseFrame_20 : decode cX5_parseFrame 20 = .ok (.istore 5, 2) := by decide +kernel
theorem dX5_parseFrame_22 : decode cX5_parseFrame 22 = .ok (.aload_n 0, 1) := by decide +kernel
theorem dX5_parseFrame_23 : decode cX5_parseFrame 23 = .ok (.getfield 35, 3) := by decide +kernel
theorem dX5_parseFrame_26 : decode cX5_parseFrame 26 = .ok (.invokevirtual 179, 3) := by decide +kernel
theorem dX5_parseFrame_29 : decode cX5_parseFrame 29 = .ok (.ifCond .eq 19, 3) := by decide +kernel
theorem dX5_parseFrame_32 : decode cX5_parseFrame 32 = .ok (.aload_n 0, 1) := by decide +kernel
theorem dX5_parseFrame_33 : decode cX5_parseFrame 33 = .ok (.getfield 35, 3) := by decide +kernel
theorem dX5_parseFrame_36 : decode cX5_parseFrame 36 = .ok (.iload_n 2, 1) := by decide +kernel
theorem dX5_parseFrame_37 : decode cX5_parseFrame 37 = .ok (.iload_n 3, 1) := by decide +kernel
theorem dX5_parseFrame_38 : decode cX5_parseFrame 38 = .ok (.iload 4, 2) := by decide +kernel
theorem dX5_parseFrame_40 : decode cX5_parseFrame 40 = .ok (.iload 5, 2) := by decide +kernel
theorem dX5_parseFrame_42 : decode cX5_parseFrame 42 = .ok (.invokevirtual 183, 3) := by decide +kernel
theorem dX5_parseFrame_45 : decode cX5_parseFrame 45 = .ok (.ifCond .ne 10, 3) := by decide +kernel
theorem dX5_parseFrame_48 : decode cX5_parseFrame 48 = .ok (.aload_n 0, 1) := by decide +kernel
theorem dX5_parseFrame_49 : decode cX5_parseFrame 49 = .ok (.bipush 6, 2) := by decide +kernel
theorem dX5_parseFrame_51 : decode cX5_parseFrame 51 = .ok (.iload_n 1, 1) := by decide +kernel
theorem dX5_parseFrame_52 : decode cX5_parseFrame 52 = .ok (.invokevirtual 80, 3) := by decide +kernel
theorem dX5_parseFrame_55 : decode cX5_parseFrame 55 = .ok (.aload_n 0, 1) := by decide +kernel
theorem dX5_parseFrame_56 : decode cX5_parseFrame 56 = .ok (.invokevirtual 87, 3) := by decide +kernel
theorem dX5_parseFrame_59 : decode cX5_parseFrame 59 = .ok (.istore 6, 2) := by decide +kernel
theorem dX5_parseFrame_61 : decode cX5_parseFrame 61 = .ok (.iload 6, 2) := by decide +kernel
theorem dX5_parseFrame_63 : decode cX5_parseFrame 63 = .ok (.invokestatic 104, 3) := by decide +kernel
theorem dX5_parseFrame_66 : decode cX5_parseFrame 66 = .ok (.istore 7, 2) := by decide +kernel
theorem dX5_parseFrame_68 : decode cX5_parseFrame 68 = .ok (.aload_n 0, 1) := by decide +kernel
theorem dX5_parseFrame_69 : decode cX5_parseFrame 69 = .ok (.getfield 35, 3) := by decide +kernel
theorem dX5_parseFrame_72 : decode cX5_parseFrame 72 = .ok (.iload 7, 2) := by decide +kernel
theorem dX5_parseFrame_74 : decode cX5_parseFrame 74 = .ok (.invokevirtual 187, 3) := by decide +kernel
theorem dX5_parseFrame_77 : decode cX5_parseFrame 77 = .ok (.ifCond .ne 10, 3) := by decide +kernel
theorem dX5_parseFrame_80 : decode cX5_parseFrame 80 = .ok (.aload_n 0, 1) := by decide +kernel
theorem dX5_parseFrame_81 : decode cX5_parseFrame 81 = .ok (.bipush 7, 2) := by decide +kernel
theorem dX5_parseFrame_83 : decode cX5_parseFrame 83 = .ok (.iload_n 1, 1) := by decide +kernel
theorem dX5_parseFrame_84 : decode cX5_parseFrame 84 = .ok (.invokevirtual 80, 3) := by decide +kernel
theorem dX5_parseFrame_87 : decode cX5_parseFrame 87 = .ok (.aload_n 0, 1) := by decide +kernel
theorem dX5_parseFrame_88 : decode cX5_parseFrame 88 = .ok (.getfield 39, 3) := by decide +kernel
theorem dX5_parseFrame_91 : decode cX5_parseFrame 91 = .ok (.ifCond .eq 5, 3) := by decide +kernel
theorem dX5_parseFrame_94 : decode cX5_parseFrame 94 = .ok (.aconst_null, 1) := by decide +kernel
theorem dX5_parseFrame_95 : decode cX5_parseFrame 95 = .ok (.areturn, 1) := by decide +kernel
theorem dX5_parseFrame_96 : decode cX5_parseFrame 96 = .ok (.aload_n 0, 1) := by decide +kernel
theorem dX5_parseFrame_97 : decode cX5_parseFrame 97 = .ok (.getfield 35, 3) := by decide +kernel
theorem dX5_parseFrame_100 : decode cX5_parseFrame 100 = .ok (.iload_n 2, 1) := by decide +kernel
theorem dX5_parseFrame_101 : decode cX5_parseFrame 101 = .ok (.iload_n 3, 1) := by decide +kernel
theorem dX5_parseFrame_102 : decode cX5_parseFrame 102 = .ok (.iload 4, 2) := by decide +kernel
theorem dX5_parseFrame_104 : decode cX5_parseFrame 104 = .ok (.iload 5, 2) := by decide +kernel
theorem dX5_parseFrame_106 : decode cX5_parseFrame 106 = .ok (.iload 7, 2) := by decide +kernel
theorem dX5_parseFrame_108 : decode cX5_parseFrame 108 = .ok (.iload 6, 2) := by decide +kernel
theorem dX5_parseFrame_110 : decode cX5_parseFrame 110 = .ok (.bipush 64, 2) := by decide +kernel
theorem dX5_parseFrame_112 : decode cX5_parseFrame 112 = .ok (.iand, 1) := by decide +kernel
theorem dX5_parseFrame_113 : decode cX5_parseFrame 113 = .ok (.ifCond .eq 7, 3) := by decide +kernel
theorem dX5_parseFrame_116 : decode cX5_parseFrame 116 = .ok (.iconst 1, 1) := by decide +kernel
theorem dX5_parseFrame_117 : decode cX5_parseFrame 117 = .ok (.goto 4, 3) := by decide +kernel
theorem dX5_parseFrame_120 : decode cX5_parseFrame 120 = .ok (.iconst 0, 1) := by decide +kernel
theorem dX5_parseFrame_121 : decode cX5_parseFrame 121 = .ok (.invokevirtual 190, 3) := by decide +kernel
theorem dX5_parseFrame_124 : decode cX5_parseFrame 124 = .ok (.astore 8, 2) := by decide +kernel
theorem dX5_parseFrame_126 : decode cX5_parseFrame 126 = .ok (.aload 8, 2) := by decide +kernel
theorem dX5_parseFrame_128 : decode cX5_parseFrame 128 = .ok (.getfield 194, 3) := by decide +kernel
theorem dX5_parseFrame_131 : decode cX5_parseFrame 131 = .ok (.aload_n 0, 1) := by decide +kernel
theorem dX5_parseFrame_132 : decode cX5_parseFrame 132 = .ok (.getfield 28, 3) := by decide +kernel
theorem dX5_parseFrame_135 : decode cX5_parseFrame 135 = .ok (.invokevirtual 197, 3) := by decide +kernel
theorem dX5_parseFrame_138 : decode cX5_parseFrame 138 = .ok (.aload_n 0, 1) := by decide +kernel
theorem dX5_parseFrame_139 : decode cX5_parseFrame 139 = .ok (.invokevirtual 68, 3) := by decide +kernel
theorem dX5_parseFrame_142 : decode cX5_parseFrame 142 = .ok (.aload_n 0, 1) := by decide +kernel
theorem dX5_parseFrame_143 : decode cX5_parseFrame 143 = .ok (.aload 8, 2) := by decide +kernel
theorem dX5_parseFrame_145 : decode cX5_parseFrame 145 = .ok (.getfield 201, 3) := by decide +kernel
theorem dX5_parseFrame_148 : decode cX5_parseFrame 148 = .ok (.invokevirtual 117, 3) := by decide +kernel
theorem dX5_parseFrame_151 : decode cX5_parseFrame 151 = .ok (.aload 8, 2) := by decide +kernel
theorem dX5_parseFrame_153 : decode cX5_parseFrame 153 = .ok (.areturn, 1) := by decide +kernel
theorem dX5_gatherRows_0 : decode cX5_gatherRows 0 = .ok (.aload_n 0, 1) := by decide +kernel
theorem dX5_gatherRows_1 : decode cX5_gatherRows 1 = .ok (.getfield 21, 3) := by decide +kernel
theorem dX5_gatherRows_4 : decode cX5_gatherRows 4 = .ok (.getfield 204, 3) := by decide +kernel
theorem dX5_gatherRows_7 : decode cX5_gatherRows 7 = .ok (.invokevirtual 207, 3) := by decide +kernel
theorem dX5_gatherRows_10 : decode cX5_gatherRows 10 = .ok (.iconst 0, 1) := by decide +kernel
theorem dX5_gatherRows_11 : decode cX5_gatherRows 11 = .ok (.istore_n 1, 1) := by decide +kernel
theorem dX5_gatherRows_12 : decode cX5_gatherRows 12 = .ok (.iload_n 1, 1) := by decide +kernel
theorem dX5_gatherRows_13 : decode cX5_gatherRows 13 = .ok (.aload_n 0, 1) := by decide +kernel
theorem dX5_gatherRows_14 : decode cX5_gatherRows 14 = .ok (.getfield 55, 3) := by decide +kernel
theorem dX5_gatherRows_17 : decode cX5_gatherRows 17 = .ok (.if_icmp .gt 53, 3) := by decide +kernel
theorem dX5_gatherRows_20 : decode cX5_gatherRows 20 = .ok (.aload_n 0, 1) := by decide +kernel
theorem dX5_gatherRows_21 : decode cX5_gatherRows 21 = .ok (.getfield 39, 3) := by decide +kernel
theorem dX5_gatherRows_24 : decode cX5_gatherRows 24 = .ok (.ifCond .ne 46, 3) := by decide +kernel
theorem dX5_gatherRows_27 : decode cX5_gatherRows 27 = .ok (.aload_n 0, 1) := by decide +kernel
theorem dX5_gatherRows_28 : decode cX5_gatherRows 28 = .ok (.invokevirtual 87, 3) := by decide +kernel
theorem dX5_gatherRows_31 : decode cX5_gatherRows 31 = .ok (.istore_n 2, 1) := by decide +kernel
theorem dX5_gatherRows_32 : decode cX5_gatherRows 32 = .ok (.iload_n 2, 1) := by decide +kernel
theorem dX5_gatherRows_33 : decode cX5_gatherRows 33 = .ok (.ifCond .ne 4, 3) := by decide +kernel
theorem dX5_gatherRows_36 : decode cX5_gatherRows 36 = .ok (.return_, 1) := by decide +kernel
theorem dX5_gatherRows_37 : decode cX5_gatherRows 37 = .ok (.iconst 0, 1) := by decide +kernel
theorem dX5_gatherRows_38 : decode cX5_gatherRows 38 = .ok (.istore_n 3, 1) := by decide +kernel
theorem dX5_gatherRows_39 : decode cX5_gatherRows 39 = .ok (.iload_n 3, 1) := by decide +kernel
theorem dX5_gatherRows_40 : decode cX5_gatherRows 40 = .ok (.iload_n 2, 1) := by decide +kernel
theorem dX5_gatherRows_41 : decode cX5_gatherRows 41 = .ok (.if_icmp .ge 23, 3) := by decide +kernel
theorem dX5_gatherRows_44 : decode cX5_gatherRows 44 = .ok (.aload_n 0, 1) := by decide +kernel
theorem dX5_gatherRows_45 : decode cX5_gatherRows 45 = .ok (.getfield 21, 3) := by decide +kernel
theorem dX5_gatherRows_48 : decode cX5_gatherRows 48 = .ok (.getfield 204, 3) := by decide +kernel
theorem dX5_gatherRows_51 : decode cX5_gatherRows 51 = .ok (.aload_n 0, 1) := by decide +kernel
theorem dX5_gatherRows_52 : decode cX5_gatherRows 52 = .ok (.invokevirtual 87, 3) := by decide +kernel
theorem dX5_gatherRows_55 : decode cX5_gatherRows 55 = .ok (.invokevirtual 210, 3) := by decide +kernel
theorem dX5_gatherRows_58 : decode cX5_gatherRows 58 = .ok (.iinc 3 1, 3) := by decide +kernel
theorem dX5_gatherRows_61 : decode cX5_gatherRows 61 = .ok (.goto (-22), 3) := by decide +kernel
theorem dX5_gatherRows_64 : decode cX5_gatherRows 64 = .ok (.iinc 1 1, 3) := by decide +kernel
theorem dX5_gatherRows_67 : decode cX5_gatherRows 67 = .ok (.goto (-55), 3) := by decide +kernel
theorem dX5_gatherRows_70 : decode cX5_gatherRows 70 = .ok (.return_, 1) := by decide +kernel
theorem dX6_init_0 : decode cX6_init 0 = .ok (.aload_n 0, 1) := by decide +kernel
theorem dX6_init_1 : decode cX6_init 1 = .ok (.invokespecial 3, 3) := by decide +kernel
theorem dX6_init_4 : decode cX6_init 4 = .ok (.aload_n 0, 1) := by decide +kernel
theorem dX6_init_5 : decode cX6_init 5 = .ok (.new 9, 3) := by decide +kernel
theorem dX6_init_8 : decode cX6_init 8 = .ok (.dup, 1) := by decide +kernel
theorem dX6_init_9 : decode cX6_init 9 = .ok (.invokespecial 11, 3) := by decide +kernel
theorem dX6_init_12 : decode cX6_init 12 = .ok (.putfield 12, 3) := by decide +kernel
theorem dX6_init_15 : decode cX6_init 15 = .ok (.aload_n 0, 1) := by decide +kernel
theorem dX6_init_16 : decode cX6_init 16 = .ok (.new 18, 3) := by decide +kernel
theorem dX6_init_19 : decode cX6_init 19 = .ok (.dup, 1) := by decide +kernel
theorem dX6_init_20 : decode cX6_init 20 = .ok (.invokespecial 20, 3) := by decide +kernel
theorem dX6_init_23 : decode cX6_init 23 = .ok (.putfield 21, 3) := by decide +kernel
theorem dX6_init_26 : decode cX6_init 26 = .ok (.return_, 1) := by decide +kernel
theorem dX6_exchange_0 : decode cX6_exchange 0 = .ok (.aload_n 0, 1) := by decide +kernel
theorem dX6_exchange_1 : decode cX6_exchange 1 = .ok (.getfield 21, 3) := by decide +kernel
theorem dX6_exchange_4 : decode cX6_exchange 4 = .ok (.astore_n 2, 1) := by decide +kernel
theorem dX6_exchange_5 : decode cX6_exchange 5 = .ok (.aload_n 0, 1) := by decide +kernel
theorem dX6_exchange_6 : decode cX6_exchange 6 = .ok (.aload_n 1, 1) := by decide +kernel
theorem dX6_exchange_7 : decode cX6_exchange 7 = .ok (.putfield 21, 3) := by decide +kernel
theorem dX6_exchange_10 : decode cX6_exchange 10 = .ok (.aload_n 2, 1) := by decide +kernel
theorem dX6_exchange_11 : decode cX6_exchange 11 = .ok (.areturn, 1) := by decide +kernel
theorem dX6_compose_0 : decode cX6_compose 0 = .ok (.aload_n 0, 1) := by decide +kernel
theorem dX6_compose_1 : decode cX6_compose 1 = .ok (.getfield 21, 3) := by decide +kernel
theorem dX6_compose_4 : decode cX6_compose 4 = .ok (.invokevirtual 25, 3) := by decide +kernel
theorem dX6_compose_7 : decode cX6_compose 7 = .ok (.aload_n 0, 1) := by decide +kernel
theorem dX6_compose_8 : decode cX6_compose 8 = .ok (.aload_n 1, 1) := by decide +kernel
theorem dX6_compose_9 : decode cX6_compose 9 = .ok (.invokevirtual 28, 3) := by decide +kernel
theorem dX6_compose_12 : decode cX6_compose 12 = .ok (.iconst 0, 1) := by decide +kernel
theorem dX6_compose_13 : decode cX6_compose 13 = .ok (.istore_n 2, 1) := by decide +kernel
theorem dX6_compose_14 : decode cX6_compose 14 = .ok (.iload_n 2, 1) := by decide +kernel
theorem dX6_compose_15 : decode cX6_compose 15 = .ok (.aload_n 1, 1) := by decide +kernel
theorem dX6_compose_16 : decode cX6_compose 16 = .ok (.getfield 32, 3) := by decide +kernel
theorem dX6_compose_19 : decode cX6_compose 19 = .ok (.if_icmp .ge 51, 3) := by decide +kernel
theorem dX6_compose_22 : decode cX6_compose 22 = .ok (.aload_n 0, 1) := by decide +kernel
theorem dX6_compose_23 : decode cX6_compose 23 = .ok (.getfield 21, 3) := by decide +kernel
theorem dX6_compose_26 : decode cX6_compose 26 = .ok (.getfield 38, 3) := by decide +kernel
theorem dX6_compose_29 : decode cX6_compose 29 = .ok (.ifCond .ne 41, 3) := by decide +kernel
theorem dX6_compose_32 : decode cX6_compose 32 = .ok (.aload_n 1, 1) := by decide +kernel
theorem dX6_compose_33 : decode cX6_compose 33 = .ok (.getfield 42, 3) := by decide +kernel
theorem dX6_compose_36 : decode cX6_compose 36 = .ok (.iload_n 2, 1) := by decide +kernel
theorem dX6_compose_37 : decode cX6_compose 37 = .ok (.aaload, 1) := by decide +kernel
theorem dX6_compose_38 : decode cX6_compose 38 = .ok (.astore_n 3, 1) := by decide +kernel
theorem dX6_compose_39 : decode cX6_compose 39 = .ok (.aload_n 0, 1) := by decide +kernel
theorem dX6_compose_40 : decode cX6_compose 40 = .ok (.aload_n 3, 1) := by decide +kernel
theorem dX6_compose_41 : decode cX6_compose 41 = .ok (.getfield 46, 3) := by decide +kernel
theorem dX6_compose_44 : decode cX6_compose 44 = .ok (.invokevirtual 52, 3) := by decide +kernel
theorem dX6_compose_47 : decode cX6_compose 47 = .ok (.aload_n 0, 1) := by decide +kernel
theorem dX6_compose_48 : decode cX6_compose 48 = .ok (.aload_n 3, 1) := by decide +kernel
theorem dX6_compose_49 : decode cX6_compose 49 = .ok (.aload_n 1, 1) := by decide +kernel
theorem dX6_compose_50 : decode cX6_compose 50 = .ok (.aload_n 3, 1) := by decide +kernel
theorem dX6_compose_51 : decode cX6_compose 51 = .ok (.invokevirtual 56, 3) := by decide +kernel
theorem dX6_compose_54 : decode cX6_compose 54 = .ok (.invokevirtual 60, 3) := by decide +kernel
theorem dX6_compose_57 : decode cX6_compose 57 = .ok (.iconst 2, 1) := by decide +kernel
theorem dX6_compose_58 : decode cX6_compose 58 = .ok (.invokestatic 66, 3) := by decide +kernel
theorem dX6_compose_61 : decode cX6_compose 61 = .ok (.invokevirtual 72, 3) := by decide +kernel
theorem dX6_compose_64 : decode cX6_compose 64 = .ok (.iinc 2 1, 3) := by decide +kernel
theorem dX6_compose_67 : decode cX6_compose 67 = .ok (.goto (-53), 3) := by decide +kernel
theorem dX6_compose_70 : decode cX6_compose 70 = .ok (.aload_n 0, 1) := by decide +kernel
theorem dX6_compose_71 : decode cX6_compose 71 = .ok (.getfield 21, 3) := by decide +kernel
theorem dX6_compose_74 : decode cX6_compose 74 = .ok (.bipush 59, 2) := by decide +kernel
theorem dX6_compose_76 : decode cX6_compose 76 = .ok (.invokevirtual 76, 3) := by decide +kernel
theorem dX6_compose_79 : decode cX6_compose 79 = .ok (.aload_n 0, 1) := by decide +kernel
theorem dX6_compose_80 : decode cX6_compose 80 = .ok (.getfield 21, 3) := by decide +kernel
theorem dX6_compose_83 : decode cX6_compose 83 = .ok (.getfield 38, 3) := by decide +kernel
theorem dX6_compose_86 : decode cX6_compose 86 = .ok (.ifCond .ne 7, 3) := by decide +kernel
theorem dX6_compose_89 : decode cX6_compose 89 = .ok (.iconst 1, 1) := by decide +kernel
theorem dX6_compose_90 : decode cX6_compose 90 = .ok (.goto 4, 3) := by decide +kernel
theorem dX6_compose_93 : decode cX6_compose 93 = .ok (.iconst 0, 1) := by decide +kernel
theorem dX6_compose_94 : decode cX6_compose 94 = .ok (.ireturn, 1) := by decide +kernel
theorem dX6_putScreen_0 : decode cX6_putScreen 0 = .ok (.iconst 0, 1) := by decide +kernel
theorem dX6_putScreen_1 : decode cX6_putScreen 1 = .ok (.istore_n 2, 1) := by decide +kernel
theorem dX6_putScreen_2 : decode cX6_putScreen 2 = .ok (.iload_n 2, 1) := by decide +kernel
theorem dX6_putScreen_3 : decode cX6_putScreen 3 = .ok (.getstatic 80, 3) := by decide +kernel
theorem dX6_putScreen_6 : decode cX6_putScreen 6 = .ok (.arraylength, 1) := by decide +kernel
theorem dX6_putScreen_7 : decode cX6_putScreen 7 = .ok (.if_icmp .ge 21, 3) := by decide +kernel
theorem dX6_putScreen_10 : decode cX6_putScreen 10 = .ok (.aload_n 0, 1) := by decide +kernel
theorem dX6_putScreen_11 : decode cX6_putScreen 11 = .ok (.getfield 21, 3) := by decide +kernel
theorem dX6_putScreen_14 : decode cX6_putScreen 14 = .ok (.getstatic 80, 3) := by decide +kernel
theorem dX6_putScreen_17 : decode cX6_putScreen 17 = .ok (.iload_n 2, 1) := by decide +kernel
theorem dX6_putScreen_18 : decode cX6_putScreen 18 = .ok (.iaload, 1) := by decide +kernel
theorem dX6_putScreen_19 : decode cX6_putScreen 19 = .ok (.invokevirtual 76, 3) := by decide +kernel
theorem dX6_putScreen_22 : decode cX6_putScreen 22 = .ok (.iinc 2 1, 3) := by decide +kernel
theorem dX6_putScreen_25 : decode cX6_putScreen 25 = .ok (.goto (-23), 3) := by decide +kernel
theorem dX6_putScreen_28 : decode cX6_putScreen 28 = .ok (.aload_n 0, 1) := by decide +kernel
theorem dX6_putScreen_29 : decode cX6_putScreen 29 = .ok (.getfield 21, 3) := by decide +kernel
theorem dX6_putScreen_32 : decode cX6_putScreen 32 = .ok (.aload_n 1, 1) := by decide +kernel
theorem dX6_putScreen_33 : decode cX6_putScreen 33 = .ok (.getfield 84, 3) := by decide +kernel
theorem dX6_putScreen_36 : decode cX6_putScreen 36 = .ok (.invokevirtual 87, 3) := by decide +kernel
theorem dX6_putScreen_39 : decode cX6_putScreen 39 = .ok (.aload_n 0, 1) := by decide +kernel
theorem dX6_putScreen_40 : decode cX6_putScreen 40 = .ok (.getfield 21, 3) := by decide +kernel
theorem dX6_putScreen_43 : decode cX6_putScreen 43 = .ok (.aload_n 1, 1) := by decide +kernel
theorem dX6_putScreen_44 : decode cX6_putScreen 44 = .ok (.getfield 90, 3) := by decide +kernel
theorem dX6_putScreen_47 : decode cX6_putScreen 47 = .ok (.invokevirtual 87, 3) := by decide +kernel
theorem dX6_putScreen_50 : decode cX6_putScreen 50 = .ok (.aload_n 0, 1) := by decide +kernel
theorem dX6_putScreen_51 : decode cX6_putScreen 51 = .ok (.getfield 21, 3) := by decide +kernel
theorem dX6_putScreen_54 : decode cX6_putScreen 54 = .ok (.aload_n 1, 1) := by decide +kernel
theorem dX6_putScreen_55 : decode cX6_putScreen 55 = .ok (.getfield 93, 3) := by decide +kernel
theorem dX6_putScreen_58 : decode cX6_putScreen 58 = .ok (.invokevirtual 97, 3) := by decide +kernel
theorem dX6_putScreen_61 : decode cX6_putScreen 61 = .ok (.bipush 112, 2) := by decide +kernel
theorem dX6_putScreen_63 : decode cX6_putScreen 63 = .ok (.iadd, 1) := by decide +kernel
theorem dX6_putScreen_64 : decode cX6_putScreen 64 = .ok (.invokevirtual 76, 3) := by decide +kernel
theorem dX6_putScreen_67 : decode cX6_putScreen 67 = .ok (.aload_n 0, 1) := by decide +kernel
theorem dX6_putScreen_68 : decode cX6_putScreen 68 = .ok (.getfield 21, 3) := by decide +kernel
theorem dX6_putScreen_71 : decode cX6_putScreen 71 = .ok (.aload_n 1, 1) := by decide +kernel
theorem dX6_putScreen_72 : decode cX6_putScreen 72 = .ok (.getfield 100, 3) := by decide +kernel
theorem dX6_putScreen_75 : decode cX6_putScreen 75 = .ok (.invokevirtual 76, 3) := by decide +kernel
theorem dX6_putScreen_78 : decode cX6_putScreen 78 = .ok (.aload_n 0, 1) := by decide +kernel
theorem dX6_putScreen_79 : decode cX6_putScreen 79 = .ok (.getfield 21, 3) := by decide +kernel
theorem dX6_putScreen_82 : decode cX6_putScreen 82 = .ok (.aload_n 1, 1) := by decide +kernel
theorem dX6_putScreen_83 : decode cX6_putScreen 83 = .ok (.getfield 103, 3) := by decide +kernel
theorem dX6_putScreen_86 : decode cX6_putScreen 86 = .ok (.invokevirtual 76, 3) := by decide +kernel
theorem dX6_putScreen_89 : decode cX6_putScreen 89 = .ok (.aload_n 0, 1) := by decide +kernel
theorem dX6_putScreen_90 : decode cX6_putScreen 90 = .ok (.aload_n 1, 1) := by decide +kernel
theorem dX6_putScreen_91 : decode cX6_putScreen 91 = .ok (.getfield 93, 3) := by decide +kernel
theorem dX6_putScreen_94 : decode cX6_putScreen 94 = .ok (.invokevirtual 106, 3) := by decide +kernel
theorem dX6_putScreen_97 : decode cX6_putScreen 97 = .ok (.return_, 1) := by decide +kernel
theorem dX6_putTable_0 : decode cX6_putTable 0 = .ok (.iconst 0, 1) := by decide +kernel
theorem dX6_putTable_1 : decode cX6_putTable 1 = .ok (.istore_n 2, 1) := by decide +kernel
theorem dX6_putTable_2 : decode cX6_putTable 2 = .ok (.iload_n 2, 1) := by decide +kernel
theorem dX6_putTable_3 : decode cX6_putTable 3 = .ok (.aload_n 1, 1) := by decide +kernel
theorem dX6_putTable_4 : decode cX6_putTable 4 = .ok (.getfield 110, 3) := by decide +kernel
theorem dX6_putTable_7 : decode cX6_putTable 7 = .ok (.if_icmp .ge 46, 3) := by decide +kernel
theorem dX6_putTable_10 : decode cX6_putTable 10 = .ok (.aload_n 1, 1) := by decide +kernel
theorem dX6_putTable_11 : decode cX6_putTable 11 = .ok (.getfield 113, 3) := by decide +kernel
theorem dX6_putTable_14 : decode cX6_putTable 14 = .ok (.iload_n 2, 1) := by decide +kernel
theorem dX6_putTable_15 : decode cX6_putTable 15 = .ok (.iaload, 1) := by decide +kernel
theorem dX6_putTable_16 : decode cX6_putTable 16 = .ok (.istore_n 3, 1) := by decide +kernel
theorem dX6_putTable_17 : decode cX6_putTable 17 = .ok (.aload_n 0, 1) := by decide +kernel
theorem dX6_putTable_18 : decode cX6_putTable 18 = .ok (.getfield 21, 3) := by decide +kernel
theorem dX6_putTable_21 : decode cX6_putTable 21 = .ok (.iload_n 3, 1) := by decide +kernel
theorem dX6_putTable_22 : decode cX6_putTable 22 = .ok (.bipush 16, 2) := by decide +kernel
theorem dX6_putTable_24 : decode cX6_putTable 24 = .ok (.ishr, 1) := by decide +kernel
theorem dX6_putTable_25 : decode cX6_putTable 25 = .ok (.invokevirtual 76, 3) := by decide +kernel
theorem dX6_putTable_28 : decode cX6_putTable 28 = .ok (.aload_n 0, 1) := by decide +kernel
theorem dX6_putTable_29 : decode cX6_putTable 29 = .ok (.getfield 21, 3) := by decide +kernel
theorem dX6_putTable_32 : decode cX6_putTable 32 = .ok (.iload_n 3, 1) := by decide +kernel
theorem dX6_putTable_33 : decode cX6_putTable 33 = .ok (.bipush 8, 2) := by decide +kernel
theorem dX6_putTable_35 : decode cX6_putTable 35 = .ok (.ishr, 1) := by decide +kernel
theorem dX6_putTable_36 : decode cX6_putTable 36 = .ok (.invokevirtual 76, 3) := by decide +kernel
theorem dX6_putTable_39 : decode cX6_putTable 39 = .ok (.aload_n 0, 1) := by decide +kernel
theorem dX6_putTable_40 : decode cX6_putTable 40 = .ok (.getfield 21, 3) := by decide +kernel
theorem dX6_putTable_43 : decode cX6_putTable 43 = .ok (.iload_n 3, 1) := by decide +kernel
theorem dX6_putTable_44 : decode cX6_putTable 44 = .ok (.invokevirtual 76, 3) := by decide +kernel
theorem dX6_putTable_47 : decode cX6_putTable 47 = .ok (.iinc 2 1, 3) := by decide +kernel
theorem dX6_putTable_50 : decode cX6_putTable 50 = .ok (.goto (-48), 3) := by decide +kernel
theorem dX6_putTable_53 : decode cX6_putTable 53 = .ok (.return_, 1) := by decide +kernel
theorem dX6_putControl_0 : decode cX6_putControl 0 = .ok (.aload_n 1, 1) := by decide +kernel
theorem dX6_putControl_1 : decode cX6_putControl 1 = .ok (.getfield 116, 3) := by decide +kernel
theorem dX6_putControl_4 : decode cX6_putControl 4 = .ok (.iconst (-1), 1) := by decide +kernel
theorem dX6_putControl_5 : decode cX6_putControl 5 = .ok (.if_icmp .ne 7, 3) := by decide +kernel
theorem dX6_putControl_8 : decode cX6_putControl 8 = .ok (.iconst 1, 1) := by decide +kernel
theorem dX6_putControl_9 : decode cX6_putControl 9 = .ok (.goto 4, 3) := by decide +kernel
theorem dX6_putControl_12 : decode cX6_putControl 12 = .ok (.iconst 0, 1) := by decide +kernel
theorem dX6_putControl_13 : decode cX6_putControl 13 = .ok (.istore_n 2, 1) := by decide +kernel
theorem dX6_putControl_14 : decode cX6_putControl 14 = .ok (.aload_n 0, 1) := by decide +kernel
theorem dX6_putControl_15 : decode cX6_putControl 15 = .ok (.getfield 21, 3) := by decide +kernel
theorem dX6_putControl_18 : decode cX6_putControl 18 = .ok (.bipush 33, 2) := by decide +kernel
theorem dX6_putControl_20 : decode cX6_putControl 20 = .ok (.invokevirtual 76, 3) := by decide +kernel
theorem dX6_putControl_23 : decode cX6_putControl 23 = .ok (.aload_n 0, 1) := by decide +kernel
theorem dX6_putControl_24 : decode cX6_putControl 24 = .ok (.getfield 21, 3) := by decide +kernel
theorem dX6_putControl_27 : decode cX6_putControl 27 = .ok (.sipush 249, 3) := by decide +kernel
theorem dX6_putControl_30 : decode cX6_putControl 30 = .ok (.invokevirtual 76, 3) := by decide +kernel
theorem dX6_putControl_33 : decode cX6_putControl 33 = .ok (.aload_n 0, 1) := by decide +kernel
theorem dX6_putControl_34 : decode cX6_putControl 34 = .ok (.getfield 21, 3) := by decide +kernel
theorem dX6_putControl_37 : decode cX6_putControl 37 = .ok (.iconst 4, 1) := by decide +kernel
theorem dX6_putControl_38 : decode cX6_putControl 38 = .ok (.invokevirtual 76, 3) := by decide +kernel
theorem dX6_putControl_41 : decode cX6_putControl 41 = .ok (.aload_n 0, 1) := by decide +kernel
theorem dX6_putControl_42 : decode cX6_putControl 42 = .ok (.getfield 21, 3) := by decide +kernel
theorem dX6_putControl_45 : decode cX6_putControl 45 = .ok (.aload_n 1, 1) := by decide +kernel
theorem dX6_putControl_46 : decode cX6_putControl 46 = .ok (.getfield 121, 3) := by decide +kernel
theorem dX6_putControl_49 : decode cX6_putControl 49 = .ok (.iconst 2, 1) := by decide +kernel
theorem dX6_putControl_50 : decode cX6_putControl 50 = .ok (.ishl, 1) := by decide +kernel
theorem dX6_putControl_51 : decode cX6_putControl 51 = .ok (.aload_n 1, 1) := by decide +kernel
theorem dX6_putControl_52 : decode cX6_putControl 52 = .ok (.getfield 124, 3) := by decide +kernel
theorem dX6_putControl_55 : decode cX6_putControl 55 = .ok (.ifCond .eq 7, 3) := by decide +kernel
theorem dX6_putControl_58 : decode cX6_putControl 58 = .ok (.iconst 2, 1) := by decide +kernel
theorem dX6_putControl_59 : decode cX6_putControl 59 = .ok (.goto 4, 3) := by decide +kernel
theorem dX6_putControl_62 : decode cX6_putControl 62 = .ok (.iconst 0, 1) := by decide +kernel
theorem dX6_putControl_63 : decode cX6_putControl 63 = .ok (.ior, 1) := by decide +kernel
theorem dX6_putControl_64 : decode cX6_putControl 64 = .ok (.iload_n 2, 1) := by decide +kernel
theorem dX6_putControl_65 : decode cX6_putControl 65 = .ok (.ifCond .eq 7, 3) := by decide +kernel
theorem dX6_putControl_68 : decode cX6_putControl 68 = .ok (.iconst 0, 1) := by decide +kernel
theorem dX6_putControl_69 : decode cX6_putControl 69 = .ok (.goto 4, 3) := by decide +kernel
theorem dX6_putControl_72 : decode cX6_putControl 72 = .ok (.iconst 1, 1) := by decide +kernel
theorem dX6_putControl_73 : decode cX6_putControl 73 = .ok (.ior, 1) := by decide +kernel
theorem dX6_putControl_74 : decode cX6_putControl 74 = .ok (.invokevirtual 76, 3) := by decide +kernel
theorem dX6_putControl_77 : decode cX6_putControl 77 = .ok (.aload_n 0, 1) := by decide +kernel
theorem dX6_putControl_78 : decode cX6_putControl 78 = .ok (.getfield 21, 3) := by decide +kernel
theorem dX6_putControl_81 : decode cX6_putControl 81 = .ok (.aload_n 1, 1) := by decide +kernel
theorem dX6_putControl_82 : decode cX6_putControl 82 = .ok (.getfield 127, 3) := by decide +kernel
theorem dX6_putControl_85 : decode cX6_putControl 85 = .ok (.invokevirtual 87, 3) := by decide +kernel
theorem dX6_putControl_88 : decode cX6_putControl 88 = .ok (.aload_n 0, 1) := by decide +kernel
theorem dX6_putControl_89 : decode cX6_putControl 89 = .ok (.getfield 21, 3) := by decide +kernel
theorem dX6_putControl_92 : decode cX6_putControl 92 = .ok (.iload_n 2, 1) := by decide +kernel
theorem dX6_putControl_93 : decode cX6_putControl 93 = .ok (.ifCond .eq 7, 3) := by decide +kernel
theorem dX6_putControl_96 : decode cX6_putControl 96 = .ok (.iconst 0, 1) := by decide +kernel
theorem dX6_putControl_97 : decode cX6_putControl 97 = .ok (.goto 7, 3) := by decide +kernel
theorem dX6_putControl_100 : decode cX6_putControl 100 = .ok (.aload_n 1, 1) := by decide +kernel
theorem dX6_putControl_101 : decode cX6_putControl 101 = .ok (.getfield 116, 3) := by decide +kernel
theorem dX6_putControl_104 : decode cX6_putControl 104 = .ok (.invokevirtual 76, 3) := by decide +kernel
theorem dX6_putControl_107 : decode cX6_putControl 107 = .ok (.aload_n 0, 1) := by decide +kernel
theorem dX6_putControl_108 : decode cX6_putControl 108 = .ok (.getfield 21, 3) := by decide +kernel
theorem dX6_putControl_111 : decode cX6_putControl 111 = .ok (.iconst 0, 1) := by decide +kernel
theorem dX6_putControl_112 : decode cX6_putControl 112 = .ok (.invokevirtual 76, 3) := by decide +kernel
theorem dX6_putControl_115 : decode cX6_putControl 115 = .ok (.return_, 1) := by decide +kernel
theorem dX6_putImage_0 : decode cX6_putImage 0 = .ok (.aload_n 0, 1) := by decide +kernel
theorem dX6_putImage_1 : decode cX6_putImage 1 = .ok (.getfield 21, 3) := by decide +kernel
theorem dX6_putImage_4 : decode cX6_putImage 4 = .ok (.bipush 44, 2) := by decide +kernel
theorem dX6_putImage_6 : decode cX6_putImage 6 = .ok (.invokevirtual 76, 3) := by decide +kernel
theorem dX6_putImage_9 : decode cX6_putImage 9 = .ok (.aload_n 0, 1) := by decide +kernel
theorem dX6_putImage_10 : decode cX6_putImage 10 = .ok (.getfield 21, 3) := by decide +kernel
theorem dX6_putImage_13 : decode cX6_putImage 13 = .ok (.aload_n 1, 1) := by decide +kernel
theorem dX6_putImage_14 : decode cX6_putImage 14 = .ok (.getfield 130, 3) := by decide +kernel
theorem dX6_putImage_17 : decode cX6_putImage 17 = .ok (.invokevirtual 87, 3) := by decide +kernel
theorem dX6_putImage_20 : decode cX6_putImage 20 = .ok (.aload_n 0, 1) := by decide +kernel
theorem dX6_putImage_21 : decode cX6_putImage 21 = .ok (.getfield 21, 3) := by decide +kernel
theorem dX6_putImage_24 : decode cX6_putImage 24 = .ok (.aload_n 1, 1) := by decide +kernel
theorem dX6_putImage_25 : decode cX6_putImage 25 = .ok (.getfield 133, 3) := by decide +kernel
theorem dX6_putImage_28 : decode cX6_putImage 28 = .ok (.invokevirtual 87, 3) := by decide +kernel
theorem dX6_putImage_31 : decode cX6_putImage 31 = .ok (.aload_n 0, 1) := by decide +kernel
theorem dX6_putImage_32 : decode cX6_putImage 32 = .ok (.getfield 21, 3) := by decide +kernel
theorem dX6_putImage_35 : decode cX6_putImage 35 = .ok (.aload_n 1, 1) := by decide +kernel
theorem dX6_putImage_36 : decode cX6_putImage 36 = .ok (.getfield 136, 3) := by decide +kernel
theorem dX6_putImage_39 : decode cX6_putImage 39 = .ok (.invokevirtual 87, 3) := by decide +kernel
theorem dX6_putImage_42 : decode cX6_putImage 42 = .ok (.aload_n 0, 1) := by decide +kernel
theorem dX6_putImage_43 : decode cX6_putImage 43 = .ok (.getfield 21, 3) := by decide +kernel
theorem dX6_putImage_46 : decode cX6_putImage 46 = .ok (.aload_n 1, 1) := by decide +kernel
theorem dX6_putImage_47 : decode cX6_putImage 47 = .ok (.getfield 137, 3) := by decide +kernel
theorem dX6_putImage_50 : decode cX6_putImage 50 = .ok (.invokevirtual 87, 3) := by decide +kernel
theorem dX6_putImage_53 : decode cX6_putImage 53 = .ok (.aload_n 0, 1) := by decide +kernel
theorem dX6_putImage_54 : decode cX6_putImage 54 = .ok (.getfield 21, 3) := by decide +kernel
theorem dX6_putImage_57 : decode cX6_putImage 57 = .ok (.aload_n 1, 1) := by decide +kernel
theorem dX6_putImage_58 : decode cX6_putImage 58 = .ok (.getfield 138, 3) := by decide +kernel
theorem dX6_putImage_61 : decode cX6_putImage 61 = .ok (.invokevirtual 97, 3) := by decide +kernel
theorem dX6_putImage_64 : decode cX6_putImage 64 = .ok (.aload_n 1, 1) := by decide +kernel
theorem dX6_putImage_65 : decode cX6_putImage 65 = .ok (.getfield 141, 3) := by decide +kernel
theorem dX6_putImage_68 : decode cX6_putImage 68 = .ok (.ifCond .eq 8, 3) := by decide +kernel
theorem dX6_putImage_71 : decode cX6_putImage 71 = .ok (.bipush 64, 2) := by decide +kernel
theorem dX6_putImage_73 : decode cX6_putImage 73 = .ok (.goto 4, 3) := by decide +kernel
theorem dX6_putImage_76 : decode cX6_putImage 76 = .ok (.iconst 0, 1) := by decide +kernel
theorem dX6_putImage_77 : decode cX6_putImage 77 = .ok (.iadd, 1) := by decide +kernel
theorem dX6_putImage_78 : decode cX6_putImage 78 = .ok (.invokevirtual 76, 3) := by decide +kernel
theorem dX6_putImage_81 : decode cX6_putImage 81 = .ok (.aload_n 0, 1) := by decide +kernel
theorem dX6_putImage_82 : decode cX6_putImage 82 = .ok (.aload_n 1, 1) := by decide +kernel
theorem dX6_putImage_83 : decode cX6_putImage 83 = .ok (.getfield 138, 3) := by decide +kernel
theorem dX6_putImage_86 : decode cX6_putImage 86 = .ok (.invokevirtual 106, 3) := by decide +kernel
theorem dX6_putImage_89 : decode cX6_putImage 89 = .ok (.aload_n 0, 1) := by decide +kernel
theorem dX6_putImage_90 : decode cX6_putImage 90 = .ok (.getfield 21, 3) := by decide +kernel
theorem dX6_putImage_93 : decode cX6_putImage 93 = .ok (.iload_n 2, 1) := by decide +kernel
theorem dX6_putImage_94 : decode cX6_putImage 94 = .ok (.invokevirtual 76, 3) := by decide +kernel
theorem dX6_putImage_97 : decode cX6_putImage 97 = .ok (.aload_n 1, 1) := by decide +kernel
theorem dX6_putImage_98 : decode cX6_putImage 98 = .ok (.aload_n 0, 1) := by decide +kernel
theorem dX6_putImage_99 : decode cX6_putImage 99 = .ok (.getfield 12, 3) := by decide +kernel
theorem dX6_putImage_102 : decode cX6_putImage 102 = .ok (.getfield 144, 3) := by decide +kernel
theorem dX6_putImage_105 : decode cX6_putImage 105 = .ok (.invokevirtual 147, 3) := by decide +kernel
theorem dX6_putImage_108 : decode cX6_putImage 108 = .ok (.aload_n 0, 1) := by decide +kernel
theorem dX6_putImage_109 : decode cX6_putImage 109 = .ok (.getfield 12, 3) := by decide +kernel
theorem dX6_putImage_112 : decode cX6_putImage 112 = .ok (.aload_n 1, 1) := by decide +kernel
theorem dX6_putImage_113 : decode cX6_putImage 113 = .ok (.invokevirtual 151, 3) := by decide +kernel
theorem dX6_putImage_116 : decode cX6_putImage 116 = .ok (.iload_n 2, 1) := by decide +kernel
theorem dX6_putImage_117 : decode cX6_putImage 117 = .ok (.invokevirtual 153, 3) := by decide +kernel
theorem dX6_putImage_120 : decode cX6_putImage 120 = .ok (.aload_n 0, 1) := by decide +kernel
theorem dX6_putImage_121 : decode cX6_putImage 121 = .ok (.invokevirtual 157, 3) := by decide +kernel
theorem dX6_putImage_124 : decode cX6_putImage 124 = .ok (.return_, 1) := by decide +kernel
theorem dX6_putRows_0 : decode cX6_putRows 0 = .ok (.aload_n 0, 1) := by decide +kernel
theorem dX6_putRows_1 : decode cX6_putRows 1 = .ok (.getfield 12, 3) := by decide +kernel
theorem dX6_putRows_4 : decode cX6_putRows 4 = .ok (.getfield 160, 3) := by decide +kernel
theorem dX6_putRows_7 : decode cX6_putRows 7 = .ok (.astore_n 1, 1) := by decide +kernel
theorem dX6_putRows_8 : decode cX6_putRows 8 = .ok (.iconst 0, 1) := by decide +kernel
theorem dX6_putRows_9 : decode cX6_putRows 9 = .ok (.istore_n 2, 1) := by decide +kernel
theorem dX6_putRows_10 : decode cX6_putRows 10 = .ok (.iload_n 2, 1) := by decide +kernel
theorem dX6_putRows_11 : decode cX6_putRows 11 = .ok (.aload_n 1, 1) := by decide +kernel
theorem dX6_putRows_12 : decode cX6_putRows 12 = .ok (.getfield 163, 3) := by decide +kernel
theorem dX6_putRows_15 : decode cX6_putRows 15 = .ok (.if_icmp .ge 63, 3) := by decide +kernel
theorem dX6_putRows_18 : decode cX6_putRows 18 = .ok (.sipush 255, 3) := by decide +kernel
theorem dX6_putRows_21 : decode cX6_putRows 21 = .ok (.aload_n 1, 1) := by decide +kernel
theorem dX6_putRows_22 : decode cX6_putRows 22 = .ok (.getfield 163, 3) := by decide +kernel
theorem dX6_putRows_25 : decode cX6_putRows 25 = .ok (.iload_n 2, 1) := by decide +kernel
theorem dX6_putRows_26 : decode cX6_putRows 26 = .ok (.isub, 1) := by decide +kernel
theorem dX6_putRows_27 : decode cX6_putRows 27 = .ok (.invokestatic 164, 3) := by decide +kernel
theorem dX6_putRows_30 : decode cX6_putRows 30 = .ok (.istore_n 3, 1) := by decide +kernel
theorem dX6_putRows_31 : decode cX6_putRows 31 = .ok (.aload_n 0, 1) := by decide +kernel
theorem dX6_putRows_32 : decode cX6_putRows 32 = .ok (.getfield 21, 3) := by decide +kernel
theorem dX6_putRows_35 : decode cX6_putRows 35 = .ok (.iload_n 3, 1) := by decide +kernel
theorem dX6_putRows_36 : decode cX6_putRows 36 = .ok (.invokevirtual 76, 3) := by decide +kernel
theorem dX6_putRows_39 : decode cX6_putRows 39 = .ok (.iconst 0, 1) := by decide +kernel
theorem dX6_putRows_40 : decode cX6_putRows 40 = .ok (.istore 4, 2) := by decide +kernel
theorem dX6_putRows_42 : decode cX6_putRows 42 = .ok (.iload 4, 2) := by decide +kernel
theorem dX6_putRows_44 : decode cX6_putRows 44 = .ok (.iload_n 3, 1) := by decide +kernel
theorem dX6_putRows_45 : decode cX6_putRows 45 = .ok (.if_icmp .ge 24, 3) := by decide +kernel
theorem dX6_putRows_48 : decode cX6_putRows 48 = .ok (.aload_n 0, 1) := by decide +kernel
theorem dX6_putRows_49 : decode cX6_putRows 49 = .ok (.getfield 21, 3) := by decide +kernel
theorem dX6_putRows_52 : decode cX6_putRows 52 = .ok (.aload_n 1, 1) := by decide +kernel
theorem dX6_putRows_53 : decode cX6_putRows 53 = .ok (.iload_n 2, 1) := by decide +kernel
theorem dX6_putRows_54 : decode cX6_putRows 54 = .ok (.iload 4, 2) := by decide +kernel
theorem dX6_putRows_56 : decode cX6_putRows 56 = .ok (.iadd, 1) := by decide +kernel
theorem dX6_putRows_57 : decode cX6_putRows 57 = .ok (.invokevirtual 167, 3) := by decide +kernel
theorem dX6_putRows_60 : decode cX6_putRows 60 = .ok (.invokevirtual 76, 3) := by decide +kernel
theorem dX6_putRows_63 : decode cX6_putRows 63 = .ok (.iinc 4 1, 3) := by decide +kernel
theorem dX6_putRows_66 : decode cX6_putRows 66 = .ok (.goto (-24), 3) := by decide +kernel
theorem dX6_putRows_69 : decode cX6_putRows 69 = .ok (.iinc 2 255, 6) := by decide +kernel
theorem dX6_putRows_75 : decode cX6_putRows 75 = .ok (.goto (-65), 3) := by decide +kernel
theorem dX6_putRows_78 : decode cX6_putRows 78 = .ok (.aload_n 0, 1) := by decide +kernel
theorem dX6_putRows_79 : decode cX6_putRows 79 = .ok (.getfield 21, 3) := by decide +kernel
theorem dX6_putRows_82 : decode cX6_putRows 82 = .ok (.iconst 0, 1) := by decide +kernel
theorem dX6_putRows_83 : decode cX6_putRows 83 = .ok (.invokevirtual 76, 3) := by decide +kernel
theorem dX6_putRows_86 : decode cX6_putRows 86 = .ok (.return_, 1) := by decide +kernel
theorem dX7_init_0 : decode cX7_init 0 = .ok (.aload_n 0, 1) := by decide +kernel
theorem dX7_init_1 : decode cX7_init 1 = .ok (.invokespecial 3, 3) := by decide +kernel
theorem dX7_init_4 : decode cX7_init 4 = .ok (.aload_n 0, 1) := by decide +kernel
theorem dX7_init_5 : decode cX7_init 5 = .ok (.sipush 256, 3) := by decide +kernel
theorem dX7_init_8 : decode cX7_init 8 = .ok (.newarray .int, 2) := by decide +kernel
theorem dX7_init_10 : decode cX7_init 10 = .ok (.putfield 9, 3) := by decide +kernel
theorem dX7_init_13 : decode cX7_init 13 = .ok (.aload_n 0, 1) := by decide +kernel
theorem dX7_init_14 : decode cX7_init 14 = .ok (.iconst 0, 1) := by decide +kernel
theorem dX7_init_15 : decode cX7_init 15 = .ok (.putfield 15, 3) := by decide +kernel
theorem dX7_init_18 : decode cX7_init 18 = .ok (.return_, 1) := by decide +kernel
theorem dX7_reset_0 : decode cX7_reset 0 = .ok (.aload_n 0, 1) := by decide +kernel
theorem dX7_reset_1 : decode cX7_reset 1 = .ok (.iload_n 1, 1) := by decide +kernel
theorem dX7_reset_2 : decode cX7_reset 2 = .ok (.putfield 15, 3) := by decide +kernel
theorem dX7_reset_5 : decode cX7_reset 5 = .ok (.iconst 0, 1) := by decide +kernel
theorem dX7_reset_6 : decode cX7_reset 6 = .ok (.istore_n 2, 1) := by decide +kernel
theorem dX7_reset_7 : decode cX7_reset 7 = .ok (.iload_n 2, 1) := by decide +kernel
theorem dX7_reset_8 : decode cX7_reset 8 = .ok (.iload_n 1, 1) := by decide +kernel
theorem dX7_reset_9 : decode cX7_reset 9 = .ok (.if_icmp .ge 16, 3) := by decide +kernel
theorem dX7_reset_12 : decode cX7_reset 12 = .ok (.aload_n 0, 1) := by decide +kernel
theorem dX7_reset_13 : decode cX7_reset 13 = .ok (.getfield 9, 3) := by decide +kernel
theorem dX7_reset_16 : decode cX7_reset 16 = .ok (.iload_n 2, 1) := by decide +kernel
theorem dX7_reset_17 : decode cX7_reset 17 = .ok (.iconst 0, 1) := by decide +kernel
theorem dX7_reset_18 : decode cX7_reset 18 = .ok (.iastore, 1) := by decide +kernel
theorem dX7_reset_19 : decode cX7_reset 19 = .ok (.iinc 2 1, 3) := by decide +kernel
theorem dX7_reset_22 : decode cX7_reset 22 = .ok (.goto (-15), 3) := by decide +kernel
theorem dX7_reset_25 : decode cX7_reset 25 = .ok (.return_, 1) := by decide +kernel
theorem dX7_has_0 : decode cX7_has 0 = .ok (.iload_n 1, 1) := by decide +kernel
theorem dX7_has_1 : decode cX7_has 1 = .ok (.ifCond .lt 15, 3) := by decide +kernel
theorem dX7_has_4 : decode cX7_has 4 = .ok (.iload_n 1, 1) := by decide +kernel
theorem dX7_has_5 : decode cX7_has 5 = .ok (.aload_n 0, 1) := by decide +kernel
theorem dX7_has_6 : decode cX7_has 6 = .ok (.getfield 15, 3) := by decide +kernel
theorem dX7_has_9 : decode cX7_has 9 = .ok (.if_icmp .ge 7, 3) := by decide +kernel
theorem dX7_has_12 : decode cX7_has 12 = .ok (.iconst 1, 1) := by decide +kernel
theorem dX7_has_13 : decode cX7_has 13 = .ok (.goto 4, 3) := by decide +kernel
theorem dX7_has_16 : decode cX7_has 16 = .ok (.iconst 0, 1) := by decide +kernel
theorem dX7_has_17 : decode cX7_has 17 = .ok (.ireturn, 1) := by decide +kernel
theorem dX7_power_0 : decode cX7_power 0 = .ok (.aload_n 0, 1) := by decide +kernel
theorem dX7_power_1 : decode cX7_power 1 = .ok (.getfield 15, 3) := by decide +kernel
theorem dX7_power_4 : decode cX7_power 4 = .ok (.invokestatic 19, 3) := by decide +kernel
theorem dX7_power_7 : decode cX7_power 7 = .ok (.ireturn, 1) := by decide +kernel
theorem dX7_mark_0 : decode cX7_mark 0 = .ok (.aload_n 0, 1) := by decide +kernel
theorem dX7_mark_1 : decode cX7_mark 1 = .ok (.getfield 15, 3) := by decide +kernel
theorem dX7_mark_4 : decode cX7_mark 4 = .ok (.ifCond .ne 7, 3) := by decide +kernel
theorem dX7_mark_7 : decode cX7_mark 7 = .ok (.iconst 0, 1) := by decide +kernel
theorem dX7_mark_8 : decode cX7_mark 8 = .ok (.goto 13, 3) := by decide +kernel
theorem dX7_mark_11 : decode cX7_mark 11 = .ok (.sipush 128, 3) := by decide +kernel
theorem dX7_mark_14 : decode cX7_mark 14 = .ok (.aload_n 0, 1) := by decide +kernel
theorem dX7_mark_15 : decode cX7_mark 15 = .ok (.invokevirtual 25, 3) := by decide +kernel
theorem dX7_mark_18 : decode cX7_mark 18 = .ok (.iadd, 1) := by decide +kernel
theorem dX7_mark_19 : decode cX7_mark 19 = .ok (.iconst 1, 1) := by decide +kernel
theorem dX7_mark_20 : decode cX7_mark 20 = .ok (.isub, 1) := by decide +kernel
theorem dX7_mark_21 : decode cX7_mark 21 = .ok (.ireturn, 1) := by decide +kernel
theorem dX7_sizeByMark_0 : decode cX7_sizeByMark 0 = .ok (.iload_n 0, 1) := by decide +kernel
theorem dX7_sizeByMark_1 : decode cX7_sizeByMark 1 = .ok (.sipush 128, 3) := by decide +kernel
theorem dX7_sizeByMark_4 : decode cX7_sizeByMark 4 = .ok (.iand, 1) := by decide +kernel
theorem dX7_sizeByMark_5 : decode cX7_sizeByMark 5 = .ok (.ifCond .ne 7, 3) := by decide +kernel
theorem dX7_sizeByMark_8 : decode cX7_sizeByMark 8 = .ok (.iconst 0, 1) := by decide +kernel
theorem dX7_sizeByMark_9 : decode cX7_sizeByMark 9 = .ok (.goto 9, 3) := by decide +kernel
theorem dX7_sizeByMark_12 : decode cX7_sizeByMark 12 = .ok (.iconst 2, 1) := by decide +kernel
theorem dX7_sizeByMark_13 : decode cX7_sizeByMark 13 = .ok (.iload_n 0, 1) := by decide +kernel
theorem dX7_sizeByMark_14 : decode cX7_sizeByMark 14 = .ok (.bipush 7, 2) := by decide +kernel
theorem dX7_sizeByMark_16 : decode cX7_sizeByMark 16 = .ok (.iand, 1) := by decide +kernel
theorem dX7_sizeByMark_17 : decode cX7_sizeByMark 17 = .ok (.ishl, 1) := by decide +kernel
theorem dX7_sizeByMark_18 : decode cX7_sizeByMark 18 = .ok (.ireturn, 1) := by decide +kernel
theorem dX8_init_0 : decode cX8_init 0 = .ok (.aload_n 0, 1) := by decide +kernel
theorem dX8_init_1 : decode cX8_init 1 = .ok (.invokespecial 3, 3) := by decide +kernel
theorem dX8_init_4 : decode cX8_init 4 = .ok (.aload_n 0, 1) := by decide +kernel
theorem dX8_init_5 : decode cX8_init 5 = .ok (.invokevirtual 9, 3) := by decide +kernel
theorem dX8_init_8 : decode cX8_init 8 = .ok (.return_, 1) := by decide +kernel
theorem dX8_reset_0 : decode cX8_reset 0 = .ok (.aload_n 0, 1) := by decide +kernel
theorem dX8_reset_1 : decode cX8_reset 1 = .ok (.iconst 0, 1) := by decide +kernel
theorem dX8_reset_2 : decode cX8_reset 2 = .ok (.iconst (-1), 1) := by decide +kernel
theorem dX8_reset_3 : decode cX8_reset 3 = .ok (.iconst 0, 1) := by decide +kernel
theorem dX8_reset_4 : decode cX8_reset 4 = .ok (.iconst 0, 1) := by decide +kernel
theorem dX8_reset_5 : decode cX8_reset 5 = .ok (.invokevirtual 14, 3) := by decide +kernel
theorem dX8_reset_8 : decode cX8_reset 8 = .ok (.return_, 1) := by decide +kernel
theorem dX8_become_0 : decode cX8_become 0 = .ok (.aload_n 0, 1) := by decide +kernel
theorem dX8_become_1 : decode cX8_become 1 = .ok (.iload_n 1, 1) := by decide +kernel
theorem dX8_become_2 : decode cX8_become 2 = .ok (.putfield 18, 3) := by decide +kernel
theorem dX8_become_5 : decode cX8_become 5 = .ok (.aload_n 0, 1) := by decide +kernel
theorem dX8_become_6 : decode cX8_become 6 = .ok (.iload_n 2, 1) := by decide +kernel
theorem dX8_become_7 : decode cX8_become 7 = .ok (.putfield 22, 3) := by decide +kernel
theorem dX8_become_10 : decode cX8_become 10 = .ok (.aload_n 0, 1) := by decide +kernel
theorem dX8_become_11 : decode cX8_become 11 = .ok (.iload_n 3, 1) := by decide +kernel
theorem dX8_become_12 : decode cX8_become 12 = .ok (.putfield 25, 3) := by decide +kernel
theorem dX8_become_15 : decode cX8_become 15 = .ok (.aload_n 0, 1) := by decide +kernel
theorem dX8_become_16 : decode cX8_become 16 = .ok (.iload 4, 2) := by decide +kernel
theorem dX8_become_18 : decode cX8_become 18 = .ok (.putfield 28, 3) := by decide +kernel
theorem dX8_become_21 : decode cX8_become 21 = .ok (.return_, 1) := by decide +kernel
theorem dX8_copyFrom_0 : decode cX8_copyFrom 0 = .ok (.aload_n 0, 1) := by decide +kernel
theorem dX8_copyFrom_1 : decode cX8_copyFrom 1 = .ok (.aload_n 1, 1) := by decide +kernel
theorem dX8_copyFrom_2 : decode cX8_copyFrom 2 = .ok (.getfield 18, 3) := by decide +kernel
theorem dX8_copyFrom_5 : decode cX8_copyFrom 5 = .ok (.aload_n 1, 1) := by decide +kernel
theorem dX8_copyFrom_6 : decode cX8_copyFrom 6 = .ok (.getfield 22, 3) := by decide +kernel
theorem dX8_copyFrom_9 : decode cX8_copyFrom 9 = .ok (.aload_n 1, 1) := by decide +kernel
theorem dX8_copyFrom_10 : decode cX8_copyFrom 10 = .ok (.getfield 25, 3) := by decide +kernel
theorem dX8_copyFrom_13 : decode cX8_copyFrom 13 = .ok (.aload_n 1, 1) := by decide +kernel
theorem dX8_copyFrom_14 : decode cX8_copyFrom 14 = .ok (.getfield 28, 3) := by decide +kernel
theorem dX8_copyFrom_17 : decode cX8_copyFrom 17 = .ok (.invokevirtual 14, 3) := by decide +kernel
theorem dX8_copyFrom_20 : decode cX8_copyFrom 20 = .ok (.return_, 1) := by decide +kernel
theorem dX9_init_0 : decode cX9_init 0 = .ok (.aload_n 0, 1) := by decide +kernel
theorem dX9_init_1 : decode cX9_init 1 = .ok (.invokespecial 3, 3) := by decide +kernel
theorem dX9_init_4 : decode cX9_init 4 = .ok (.aload_n 0, 1) := by decide +kernel
theorem dX9_init_5 : decode cX9_init 5 = .ok (.new 9, 3) := by decide +kernel
theorem dX9_init_8 : decode cX9_init 8 = .ok (.dup, 1) := by decide +kernel
theorem dX9_init_9 : decode cX9_init 9 = .ok (.invokespecial 11, 3) := by decide +kernel
theorem dX9_init_12 : decode cX9_init 12 = .ok (.putfield 12, 3) := by decide +kernel
theorem dX9_init_15 : decode cX9_init 15 = .ok (.aload_n 0, 1) := by decide +kernel
theorem dX9_init_16 : decode cX9_init 16 = .ok (.aload_n 0, 1) := by decide +kernel
theorem dX9_init_17 : decode cX9_init 17 = .ok (.getfield 12, 3) := by decide +kernel
theorem dX9_init_20 : decode cX9_init 20 = .ok (.getfield 16, 3) := by decide +kernel
theorem dX9_init_23 : decode cX9_init 23 = .ok (.putfield 20, 3) := by decide +kernel
theorem dX9_init_26 : decode cX9_init 26 = .ok (.aload_n 0, 1) := by decide +kernel
theorem dX9_init_27 : decode cX9_init 27 = .ok (.new 23, 3) := by decide +kernel
theorem dX9_init_30 : decode cX9_init 30 = .ok (.dup, 1) := by decide +kernel
theorem dX9_init_31 : decode cX9_init 31 = .ok (.invokespecial 25, 3) := by decide +kernel
theorem dX9_init_34 : decode cX9_init 34 = .ok (.putfield 26, 3) := by decide +kernel
theorem dX9_init_37 : decode cX9_init 37 = .ok (.aload_n 0, 1) := by decide +kernel
theorem dX9_init_38 : decode cX9_init 38 = .ok (.new 29, 3) := by decide +kernel
theorem dX9_init_41 : decode cX9_init 41 = .ok (.dup, 1) := by decide +kernel
theorem dX9_init_42 : decode cX9_init 42 = .ok (.invokespecial 31, 3) := by decide +kernel
theorem dX9_init_45 : decode cX9_init 45 = .ok (.putfield 32, 3) := by decide +kernel
theorem dX9_init_48 : decode cX9_init 48 = .ok (.aload_n 0, 1) := by decide +kernel
theorem dX9_init_49 : decode cX9_init 49 = .ok (.new 36, 3) := by decide +kernel
theorem dX9_init_52 : decode cX9_init 52 = .ok (.dup, 1) := by decide +kernel
theorem dX9_init_53 : decode cX9_init 53 = .ok (.invokespecial 38, 3) := by decide +kernel
theorem dX9_init_56 : decode cX9_init 56 = .ok (.putfield 39, 3) := by decide +kernel
theorem dX9_init_59 : decode cX9_init 59 = .ok (.aload_n 0, 1) := by decide +kernel
theorem dX9_init_60 : decode cX9_init 60 = .ok (.iconst 0, 1) := by decide +kernel
theorem dX9_init_61 : decode cX9_init 61 = .ok (.putfield 43, 3) := by decide +kernel
theorem dX9_init_64 : decode cX9_init 64 = .ok (.return_, 1) := by decide +kernel
theorem dX9_feed_0 : decode cX9_feed 0 = .ok (.aload_n 0, 1) := by decide +kernel
theorem dX9_feed_1 : decode cX9_feed 1 = .ok (.getfield 20, 3) := by decide +kernel
theorem dX9_feed_4 : decode cX9_feed 4 = .ok (.getfield 47, 3) := by decide +kernel
theorem dX9_feed_7 : decode cX9_feed 7 = .ok (.sipush 11980, 3) := by decide +kernel
theorem dX9_feed_10 : decode cX9_feed 10 = .ok (.if_icmp .le 5, 3) := by decide +kernel
theorem dX9_feed_13 : decode cX9_feed 13 = .ok (.iconst (-1), 1) := by decide +kernel
theorem dX9_feed_14 : decode cX9_feed 14 = .ok (.ireturn, 1) := by decide +kernel
theorem dX9_feed_15 : decode cX9_feed 15 = .ok (.aload_n 0, 1) := by decide +kernel
theorem dX9_feed_16 : decode cX9_feed 16 = .ok (.getfield 20, 3) := by decide +kernel
theorem dX9_feed_19 : decode cX9_feed 19 = .ok (.iload_n 1, 1) := by decide +kernel
theorem dX9_feed_20 : decode cX9_feed 20 = .ok (.invokevirtual 51, 3) := by decide +kernel
theorem dX9_feed_23 : decode cX9_feed 23 = .ok (.aload_n 0, 1) := by decide +kernel
theorem dX9_feed_24 : decode cX9_feed 24 = .ok (.getfield 20, 3) := by decide +kernel
theorem dX9_feed_27 : decode cX9_feed 27 = .ok (.iload_n 2, 1) := by decide +kernel
theorem dX9_feed_28 : decode cX9_feed 28 = .ok (.invokevirtual 51, 3) := by decide +kernel
theorem dX9_feed_31 : decode cX9_feed 31 = .ok (.aload_n 0, 1) := by decide +kernel
theorem dX9_feed_32 : decode cX9_feed 32 = .ok (.getfield 20, 3) := by decide +kernel
theorem dX9_feed_35 : decode cX9_feed 35 = .ok (.iload_n 3, 1) := by decide +kernel
theorem dX9_feed_36 : decode cX9_feed 36 = .ok (.invokevirtual 51, 3) := by decide +kernel
theorem dX9_feed_39 : decode cX9_feed 39 = .ok (.aload_n 0, 1) := by decide +kernel
theorem dX9_feed_40 : decode cX9_feed 40 = .ok (.getfield 20, 3) := by decide +kernel
theorem dX9_feed_43 : decode cX9_feed 43 = .ok (.iload 4, 2) := by decide +kernel
theorem dX9_feed_45 : decode cX9_feed 45 = .ok (.invokevirtual 51, 3) := by decide +kernel
theorem dX9_feed_48 : decode cX9_feed 48 = .ok (.aload_n 0, 1) := by decide +kernel
theorem dX9_feed_49 : decode cX9_feed 49 = .ok (.getfield 20, 3) := by decide +kernel
theorem dX9_feed_52 : decode cX9_feed 52 = .ok (.iload 5, 2) := by decide +kernel
theorem dX9_feed_54 : decode cX9_feed 54 = .ok (.invokevirtual 51, 3) := by decide +kernel
theorem dX9_feed_57 : decode cX9_feed 57 = .ok (.aload_n 0, 1) := by decide +kernel
theorem dX9_feed_58 : decode cX9_feed 58 = .ok (.getfield 20, 3) := by decide +kernel
theorem dX9_feed_61 : decode cX9_feed 61 = .ok (.getfield 47, 3) := by decide +kernel
theorem dX9_feed_64 : decode cX9_feed 64 = .ok (.ireturn, 1) := by decide +kernel
theorem dX9_take_0 : decode cX9_take 0 = .ok (.aload_n 0, 1) := by decide +kernel
theorem dX9_take_1 : decode cX9_take 1 = .ok (.getfield 20, 3) := by decide +kernel
theorem dX9_take_4 : decode cX9_take 4 = .ok (.aload_n 0, 1) := by decide +kernel
theorem dX9_take_5 : decode cX9_take 5 = .ok (.getfield 26, 3) := by decide +kernel
theorem dX9_take_8 : decode cX9_take 8 = .ok (.invokevirtual 55, 3) := by decide +kernel
theorem dX9_take_11 : decode cX9_take 11 = .ok (.aload_n 0, 1) := by decide +kernel
theorem dX9_take_12 : decode cX9_take 12 = .ok (.getfield 20, 3) := by decide +kernel
theorem dX9_take_15 : decode cX9_take 15 = .ok (.getfield 47, 3) := by decide +kernel
theorem dX9_take_18 : decode cX9_take 18 = .ok (.ireturn, 1) := by decide +kernel
theorem dX9_read_0 : decode cX9_read 0 = .ok (.iload_n 1, 1) := by decide +kernel
theorem dX9_read_1 : decode cX9_read 1 = .ok (.ifCond .lt 14, 3) := by decide +kernel
theorem dX9_read_4 : decode cX9_read 4 = .ok (.iload_n 1, 1) := by decide +kernel
theorem dX9_read_5 : decode cX9_read 5 = .ok (.aload_n 0, 1) := by decide +kernel
theorem dX9_read_6 : decode cX9_read 6 = .ok (.getfield 20, 3) := by decide +kernel
theorem dX9_read_9 : decode cX9_read 9 = .ok (.getfield 47, 3) := by decide +kernel
theorem dX9_read_12 : decode cX9_read 12 = .ok (.if_icmp .le 6, 3) := by decide +kernel
theorem dX9_read_15 : decode cX9_read 15 = .ok (.bipush (-2), 2) := by decide +kernel
theorem dX9_read_17 : decode cX9_read 17 = .ok (.ireturn, 1) := by decide +kernel
theorem dX9_read_18 : decode cX9_read 18 = .ok (.aload_n 0, 1) := by decide +kernel
theorem dX9_read_19 : decode cX9_read 19 = .ok (.getfield 12, 3) := by decide +kernel
theorem dX9_read_22 : decode cX9_read 22 = .ok (.iload_n 1, 1) := by decide +kernel
theorem dX9_read_23 : decode cX9_read 23 = .ok (.invokevirtual 59, 3) := by decide +kernel
theorem dX9_read_26 : decode cX9_read 26 = .ok (.aload_n 0, 1) := by decide +kernel
theorem dX9_read_27 : decode cX9_read 27 = .ok (.iconst 1, 1) := by decide +kernel
theorem dX9_read_28 : decode cX9_read 28 = .ok (.putfield 43, 3) := by decide +kernel
theorem dX9_read_31 : decode cX9_read 31 = .ok (.aload_n 0, 1) := by decide +kernel
theorem dX9_read_32 : decode cX9_read 32 = .ok (.getfield 20, 3) := by decide +kernel
theorem dX9_read_35 : decode cX9_read 35 = .ok (.invokevirtual 62, 3) := by decide +kernel
theorem dX9_read_38 : decode cX9_read 38 = .ok (.aload_n 0, 1) := by decide +kernel
theorem dX9_read_39 : decode cX9_read 39 = .ok (.getfield 12, 3) := by decide +kernel
theorem dX9_read_42 : decode cX9_read 42 = .ok (.getfield 65, 3) := by decide +kernel
theorem dX9_read_45 : decode cX9_read 45 = .ok (.ifCond .eq 5, 3) := by decide +kernel
theorem dX9_read_48 : decode cX9_read 48 = .ok (.iconst (-1), 1) := by decide +kernel
theorem dX9_read_49 : decode cX9_read 49 = .ok (.ireturn, 1) := by decide +kernel
theorem dX9_read_50 : decode cX9_read 50 = .ok (.aload_n 0, 1) := by decide +kernel
theorem dX9_read_51 : decode cX9_read 51 = .ok (.aload_n 0, 1) := by decide +kernel
theorem dX9_read_52 : decode cX9_read 52 = .ok (.getfield 12, 3) := by decide +kernel
theorem dX9_read_55 : decode cX9_read 55 = .ok (.aload_n 0, 1) := by decide +kernel
theorem dX9_read_56 : decode cX9_read 56 = .ok (.getfield 32, 3) := by decide +kernel
theorem dX9_read_59 : decode cX9_read 59 = .ok (.invokevirtual 68, 3) := by decide +kernel
theorem dX9_read_62 : decode cX9_read 62 = .ok (.putfield 32, 3) := by decide +kernel
theorem dX9_read_65 : decode cX9_read 65 = .ok (.aload_n 0, 1) := by decide +kernel
theorem dX9_read_66 : decode cX9_read 66 = .ok (.getfield 32, 3) := by decide +kernel
theorem dX9_read_69 : decode cX9_read 69 = .ok (.getfield 72, 3) := by decide +kernel
theorem dX9_read_72 : decode cX9_read 72 = .ok (.ireturn, 1) := by decide +kernel
theorem dX9_fault_0 : decode cX9_fault 0 = .ok (.aload_n 0, 1) := by decide +kernel
theorem dX9_fault_1 : decode cX9_fault 1 = .ok (.getfield 43, 3) := by decide +kernel
theorem dX9_fault_4 : decode cX9_fault 4 = .ok (.ifCond .ne 5, 3) := by decide +kernel
theorem dX9_fault_7 : decode cX9_fault 7 = .ok (.iconst (-1), 1) := by decide +kernel
theorem dX9_fault_8 : decode cX9_fault 8 = .ok (.ireturn, 1) := by decide +kernel
theorem dX9_fault_9 : decode cX9_fault 9 = .ok (.iload_n 1, 1) := by decide +kernel
theorem dX9_fault_10 : decode cX9_fault 10 = .ok (.lookupswitch 42 #[(0, 26), (1, 34)], 26) := by decide +kernel
theorem dX9_fault_36 : decode cX9_fault 36 = .ok (.aload_n 0, 1) := by decide +kernel
theorem dX9_fault_37 : decode cX9_fault 37 = .ok (.getfield 12, 3) := by decide +kernel
theorem dX9_fault_40 : decode cX9_fault 40 = .ok (.getfield 65, 3) := by decide +kernel
theorem dX9_fault_43 : decode cX9_fault 43 = .ok (.ireturn, 1) := by decide +kernel
theorem dX9_fault_44 : decode cX9_fault 44 = .ok (.aload_n 0, 1) := by decide +kernel
theorem dX9_fault_45 : decode cX9_fault 45 = .ok (.getfield 12, 3) := by decide +kernel
theorem dX9_fault_48 : decode cX9_fault 48 = .ok (.getfield 75, 3) := by decide +kernel
theorem dX9_fault_51 : decode cX9_fault 51 = .ok (.ireturn, 1) := by decide +kernel
theorem dX9_fault_52 : decode cX9_fault 52 = .ok (.iconst (-1), 1) := by decide +kernel
theorem dX9_fault_53 : decode cX9_fault 53 = .ok (.ireturn, 1) := by decide +kernel
theorem dX9_begin_0 : decode cX9_begin 0 = .ok (.iload_n 1, 1) := by decide +kernel
theorem dX9_begin_1 : decode cX9_begin 1 = .ok (.invokestatic 78, 3) := by decide +kernel
theorem dX9_begin_4 : decode cX9_begin 4 = .ok (.ifCond .eq 25, 3) := by decide +kernel
theorem dX9_begin_7 : decode cX9_begin 7 = .ok (.iload_n 2, 1) := by decide +kernel
theorem dX9_begin_8 : decode cX9_begin 8 = .ok (.invokestatic 78, 3) := by decide +kernel
theorem dX9_begin_11 : decode cX9_begin 11 = .ok (.ifCond .eq 18, 3) := by decide +kernel
theorem dX9_begin_14 : decode cX9_begin 14 = .ok (.iload_n 3, 1) := by decide +kernel
theorem dX9_begin_15 : decode cX9_begin 15 = .ok (.invokestatic 82, 3) := by decide +kernel
theorem dX9_begin_18 : decode cX9_begin 18 = .ok (.ifCond .eq 11, 3) := by decide +kernel
theorem dX9_begin_21 : decode cX9_begin 21 = .ok (.iload 4, 2) := by decide +kernel
theorem dX9_begin_23 : decode cX9_begin 23 = .ok (.invokestatic 85, 3) := by decide +kernel
theorem dX9_begin_26 : decode cX9_begin 26 = .ok (.ifCond .ne 5, 3) := by decide +kernel
theorem dX9_begin_29 : decode cX9_begin 29 = .ok (.iconst 0, 1) := by decide +kernel
theorem dX9_begin_30 : decode cX9_begin 30 = .ok (.ireturn, 1) := by decide +kernel
theorem dX9_begin_31 : decode cX9_begin 31 = .ok (.aload_n 0, 1) := by decide +kernel
theorem dX9_begin_32 : decode cX9_begin 32 = .ok (.getfield 32, 3) := by decide +kernel
theorem dX9_begin_35 : decode cX9_begin 35 = .ok (.iload_n 1, 1) := by decide +kernel
theorem dX9_begin_36 : decode cX9_begin 36 = .ok (.iload_n 2, 1) := by decide +kernel
theorem dX9_begin_37 : decode cX9_begin 37 = .ok (.iload_n 3, 1) := by decide +kernel
theorem dX9_begin_38 : decode cX9_begin 38 = .ok (.iload 4, 2) := by decide +kernel
theorem dX9_begin_40 : decode cX9_begin 40 = .ok (.iconst 0, 1) := by decide +kernel
theorem dX9_begin_41 : decode cX9_begin 41 = .ok (.invokevirtual 88, 3) := by decide +kernel
theorem dX9_begin_44 : decode cX9_begin 44 = .ok (.iconst 1, 1) := by decide +kernel
theorem dX9_begin_45 : decode cX9_begin 45 = .ok (.ireturn, 1) := by decide +kernel
theorem dX9_colour_0 : decode cX9_colour 0 = .ok (.aload_n 0, 1) := by decide +kernel
theorem dX9_colour_1 : decode cX9_colour 1 = .ok (.iload_n 1, 1) := by decide +kernel
theorem dX9_colour_2 : decode cX9_colour 2 = .ok (.invokevirtual 92, 3) := by decide +kernel
theorem dX9_colour_5 : decode cX9_colour 5 = .ok (.astore 4, 2) := by decide +kernel
theorem dX9_colour_7 : decode cX9_colour 7 = .ok (.aload 4, 2) := by decide +kernel
theorem dX9_colour_9 : decode cX9_colour 9 = .ok (.ifnull 22, 3) := by decide +kernel
theorem dX9_colour_12 : decode cX9_colour 12 = .ok (.aload 4, 2) := by decide +kernel
theorem dX9_colour_14 : decode cX9_colour 14 = .ok (.iload_n 2, 1) := by decide +kernel
theorem dX9_colour_15 : decode cX9_colour 15 = .ok (.invokevirtual 96, 3) := by decide +kernel
theorem dX9_colour_18 : decode cX9_colour 18 = .ok (.ifCond .eq 13, 3) := by decide +kernel
theorem dX9_colour_21 : decode cX9_colour 21 = .ok (.iload_n 3, 1) := by decide +kernel
theorem dX9_colour_22 : decode cX9_colour 22 = .ok (.ifCond .lt 9, 3) := by decide +kernel
theorem dX9_colour_25 : decode cX9_colour 25 = .ok (.iload_n 3, 1) := by decide +kernel
theorem dX9_colour_26 : decode cX9_colour 26 = .ok (.ldc 101, 2) := by decide +kernel
theorem dX9_colour_28 : decode cX9_colour 28 = .ok (.if_icmp .le 5, 3) := by decide +kernel
theorem dX9_colour_31 : decode cX9_colour 31 = .ok (.iconst 0, 1) := by decide +kernel
theorem dX9_colour_32 : decode cX9_colour 32 = .ok (.ireturn, 1) := by decide +kernel
theorem dX9_colour_33 : decode cX9_colour 33 = .ok (.aload 4, 2) := by decide +kernel
theorem dX9_colour_35 : decode cX9_colour 35 = .ok (.getfield 102, 3) := by decide +kernel
theorem dX9_colour_38 : decode cX9_colour 38 = .ok (.iload_n 2, 1) := by decide +kernel
theorem dX9_colour_39 : decode cX9_colour 39 = .ok (.iload_n 3, 1) := by decide +kernel
theorem dX9_colour_40 : decode cX9_colour 40 = .ok (.iastore, 1) := by decide +kernel
theorem dX9_colour_41 : decode cX9_colour 41 = .ok (.iconst 1, 1) := by decide +kernel
theorem dX9_colour_42 : decode cX9_colour 42 = .ok (.ireturn, 1) := by decide +kernel
theorem dX9_frame_0 : decode cX9_frame 0 = .ok (.aload_n 0, 1) := by decide +kernel
theorem dX9_frame_1 : decode cX9_frame 1 = .ok (.getfield 32, 3) := by decide +kernel
theorem dX9_frame_4 : decode cX9_frame 4 = .ok (.invokevirtual 106, 3) := by decide +kernel
theorem dX9_frame_7 : decode cX9_frame 7 = .ok (.ifCond .eq 38, 3) := by decide +kernel
theorem dX9_frame_10 : decode cX9_frame 10 = .ok (.aload_n 0, 1) := by decide +kernel
theorem dX9_frame_11 : decode cX9_frame 11 = .ok (.getfield 32, 3) := by decide +kernel
theorem dX9_frame_14 : decode cX9_frame 14 = .ok (.iload_n 1, 1) := by decide +kernel
theorem dX9_frame_15 : decode cX9_frame 15 = .ok (.iload_n 2, 1) := by decide +kernel
theorem dX9_frame_16 : decode cX9_frame 16 = .ok (.iload_n 3, 1) := by decide +kernel
theorem dX9_frame_17 : decode cX9_frame 17 = .ok (.iload 4, 2) := by decide +kernel
theorem dX9_frame_19 : decode cX9_frame 19 = .ok (.invokevirtual 110, 3) := by decide +kernel
theorem dX9_frame_22 : decode cX9_frame 22 = .ok (.ifCond .eq 23, 3) := by decide +kernel
theorem dX9_frame_25 : decode cX9_frame 25 = .ok (.iload 5, 2) := by decide +kernel
theorem dX9_frame_27 : decode cX9_frame 27 = .ok (.invokestatic 82, 3) := by decide +kernel
theorem dX9_frame_30 : decode cX9_frame 30 = .ok (.ifCond .eq 15, 3) := by decide +kernel
theorem dX9_frame_33 : decode cX9_frame 33 = .ok (.aload_n 0, 1) := by decide +kernel
theorem dX9_frame_34 : decode cX9_frame 34 = .ok (.getfield 32, 3) := by decide +kernel
theorem dX9_frame_37 : decode cX9_frame 37 = .ok (.iload 5, 2) := by decide +kernel
theorem dX9_frame_39 : decode cX9_frame 39 = .ok (.invokevirtual 114, 3) := by decide +kernel
theorem dX9_frame_42 : decode cX9_frame 42 = .ok (.ifCond .ne 5, 3) := by decide +kernel
theorem dX9_frame_45 : decode cX9_frame 45 = .ok (.iconst (-1), 1) := by decide +kernel
theorem dX9_frame_46 : decode cX9_frame 46 = .ok (.ireturn, 1) := by decide +kernel
theorem dX9_frame_47 : decode cX9_frame 47 = .ok (.aload_n 0, 1) := by decide +kernel
theorem dX9_frame_48 : decode cX9_frame 48 = .ok (.getfield 32, 3) := by decide +kernel
theorem dX9_frame_51 : decode cX9_frame 51 = .ok (.iload_n 1, 1) := by decide +kernel
theorem dX9_frame_52 : decode cX9_frame 52 = .ok (.iload_n 2, 1) := by decide +kernel
theorem dX9_frame_53 : decode cX9_frame 53 = .ok (.iload_n 3, 1) := by decide +kernel
theorem dX9_frame_54 : decode cX9_frame 54 = .ok (.iload 4, 2) := by decide +kernel
theorem dX9_frame_56 : decode cX9_frame 56 = .ok (.iload 5, 2) := by decide +kernel
theorem dX9_frame_58 : decode cX9_frame 58 = .ok (.iload 6, 2) := by decide +kernel
theorem dX9_frame_60 : decode cX9_frame 60 = .ok (.invokevirtual 117, 3) := by decide +kernel
theorem dX9_frame_63 : decode cX9_frame 63 = .ok (.pop, 1) := by decide +kernel
theorem dX9_frame_64 : decode cX9_frame 64 = .ok (.aload_n 0, 1) := by decide +kernel
theorem dX9_frame_65 : decode cX9_frame 65 = .ok (.getfield 32, 3) := by decide +kernel
theorem dX9_frame_68 : decode cX9_frame 68 = .ok (.getfield 72, 3) := by decide +kernel
theorem dX9_frame_71 : decode cX9_frame 71 = .ok (.iconst 1, 1) := by decide +kernel
theorem dX9_frame_72 : decode cX9_frame 72 = .ok (.isub, 1) := by decide +kernel
theorem dX9_frame_73 : decode cX9_frame 73 = .ok (.ireturn, 1) := by decide +kernel
theorem dX9_control_0 : decode cX9_control 0 = .ok (.aload_n 0, 1) := by decide +kernel
theorem dX9_control_1 : decode cX9_control 1 = .ok (.getfield 32, 3) := by decide +kernel
theorem dX9_control_4 : decode cX9_control 4 = .ok (.iload_n 1, 1) := by decide +kernel
theorem dX9_control_5 : decode cX9_control 5 = .ok (.invokevirtual 121, 3) := by decide +kernel
theorem dX9_control_8 : decode cX9_control 8 = .ok (.astore 6, 2) := by decide +kernel
theorem dX9_control_10 : decode cX9_control 10 = .ok (.aload 6, 2) := by decide +kernel
theorem dX9_control_12 : decode cX9_control 12 = .ok (.ifnull 25, 3) := by decide +kernel
theorem dX9_control_15 : decode cX9_control 15 = .ok (.iload_n 2, 1) := by decide +kernel
theorem dX9_control_16 : decode cX9_control 16 = .ok (.ifCond .lt 21, 3) := by decide +kernel
theorem dX9_control_19 : decode cX9_control 19 = .ok (.iload_n 2, 1) := by decide +kernel
theorem dX9_control_20 : decode cX9_control 20 = .ok (.bipush 7, 2) := by decide +kernel
theorem dX9_control_22 : decode cX9_control 22 = .ok (.if_icmp .gt 15, 3) := by decide +kernel
theorem dX9_control_25 : decode cX9_control 25 = .ok (.iload 4, 2) := by decide +kernel
theorem dX9_control_27 : decode cX9_control 27 = .ok (.ifCond .lt 10, 3) := by decide +kernel
theorem dX9_control_30 : decode cX9_control 30 = .ok (.iload 4, 2) := by decide +kernel
theorem dX9_control_32 : decode cX9_control 32 = .ok (.ldc 125, 2) := by decide +kernel
theorem dX9_control_34 : decode cX9_control 34 = .ok (.if_icmp .le 5, 3) := by decide +kernel
theorem dX9_control_37 : decode cX9_control 37 = .ok (.iconst 0, 1) := by decide +kernel
theorem dX9_control_38 : decode cX9_control 38 = .ok (.ireturn, 1) := by decide +kernel
theorem dX9_control_39 : decode cX9_control 39 = .ok (.iload_n 3, 1) := by decide +kernel
theorem dX9_control_40 : decode cX9_control 40 = .ok (.iconst (-1), 1) := by decide +kernel
theorem dX9_control_41 : decode cX9_control 41 = .ok (.if_icmp .eq 12, 3) := by decide +kernel
theorem dX9_control_44 : decode cX9_control 44 = .ok (.iload_n 3, 1) := by decide +kernel
theorem dX9_control_45 : decode cX9_control 45 = .ok (.invokestatic 85, 3) := by decide +kernel
theorem dX9_control_48 : decode cX9_control 48 = .ok (.ifCond .ne 5, 3) := by decide +kernel
theorem dX9_control_51 : decode cX9_control 51 = .ok (.iconst 0, 1) := by decide +kernel
theorem dX9_control_52 : decode cX9_control 52 = .ok (.ireturn, 1) := by decide +kernel
theorem dX9_control_53 : decode cX9_control 53 = .ok (.aload 6, 2) := by decide +kernel
theorem dX9_control_55 : decode cX9_control 55 = .ok (.getfield 126, 3) := by decide +kernel
theorem dX9_control_58 : decode cX9_control 58 = .ok (.iload_n 2, 1) := by decide +kernel
theorem dX9_control_59 : decode cX9_control 59 = .ok (.iload_n 3, 1) := by decide +kernel
theorem dX9_control_60 : decode cX9_control 60 = .ok (.iload 4, 2) := by decide +kernel
theorem dX9_control_62 : decode cX9_control 62 = .ok (.iload 5, 2) := by decide +kernel
theorem dX9_control_64 : decode cX9_control 64 = .ok (.invokevirtual 132, 3) := by decide +kernel
theorem dX9_control_67 : decode cX9_control 67 = .ok (.iconst 1, 1) := by decide +kernel
theorem dX9_control_68 : decode cX9_control 68 = .ok (.ireturn, 1) := by decide +kernel
theorem dX9_paint_0 : decode cX9_paint 0 = .ok (.aload_n 0, 1) := by decide +kernel
theorem dX9_paint_1 : decode cX9_paint 1 = .ok (.getfield 32, 3) := by decide +kernel
theorem dX9_paint_4 : decode cX9_paint 4 = .ok (.iload_n 1, 1) := by decide +kernel
theorem dX9_paint_5 : decode cX9_paint 5 = .ok (.invokevirtual 121, 3) := by decide +kernel
theorem dX9_paint_8 : decode cX9_paint 8 = .ok (.astore 5, 2) := by decide +kernel
theorem dX9_paint_10 : decode cX9_paint 10 = .ok (.aload 5, 2) := by decide +kernel
theorem dX9_paint_12 : decode cX9_paint 12 = .ok (.ifnull 31, 3) := by decide +kernel
theorem dX9_paint_15 : decode cX9_paint 15 = .ok (.iload_n 2, 1) := by decide +kernel
theorem dX9_paint_16 : decode cX9_paint 16 = .ok (.ifCond .lt 27, 3) := by decide +kernel
theorem dX9_paint_19 : decode cX9_paint 19 = .ok (.iload_n 3, 1) := by decide +kernel
theorem dX9_paint_20 : decode cX9_paint 20 = .ok (.ifCond .lt 23, 3) := by decide +kernel
theorem dX9_paint_23 : decode cX9_paint 23 = .ok (.iload_n 2, 1) := by decide +kernel
theorem dX9_paint_24 : decode cX9_paint 24 = .ok (.aload 5, 2) := by decide +kernel
theorem dX9_paint_26 : decode cX9_paint 26 = .ok (.invokevirtual 138, 3) := by decide +kernel
theorem dX9_paint_29 : decode cX9_paint 29 = .ok (.if_icmp .gt 14, 3) := by decide +kernel
theorem dX9_paint_32 : decode cX9_paint 32 = .ok (.iload_n 3, 1) := by decide +kernel
theorem dX9_paint_33 : decode cX9_paint 33 = .ok (.aload 5, 2) := by decide +kernel
theorem dX9_paint_35 : decode cX9_paint 35 = .ok (.invokevirtual 138, 3) := by decide +kernel
theorem dX9_paint_38 : decode cX9_paint 38 = .ok (.iload_n 2, 1) := by decide +kernel
theorem dX9_paint_39 : decode cX9_paint 39 = .ok (.isub, 1) := by decide +kernel
theorem dX9_paint_40 : decode cX9_paint 40 = .ok (.if_icmp .le 5, 3) := by decide +kernel
theorem dX9_paint_43 : decode cX9_paint 43 = .ok (.iconst 0, 1) := by decide +kernel
theorem dX9_paint_44 : decode cX9_paint 44 = .ok (.ireturn, 1) := by decide +kernel
theorem dX9_paint_45 : decode cX9_paint 45 = .ok (.aload_n 0, 1) := by decide +kernel
theorem dX9_paint_46 : decode cX9_paint 46 = .ok (.getfield 32, 3) := by decide +kernel
theorem dX9_paint_49 : decode cX9_paint 49 = .ok (.aload 5, 2) := by decide +kernel
theorem dX9_paint_51 : decode cX9_paint 51 = .ok (.invokevirtual 141, 3) := by decide +kernel
theorem dX9_paint_54 : decode cX9_paint 54 = .ok (.iload 4, 2) := by decide +kernel
theorem dX9_paint_56 : decode cX9_paint 56 = .ok (.invokevirtual 96, 3) := by decide +kernel
theorem dX9_paint_59 : decode cX9_paint 59 = .ok (.ifCond .ne 5, 3) := by decide +kernel
theorem dX9_paint_62 : decode cX9_paint 62 = .ok (.iconst 0, 1) := by decide +kernel
theorem dX9_paint_63 : decode cX9_paint 63 = .ok (.ireturn, 1) := by decide +kernel
theorem dX9_paint_64 : decode cX9_paint 64 = .ok (.aload 5, 2) := by decide +kernel
theorem dX9_paint_66 : decode cX9_paint 66 = .ok (.iload_n 2, 1) := by decide +kernel
theorem dX9_paint_67 : decode cX9_paint 67 = .ok (.iload_n 2, 1) := by decide +kernel
theorem dX9_paint_68 : decode cX9_paint 68 = .ok (.iload_n 3, 1) := by decide +kernel
theorem dX9_paint_69 : decode cX9_paint 69 = .ok (.iadd, 1) := by decide +kernel
theorem dX9_paint_70 : decode cX9_paint 70 = .ok (.iload 4, 2) := by decide +kernel
theorem dX9_paint_72 : decode cX9_paint 72 = .ok (.invokevirtual 145, 3) := by decide +kernel
theorem dX9_paint_75 : decode cX9_paint 75 = .ok (.iconst 1, 1) := by decide +kernel
theorem dX9_paint_76 : decode cX9_paint 76 = .ok (.ireturn, 1) := by decide +kernel
theorem dX9_write_0 : decode cX9_write 0 = .ok (.aload_n 0, 1) := by decide +kernel
theorem dX9_write_1 : decode cX9_write 1 = .ok (.getfield 39, 3) := by decide +kernel
theorem dX9_write_4 : decode cX9_write 4 = .ok (.aload_n 0, 1) := by decide +kernel
theorem dX9_write_5 : decode cX9_write 5 = .ok (.getfield 32, 3) := by decide +kernel
theorem dX9_write_8 : decode cX9_write 8 = .ok (.invokevirtual 149, 3) := by decide +kernel
theorem dX9_write_11 : decode cX9_write 11 = .ok (.ifCond .ne 5, 3) := by decide +kernel
theorem dX9_write_14 : decode cX9_write 14 = .ok (.iconst (-1), 1) := by decide +kernel
theorem dX9_write_15 : decode cX9_write 15 = .ok (.ireturn, 1) := by decide +kernel
theorem dX9_write_16 : decode cX9_write 16 = .ok (.aload_n 0, 1) := by decide +kernel
theorem dX9_write_17 : decode cX9_write 17 = .ok (.aload_n 0, 1) := by decide +kernel
theorem dX9_write_18 : decode cX9_write 18 = .ok (.getfield 39, 3) := by decide +kernel
theorem dX9_write_21 : decode cX9_write 21 = .ok (.aload_n 0, 1) := by decide +kernel
theorem dX9_write_22 : decode cX9_write 22 = .ok (.getfield 26, 3) := by decide +kernel
theorem dX9_write_25 : decode cX9_write 25 = .ok (.invokevirtual 153, 3) := by decide +kernel
theorem dX9_write_28 : decode cX9_write 28 = .ok (.putfield 26, 3) := by decide +kernel
theorem dX9_write_31 : decode cX9_write 31 = .ok (.aload_n 0, 1) := by decide +kernel
theorem dX9_write_32 : decode cX9_write 32 = .ok (.getfield 26, 3) := by decide +kernel
theorem dX9_write_35 : decode cX9_write 35 = .ok (.getfield 47, 3) := by decide +kernel
theorem dX9_write_38 : decode cX9_write 38 = .ok (.ireturn, 1) := by decide +kernel
theorem dX9_out_0 : decode cX9_out 0 = .ok (.aload_n 0, 1) := by decide +kernel
theorem dX9_out_1 : decode cX9_out 1 = .ok (.getfield 26, 3) := by decide +kernel
theorem dX9_out_4 : decode cX9_out 4 = .ok (.iload_n 1, 1) := by decide +kernel
theorem dX9_out_5 : decode cX9_out 5 = .ok (.invokevirtual 156, 3) := by decide +kernel
theorem dX9_out_8 : decode cX9_out 8 = .ok (.ireturn, 1) := by decide +kernel
theorem dX9_about_0 : decode cX9_about 0 = .ok (.iload_n 1, 1) := by decide +kernel
theorem dX9_about_1 : decode cX9_about 1 = .ok (.tableswitch 114 0 7 #[47, 55, 63, 74, 82, 90, 98, 106], 47) := by decide +kernel
theorem dX9_about_48 : decode cX9_about 48 = .ok (.aload_n 0, 1) := by decide +kernel
theorem dX9_about_49 : decode cX9_about 49 = .ok (.getfield 32, 3) := by decide +kernel
theorem dX9_about_52 : decode cX9_about 52 = .ok (.getfield 160, 3) := by decide +kernel
theorem dX9_about_55 : decode cX9_about 55 = .ok (.ireturn, 1) := by decide +kernel
theorem dX9_about_56 : decode cX9_about 56 = .ok (.aload_n 0, 1) := by decide +kernel
theorem dX9_about_57 : decode cX9_about 57 = .ok (.getfield 32, 3) := by decide +kernel
theorem dX9_about_60 : decode cX9_about 60 = .ok (.getfield 163, 3) := by decide +kernel
theorem dX9_about_63 : decode cX9_about 63 = .ok (.ireturn, 1) := by decide +kernel
theorem dX9_about_64 : decode cX9_about 64 = .ok (.aload_n 0, 1) := by decide +kernel
theorem dX9_about_65 : decode cX9_about 65 = .ok (.getfield 32, 3) := by decide +kernel
theorem dX9_about_68 : decode cX9_about 68 = .ok (.getfield 166, 3) := by decide +kernel
theorem dX9_about_71 : decode cX9_about 71 = .ok (.getfield 170, 3) := by decide +kernel
theorem dX9_about_74 : decode cX9_about 74 = .ok (.ireturn, 1) := by decide +kernel
theorem dX9_about_75 : decode cX9_about 75 = .ok (.aload_n 0, 1) := by decide +kernel
theorem dX9_about_76 : decode cX9_about 76 = .ok (.getfield 32, 3) := by decide +kernel
theorem dX9_about_79 : decode cX9_about 79 = .ok (.getfield 171, 3) := by decide +kernel
theorem dX9_about_82 : decode cX9_about 82 = .ok (.ireturn, 1) := by decide +kernel
theorem dX9_about_83 : decode cX9_about 83 = .ok (.aload_n 0, 1) := by decide +kernel
theorem dX9_about_84 : decode cX9_about 84 = .ok (.getfield 32, 3) := by decide +kernel
theorem dX9_about_87 : decode cX9_about 87 = .ok (.getfield 174, 3) := by decide +kernel
theorem dX9_about_90 : decode cX9_about 90 = .ok (.ireturn, 1) := by decide +kernel
theorem dX9_about_91 : decode cX9_about 91 = .ok (.aload_n 0, 1) := by decide +kernel
theorem dX9_about_92 : decode cX9_about 92 = .ok (.getfield 32, 3) := by decide +kernel
theorem dX9_about_95 : decode cX9_about 95 = .ok (.getfield 72, 3) := by decide +kernel
theorem dX9_about_98 : decode cX9_about 98 = .ok (.ireturn, 1) := by decide +kernel
theorem dX9_about_99 : decode cX9_about 99 = .ok (.aload_n 0, 1) := by decide +kernel
theorem dX9_about_100 : decode cX9_about 100 = .ok (.getfield 20, 3) := by decide +kernel
theorem dX9_about_103 : decode cX9_about 103 = .ok (.getfield 47, 3) := by decide +kernel
theorem dX9_about_106 : decode cX9_about 106 = .ok (.ireturn, 1) := by decide +kernel
theorem dX9_about_107 : decode cX9_about 107 = .ok (.aload_n 0, 1) := by decide +kernel
theorem dX9_about_108 : decode cX9_about 108 = .ok (.getfield 26, 3) := by decide +kernel
theorem dX9_about_111 : decode cX9_about 111 = .ok (.getfield 47, 3) := by decide +kernel
theorem dX9_about_114 : decode cX9_about 114 = .ok (.ireturn, 1) := by decide +kernel
theorem dX9_about_115 : decode cX9_about 115 = .ok (.iconst (-1), 1) := by decide +kernel
theorem dX9_about_116 : decode cX9_about 116 = .ok (.ireturn, 1) := by decide +kernel
theorem dX9_frameOf_0 : decode cX9_frameOf 0 = .ok (.aload_n 0, 1) := by decide +kernel
theorem dX9_frameOf_1 : decode cX9_frameOf 1 = .ok (.getfield 32, 3) := by decide +kernel
theorem dX9_frameOf_4 : decode cX9_frameOf 4 = .ok (.iload_n 1, 1) := by decide +kernel
theorem dX9_frameOf_5 : decode cX9_frameOf 5 = .ok (.invokevirtual 121, 3) := by decide +kernel
theorem dX9_frameOf_8 : decode cX9_frameOf 8 = .ok (.astore_n 3, 1) := by decide +kernel
theorem dX9_frameOf_9 : decode cX9_frameOf 9 = .ok (.aload_n 3, 1) := by decide +kernel
theorem dX9_frameOf_10 : decode cX9_frameOf 10 = .ok (.ifnonnull 5, 3) := by decide +kernel
theorem dX9_frameOf_13 : decode cX9_frameOf 13 = .ok (.iconst (-1), 1) := by decide +kernel
theorem dX9_frameOf_14 : decode cX9_frameOf 14 = .ok (.ireturn, 1) := by decide +kernel
theorem dX9_frameOf_15 : decode cX9_frameOf 15 = .ok (.iload_n 2, 1) := by decide +kernel
theorem dX9_frameOf_16 : decode cX9_frameOf 16 = .ok (.tableswitch 137 0 9 #[56, 61, 66, 71, 76, 84, 97, 105, 113, 121], 56) := by decide +kernel
theorem dX9_frameOf_72 : decode cX9_frameOf 72 = .ok (.aload_n 3, 1) := by decide +kernel
theorem dX9_frameOf_73 : decode cX9_frameOf 73 = .ok (.getfield 177, 3) := by decide +kernel
theorem dX9_frameOf_76 : decode cX9_frameOf 76 = .ok (.ireturn, 1) := by decide +kernel
theorem dX9_frameOf_77 : decode cX9_frameOf 77 = .ok (.aload_n 3, 1) := by decide +kernel
theorem dX9_frameOf_78 : decode cX9_frameOf 78 = .ok (.getfield 180, 3) := by decide +kernel
theorem dX9_frameOf_81 : decode cX9_frameOf 81 = .ok (.ireturn, 1) := by decide +kernel
theorem dX9_frameOf_82 : decode cX9_frameOf 82 = .ok (.aload_n 3, 1) := by decide +kernel
theorem dX9_frameOf_83 : decode cX9_frameOf 83 = .ok (.getfield 183, 3) := by decide +kernel
theorem dX9_frameOf_86 : decode cX9_frameOf 86 = .ok (.ireturn, 1) := by decide +kernel
theorem dX9_frameOf_87 : decode cX9_frameOf 87 = .ok (.aload_n 3, 1) := by decide +kernel
theorem dX9_frameOf_88 : decode cX9_frameOf 88 = .ok (.getfield 184, 3) := by decide +kernel
theorem dX9_frameOf_91 : decode cX9_frameOf 91 = .ok (.ireturn, 1) := by decide +kernel
theorem dX9_frameOf_92 : decode cX9_frameOf 92 = .ok (.aload_n 3, 1) := by decide +kernel
theorem dX9_frameOf_93 : decode cX9_frameOf 93 = .ok (.getfield 185, 3) := by decide +kernel
theorem dX9_frameOf_96 : decode cX9_frameOf 96 = .ok (.getfield 170, 3) := by decide +kernel
theorem dX9_frameOf_99 : decode cX9_frameOf 99 = .ok (.ireturn, 1) := by decide +kernel
theorem dX9_frameOf_100 : decode cX9_frameOf 100 = .ok (.aload_n 3, 1) := by decide +kernel
theorem dX9_frameOf_101 : decode cX9_frameOf 101 = .ok (.getfield 188, 3) := by decide +kernel
theorem dX9_frameOf_104 : decode cX9_frameOf 104 = .ok (.ifCond .eq 7, 3) := by decide +kernel
theorem dX9_frameOf_107 : decode cX9_frameOf 107 = .ok (.iconst 1, 1) := by decide +kernel
theorem dX9_frameOf_108 : decode cX9_frameOf 108 = .ok (.goto 4, 3) := by decide +kernel
theorem dX9_frameOf_111 : decode cX9_frameOf 111 = .ok (.iconst 0, 1) := by decide +kernel
theorem dX9_frameOf_112 : decode cX9_frameOf 112 = .ok (.ireturn, 1) := by decide +kernel
theorem dX9_frameOf_113 : decode cX9_frameOf 113 = .ok (.aload_n 3, 1) := by decide +kernel
theorem dX9_frameOf_114 : decode cX9_frameOf 114 = .ok (.getfield 126, 3) := by decide +kernel
theorem dX9_frameOf_117 : decode cX9_frameOf 117 = .ok (.getfield 191, 3) := by decide +kernel
theorem dX9_frameOf_120 : decode cX9_frameOf 120 = .ok (.ireturn, 1) := by decide +kernel
theorem dX9_frameOf_121 : decode cX9_frameOf 121 = .ok (.aload_n 3, 1) := by decide +kernel
theorem dX9_frameOf_122 : decode cX9_frameOf 122 = .ok (.getfield 126, 3) := by decide +kernel
theorem dX9_frameOf_125 : decode cX9_frameOf 125 = .ok (.getfield 194, 3) := by decide +kernel
theorem dX9_frameOf_128 : decode cX9_frameOf 128 = .ok (.ireturn, 1) := by decide +kernel
theorem dX9_frameOf_129 : decode cX9_frameOf 129 = .ok (.aload_n 3, 1) := by decide +kernel
theorem dX9_frameOf_130 : decode cX9_frameOf 130 = .ok (.getfield 126, 3) := by decide +kernel
theorem dX9_frameOf_133 : decode cX9_frameOf 133 = .ok (.getfield 197, 3) := by decide +kernel
theorem dX9_frameOf_136 : decode cX9_frameOf 136 = .ok (.ireturn, 1) := by decide +kernel
theorem dX9_frameOf_137 : decode cX9_frameOf 137 = .ok (.aload_n 3, 1) := by decide +kernel
theorem dX9_frameOf_138 : decode cX9_frameOf 138 = .ok (.getfield 126, 3) := by decide +kernel
theorem dX9_frameOf_141 : decode cX9_frameOf 141 = .ok (.getfield 200, 3) := by decide +kernel
theorem dX9_frameOf_144 : decode cX9_frameOf 144 = .ok (.ifCond .eq 7, 3) := by decide +kernel
theorem dX9_frameOf_147 : decode cX9_frameOf 147 = .ok (.iconst 1, 1) := by decide +kernel
theorem dX9_frameOf_148 : decode cX9_frameOf 148 = .ok (.goto 4, 3) := by decide +kernel
theorem dX9_frameOf_151 : decode cX9_frameOf 151 = .ok (.iconst 0, 1) := by decide +kernel
theorem dX9_frameOf_152 : decode cX9_frameOf 152 = .ok (.ireturn, 1) := by decide +kernel
theorem dX9_frameOf_153 : decode cX9_frameOf 153 = .ok (.iconst (-1), 1) := by decide +kernel
theorem dX9_frameOf_154 : decode cX9_frameOf 154 = .ok (.ireturn, 1) := by decide +kernel
theorem dX9_colourOf_0 : decode cX9_colourOf 0 = .ok (.aload_n 0, 1) := by decide +kernel
theorem dX9_colourOf_1 : decode cX9_colourOf 1 = .ok (.iload_n 1, 1) := by decide +kernel
theorem dX9_colourOf_2 : decode cX9_colourOf 2 = .ok (.invokevirtual 92, 3) := by decide +kernel
theorem dX9_colourOf_5 : decode cX9_colourOf 5 = .ok (.astore_n 3, 1) := by decide +kernel
theorem dX9_colourOf_6 : decode cX9_colourOf 6 = .ok (.aload_n 3, 1) := by decide +kernel
theorem dX9_colourOf_7 : decode cX9_colourOf 7 = .ok (.ifnull 11, 3) := by decide +kernel
theorem dX9_colourOf_10 : decode cX9_colourOf 10 = .ok (.aload_n 3, 1) := by decide +kernel
theorem dX9_colourOf_11 : decode cX9_colourOf 11 = .ok (.iload_n 2, 1) := by decide +kernel
theorem dX9_colourOf_12 : decode cX9_colourOf 12 = .ok (.invokevirtual 96, 3) := by decide +kernel
theorem dX9_colourOf_15 : decode cX9_colourOf 15 = .ok (.ifCond .ne 5, 3) := by decide +kernel
theorem dX9_colourOf_18 : decode cX9_colourOf 18 = .ok (.iconst (-1), 1) := by decide +kernel
end
section
theorem dX9_colourOf_19 : decode cX9_colourOf 19 = .ok (.ireturn, 1) := by decide +kernel
theorem dX9_colourOf_20 : decode cX9_colourOf 20 = .ok (.aload_n 3, 1) := by decide +kernel
theorem dX9_colourOf_21 : decode cX9_colourOf 21 = .ok (.getfield 102, 3) := by decide +kernel
theorem dX9_colourOf_24 : decode cX9_colourOf 24 = .ok (.iload_n 2, 1) := by decide +kernel
theorem dX9_colourOf_25 : decode cX9_colourOf 25 = .ok (.iaload, 1) := by decide +kernel
theorem dX9_colourOf_26 : decode cX9_colourOf 26 = .ok (.ireturn, 1) := by decide +kernel
theorem dX9_index_0 : decode cX9_index 0 = .ok (.aload_n 0, 1) := by decide +kernel
theorem dX9_index_1 : decode cX9_index 1 = .ok (.getfield 32, 3) := by decide +kernel
theorem dX9_index_4 : decode cX9_index 4 = .ok (.iload_n 1, 1) := by decide +kernel
theorem dX9_index_5 : decode cX9_index 5 = .ok (.invokevirtual 121, 3) := by decide +kernel
theorem dX9_index_8 : decode cX9_index 8 = .ok (.astore_n 3, 1) := by decide +kernel
theorem dX9_index_9 : decode cX9_index 9 = .ok (.aload_n 3, 1) := by decide +kernel
theorem dX9_index_10 : decode cX9_index 10 = .ok (.ifnull 15, 3) := by decide +kernel
theorem dX9_index_13 : decode cX9_index 13 = .ok (.iload_n 2, 1) := by decide +kernel
theorem dX9_index_14 : decode cX9_index 14 = .ok (.ifCond .lt 11, 3) := by decide +kernel
theorem dX9_index_17 : decode cX9_index 17 = .ok (.iload_n 2, 1) := by decide +kernel
theorem dX9_index_18 : decode cX9_index 18 = .ok (.aload_n 3, 1) := by decide +kernel
theorem dX9_index_19 : decode cX9_index 19 = .ok (.invokevirtual 138, 3) := by decide +kernel
theorem dX9_index_22 : decode cX9_index 22 = .ok (.if_icmp .lt 5, 3) := by decide +kernel
theorem dX9_index_25 : decode cX9_index 25 = .ok (.iconst (-1), 1) := by decide +kernel
theorem dX9_index_26 : decode cX9_index 26 = .ok (.ireturn, 1) := by decide +kernel
theorem dX9_index_27 : decode cX9_index 27 = .ok (.aload_n 3, 1) := by decide +kernel
theorem dX9_index_28 : decode cX9_index 28 = .ok (.getfield 203, 3) := by decide +kernel
theorem dX9_index_31 : decode cX9_index 31 = .ok (.iload_n 2, 1) := by decide +kernel
theorem dX9_index_32 : decode cX9_index 32 = .ok (.iaload, 1) := by decide +kernel
theorem dX9_index_33 : decode cX9_index 33 = .ok (.ireturn, 1) := by decide +kernel
theorem dX9_canvas_0 : decode cX9_canvas 0 = .ok (.aload_n 0, 1) := by decide +kernel
theorem dX9_canvas_1 : decode cX9_canvas 1 = .ok (.getfield 32, 3) := by decide +kernel
theorem dX9_canvas_4 : decode cX9_canvas 4 = .ok (.iload_n 1, 1) := by decide +kernel
theorem dX9_canvas_5 : decode cX9_canvas 5 = .ok (.invokevirtual 121, 3) := by decide +kernel
theorem dX9_canvas_8 : decode cX9_canvas 8 = .ok (.ifnull 33, 3) := by decide +kernel
theorem dX9_canvas_11 : decode cX9_canvas 11 = .ok (.iload_n 2, 1) := by decide +kernel
theorem dX9_canvas_12 : decode cX9_canvas 12 = .ok (.ifCond .lt 29, 3) := by decide +kernel
theorem dX9_canvas_15 : decode cX9_canvas 15 = .ok (.iload_n 2, 1) := by decide +kernel
theorem dX9_canvas_16 : decode cX9_canvas 16 = .ok (.aload_n 0, 1) := by decide +kernel
theorem dX9_canvas_17 : decode cX9_canvas 17 = .ok (.getfield 32, 3) := by decide +kernel
theorem dX9_canvas_20 : decode cX9_canvas 20 = .ok (.getfield 160, 3) := by decide +kernel
theorem dX9_canvas_23 : decode cX9_canvas 23 = .ok (.if_icmp .ge 18, 3) := by decide +kernel
theorem dX9_canvas_26 : decode cX9_canvas 26 = .ok (.iload_n 3, 1) := by decide +kernel
theorem dX9_canvas_27 : decode cX9_canvas 27 = .ok (.ifCond .lt 14, 3) := by decide +kernel
theorem dX9_canvas_30 : decode cX9_canvas 30 = .ok (.iload_n 3, 1) := by decide +kernel
theorem dX9_canvas_31 : decode cX9_canvas 31 = .ok (.aload_n 0, 1) := by decide +kernel
theorem dX9_canvas_32 : decode cX9_canvas 32 = .ok (.getfield 32, 3) := by decide +kernel
theorem dX9_canvas_35 : decode cX9_canvas 35 = .ok (.getfield 163, 3) := by decide +kernel
theorem dX9_canvas_38 : decode cX9_canvas 38 = .ok (.if_icmp .lt 6, 3) := by decide +kernel
theorem dX9_canvas_41 : decode cX9_canvas 41 = .ok (.bipush (-2), 2) := by decide +kernel
theorem dX9_canvas_43 : decode cX9_canvas 43 = .ok (.ireturn, 1) := by decide +kernel
theorem dX9_canvas_44 : decode cX9_canvas 44 = .ok (.aload_n 0, 1) := by decide +kernel
theorem dX9_canvas_45 : decode cX9_canvas 45 = .ok (.getfield 32, 3) := by decide +kernel
theorem dX9_canvas_48 : decode cX9_canvas 48 = .ok (.iload_n 1, 1) := by decide +kernel
theorem dX9_canvas_49 : decode cX9_canvas 49 = .ok (.iload_n 2, 1) := by decide +kernel
theorem dX9_canvas_50 : decode cX9_canvas 50 = .ok (.iload_n 3, 1) := by decide +kernel
theorem dX9_canvas_51 : decode cX9_canvas 51 = .ok (.invokevirtual 206, 3) := by decide +kernel
theorem dX9_canvas_54 : decode cX9_canvas 54 = .ok (.ireturn, 1) := by decide +kernel
theorem dX9_tableAt_0 : decode cX9_tableAt 0 = .ok (.iload_n 1, 1) := by decide +kernel
theorem dX9_tableAt_1 : decode cX9_tableAt 1 = .ok (.iconst (-1), 1) := by decide +kernel
theorem dX9_tableAt_2 : decode cX9_tableAt 2 = .ok (.if_icmp .ne 11, 3) := by decide +kernel
theorem dX9_tableAt_5 : decode cX9_tableAt 5 = .ok (.aload_n 0, 1) := by decide +kernel
theorem dX9_tableAt_6 : decode cX9_tableAt 6 = .ok (.getfield 32, 3) := by decide +kernel
theorem dX9_tableAt_9 : decode cX9_tableAt 9 = .ok (.getfield 166, 3) := by decide +kernel
theorem dX9_tableAt_12 : decode cX9_tableAt 12 = .ok (.areturn, 1) := by decide +kernel
theorem dX9_tableAt_13 : decode cX9_tableAt 13 = .ok (.aload_n 0, 1) := by decide +kernel
theorem dX9_tableAt_14 : decode cX9_tableAt 14 = .ok (.getfield 32, 3) := by decide +kernel
theorem dX9_tableAt_17 : decode cX9_tableAt 17 = .ok (.iload_n 1, 1) := by decide +kernel
theorem dX9_tableAt_18 : decode cX9_tableAt 18 = .ok (.invokevirtual 121, 3) := by decide +kernel
theorem dX9_tableAt_21 : decode cX9_tableAt 21 = .ok (.astore_n 2, 1) := by decide +kernel
theorem dX9_tableAt_22 : decode cX9_tableAt 22 = .ok (.aload_n 2, 1) := by decide +kernel
theorem dX9_tableAt_23 : decode cX9_tableAt 23 = .ok (.ifnonnull 7, 3) := by decide +kernel
theorem dX9_tableAt_26 : decode cX9_tableAt 26 = .ok (.aconst_null, 1) := by decide +kernel
theorem dX9_tableAt_27 : decode cX9_tableAt 27 = .ok (.goto 7, 3) := by decide +kernel
theorem dX9_tableAt_30 : decode cX9_tableAt 30 = .ok (.aload_n 2, 1) := by decide +kernel
theorem dX9_tableAt_31 : decode cX9_tableAt 31 = .ok (.getfield 185, 3) := by decide +kernel
theorem dX9_tableAt_34 : decode cX9_tableAt 34 = .ok (.areturn, 1) := by decide +kernel
theorem dX9_isSide_0 : decode cX9_isSide 0 = .ok (.iload_n 0, 1) := by decide +kernel
theorem dX9_isSide_1 : decode cX9_isSide 1 = .ok (.iconst 1, 1) := by decide +kernel
theorem dX9_isSide_2 : decode cX9_isSide 2 = .ok (.if_icmp .lt 13, 3) := by decide +kernel
theorem dX9_isSide_5 : decode cX9_isSide 5 = .ok (.iload_n 0, 1) := by decide +kernel
theorem dX9_isSide_6 : decode cX9_isSide 6 = .ok (.bipush 64, 2) := by decide +kernel
theorem dX9_isSide_8 : decode cX9_isSide 8 = .ok (.if_icmp .gt 7, 3) := by decide +kernel
theorem dX9_isSide_11 : decode cX9_isSide 11 = .ok (.iconst 1, 1) := by decide +kernel
theorem dX9_isSide_12 : decode cX9_isSide 12 = .ok (.goto 4, 3) := by decide +kernel
theorem dX9_isSide_15 : decode cX9_isSide 15 = .ok (.iconst 0, 1) := by decide +kernel
theorem dX9_isSide_16 : decode cX9_isSide 16 = .ok (.ireturn, 1) := by decide +kernel
theorem dX9_isByte_0 : decode cX9_isByte 0 = .ok (.iload_n 0, 1) := by decide +kernel
theorem dX9_isByte_1 : decode cX9_isByte 1 = .ok (.ifCond .lt 14, 3) := by decide +kernel
theorem dX9_isByte_4 : decode cX9_isByte 4 = .ok (.iload_n 0, 1) := by decide +kernel
theorem dX9_isByte_5 : decode cX9_isByte 5 = .ok (.sipush 255, 3) := by decide +kernel
theorem dX9_isByte_8 : decode cX9_isByte 8 = .ok (.if_icmp .gt 7, 3) := by decide +kernel
theorem dX9_isByte_11 : decode cX9_isByte 11 = .ok (.iconst 1, 1) := by decide +kernel
theorem dX9_isByte_12 : decode cX9_isByte 12 = .ok (.goto 4, 3) := by decide +kernel
theorem dX9_isByte_15 : decode cX9_isByte 15 = .ok (.iconst 0, 1) := by decide +kernel
theorem dX9_isByte_16 : decode cX9_isByte 16 = .ok (.ireturn, 1) := by decide +kernel
theorem dX9_isTableSize_0 : decode cX9_isTableSize 0 = .ok (.iload_n 0, 1) := by decide +kernel
theorem dX9_isTableSize_1 : decode cX9_isTableSize 1 = .ok (.ifCond .eq 23, 3) := by decide +kernel
theorem dX9_isTableSize_4 : decode cX9_isTableSize 4 = .ok (.iload_n 0, 1) := by decide +kernel
theorem dX9_isTableSize_5 : decode cX9_isTableSize 5 = .ok (.iconst 2, 1) := by decide +kernel
theorem dX9_isTableSize_6 : decode cX9_isTableSize 6 = .ok (.if_icmp .lt 22, 3) := by decide +kernel
theorem dX9_isTableSize_9 : decode cX9_isTableSize 9 = .ok (.iload_n 0, 1) := by decide +kernel
theorem dX9_isTableSize_10 : decode cX9_isTableSize 10 = .ok (.sipush 256, 3) := by decide +kernel
theorem dX9_isTableSize_13 : decode cX9_isTableSize 13 = .ok (.if_icmp .gt 15, 3) := by decide +kernel
theorem dX9_isTableSize_16 : decode cX9_isTableSize 16 = .ok (.iload_n 0, 1) := by decide +kernel
theorem dX9_isTableSize_17 : decode cX9_isTableSize 17 = .ok (.invokestatic 210, 3) := by decide +kernel
theorem dX9_isTableSize_20 : decode cX9_isTableSize 20 = .ok (.iconst 1, 1) := by decide +kernel
theorem dX9_isTableSize_21 : decode cX9_isTableSize 21 = .ok (.if_icmp .ne 7, 3) := by decide +kernel
theorem dX9_isTableSize_24 : decode cX9_isTableSize 24 = .ok (.iconst 1, 1) := by decide +kernel
theorem dX9_isTableSize_25 : decode cX9_isTableSize 25 = .ok (.goto 4, 3) := by decide +kernel
theorem dX9_isTableSize_28 : decode cX9_isTableSize 28 = .ok (.iconst 0, 1) := by decide +kernel
theorem dX9_isTableSize_29 : decode cX9_isTableSize 29 = .ok (.ireturn, 1) := by decide +kernel
theorem dX10_init_0 : decode cX10_init 0 = .ok (.aload_n 0, 1) := by decide +kernel
theorem dX10_init_1 : decode cX10_init 1 = .ok (.invokespecial 1, 3) := by decide +kernel
theorem dX10_init_4 : decode cX10_init 4 = .ok (.aload_n 0, 1) := by decide +kernel
theorem dX10_init_5 : decode cX10_init 5 = .ok (.sipush 12020, 3) := by decide +kernel
theorem dX10_init_8 : decode cX10_init 8 = .ok (.newarray .byte, 2) := by decide +kernel
theorem dX10_init_10 : decode cX10_init 10 = .ok (.putfield 7, 3) := by decide +kernel
theorem dX10_init_13 : decode cX10_init 13 = .ok (.aload_n 0, 1) := by decide +kernel
theorem dX10_init_14 : decode cX10_init 14 = .ok (.sipush 12020, 3) := by decide +kernel
theorem dX10_init_17 : decode cX10_init 17 = .ok (.newarray .byte, 2) := by decide +kernel
theorem dX10_init_19 : decode cX10_init 19 = .ok (.putfield 13, 3) := by decide +kernel
theorem dX10_init_22 : decode cX10_init 22 = .ok (.aload_n 0, 1) := by decide +kernel
theorem dX10_init_23 : decode cX10_init 23 = .ok (.iconst (-1), 1) := by decide +kernel
theorem dX10_init_24 : decode cX10_init 24 = .ok (.putfield 16, 3) := by decide +kernel
theorem dX10_init_27 : decode cX10_init 27 = .ok (.aload_n 0, 1) := by decide +kernel
theorem dX10_init_28 : decode cX10_init 28 = .ok (.iconst (-1), 1) := by decide +kernel
theorem dX10_init_29 : decode cX10_init 29 = .ok (.putfield 20, 3) := by decide +kernel
theorem dX10_init_32 : decode cX10_init 32 = .ok (.aload_n 0, 1) := by decide +kernel
theorem dX10_init_33 : decode cX10_init 33 = .ok (.bipush 12, 2) := by decide +kernel
theorem dX10_init_35 : decode cX10_init 35 = .ok (.newarray .int, 2) := by decide +kernel
theorem dX10_init_37 : decode cX10_init 37 = .ok (.putfield 23, 3) := by decide +kernel
theorem dX10_init_40 : decode cX10_init 40 = .ok (.aload_n 0, 1) := by decide +kernel
theorem dX10_init_41 : decode cX10_init 41 = .ok (.sipush 512, 3) := by decide +kernel
theorem dX10_init_44 : decode cX10_init 44 = .ok (.newarray .int, 2) := by decide +kernel
theorem dX10_init_46 : decode cX10_init 46 = .ok (.putfield 27, 3) := by decide +kernel
theorem dX10_init_49 : decode cX10_init 49 = .ok (.aload_n 0, 1) := by decide +kernel
theorem dX10_init_50 : decode cX10_init 50 = .ok (.sipush 480, 3) := by decide +kernel
theorem dX10_init_53 : decode cX10_init 53 = .ok (.newarray .int, 2) := by decide +kernel
theorem dX10_init_55 : decode cX10_init 55 = .ok (.putfield 30, 3) := by decide +kernel
theorem dX10_init_58 : decode cX10_init 58 = .ok (.aload_n 0, 1) := by decide +kernel
theorem dX10_init_59 : decode cX10_init 59 = .ok (.sipush 12288, 3) := by decide +kernel
theorem dX10_init_62 : decode cX10_init 62 = .ok (.newarray .int, 2) := by decide +kernel
theorem dX10_init_64 : decode cX10_init 64 = .ok (.putfield 33, 3) := by decide +kernel
theorem dX10_init_67 : decode cX10_init 67 = .ok (.aload_n 0, 1) := by decide +kernel
theorem dX10_init_68 : decode cX10_init 68 = .ok (.ldc 36, 2) := by decide +kernel
theorem dX10_init_70 : decode cX10_init 70 = .ok (.newarray .short, 2) := by decide +kernel
theorem dX10_init_72 : decode cX10_init 72 = .ok (.putfield 37, 3) := by decide +kernel
theorem dX10_init_75 : decode cX10_init 75 = .ok (.aload_n 0, 1) := by decide +kernel
theorem dX10_init_76 : decode cX10_init 76 = .ok (.sipush 12020, 3) := by decide +kernel
theorem dX10_init_79 : decode cX10_init 79 = .ok (.newarray .byte, 2) := by decide +kernel
theorem dX10_init_81 : decode cX10_init 81 = .ok (.putfield 41, 3) := by decide +kernel
theorem dX10_init_84 : decode cX10_init 84 = .ok (.aload_n 0, 1) := by decide +kernel
theorem dX10_init_85 : decode cX10_init 85 = .ok (.sipush 4096, 3) := by decide +kernel
theorem dX10_init_88 : decode cX10_init 88 = .ok (.newarray .short, 2) := by decide +kernel
theorem dX10_init_90 : decode cX10_init 90 = .ok (.putfield 44, 3) := by decide +kernel
theorem dX10_init_93 : decode cX10_init 93 = .ok (.aload_n 0, 1) := by decide +kernel
theorem dX10_init_94 : decode cX10_init 94 = .ok (.sipush 4096, 3) := by decide +kernel
theorem dX10_init_97 : decode cX10_init 97 = .ok (.newarray .short, 2) := by decide +kernel
theorem dX10_init_99 : decode cX10_init 99 = .ok (.putfield 47, 3) := by decide +kernel
theorem dX10_init_102 : decode cX10_init 102 = .ok (.aload_n 0, 1) := by decide +kernel
theorem dX10_init_103 : decode cX10_init 103 = .ok (.sipush 4096, 3) := by decide +kernel
theorem dX10_init_106 : decode cX10_init 106 = .ok (.newarray .short, 2) := by decide +kernel
theorem dX10_init_108 : decode cX10_init 108 = .ok (.putfield 50, 3) := by decide +kernel
theorem dX10_init_111 : decode cX10_init 111 = .ok (.aload_n 0, 1) := by decide +kernel
theorem dX10_init_112 : decode cX10_init 112 = .ok (.sipush 4096, 3) := by decide +kernel
theorem dX10_init_115 : decode cX10_init 115 = .ok (.newarray .short, 2) := by decide +kernel
theorem dX10_init_117 : decode cX10_init 117 = .ok (.putfield 53, 3) := by decide +kernel
theorem dX10_init_120 : decode cX10_init 120 = .ok (.aload_n 0, 1) := by decide +kernel
theorem dX10_init_121 : decode cX10_init 121 = .ok (.sipush 256, 3) := by decide +kernel
theorem dX10_init_124 : decode cX10_init 124 = .ok (.newarray .byte, 2) := by decide +kernel
theorem dX10_init_126 : decode cX10_init 126 = .ok (.putfield 56, 3) := by decide +kernel
theorem dX10_init_129 : decode cX10_init 129 = .ok (.aload_n 0, 1) := by decide +kernel
theorem dX10_init_130 : decode cX10_init 130 = .ok (.sipush 4096, 3) := by decide +kernel
theorem dX10_init_133 : decode cX10_init 133 = .ok (.newarray .short, 2) := by decide +kernel
theorem dX10_init_135 : decode cX10_init 135 = .ok (.putfield 59, 3) := by decide +kernel
theorem dX10_init_138 : decode cX10_init 138 = .ok (.aload_n 0, 1) := by decide +kernel
theorem dX10_init_139 : decode cX10_init 139 = .ok (.sipush 4096, 3) := by decide +kernel
theorem dX10_init_142 : decode cX10_init 142 = .ok (.newarray .short, 2) := by decide +kernel
theorem dX10_init_144 : decode cX10_init 144 = .ok (.putfield 62, 3) := by decide +kernel
theorem dX10_init_147 : decode cX10_init 147 = .ok (.aload_n 0, 1) := by decide +kernel
theorem dX10_init_148 : decode cX10_init 148 = .ok (.getfield 23, 3) := by decide +kernel
theorem dX10_init_151 : decode cX10_init 151 = .ok (.iconst 0, 1) := by decide +kernel
theorem dX10_init_152 : decode cX10_init 152 = .ok (.iconst 1, 1) := by decide +kernel
theorem dX10_init_153 : decode cX10_init 153 = .ok (.iastore, 1) := by decide +kernel
theorem dX10_init_154 : decode cX10_init 154 = .ok (.aload_n 0, 1) := by decide +kernel
theorem dX10_init_155 : decode cX10_init 155 = .ok (.getfield 23, 3) := by decide +kernel
theorem dX10_init_158 : decode cX10_init 158 = .ok (.iconst 1, 1) := by decide +kernel
theorem dX10_init_159 : decode cX10_init 159 = .ok (.iconst 1, 1) := by decide +kernel
theorem dX10_init_160 : decode cX10_init 160 = .ok (.iastore, 1) := by decide +kernel
theorem dX10_init_161 : decode cX10_init 161 = .ok (.return_, 1) := by decide +kernel
theorem dX10_field_0 : decode cX10_field 0 = .ok (.aload_n 0, 1) := by decide +kernel
theorem dX10_field_1 : decode cX10_field 1 = .ok (.getfield 30, 3) := by decide +kernel
theorem dX10_field_4 : decode cX10_field 4 = .ok (.sipush 240, 3) := by decide +kernel
theorem dX10_field_7 : decode cX10_field 7 = .ok (.iload_n 1, 1) := by decide +kernel
theorem dX10_field_8 : decode cX10_field 8 = .ok (.imul, 1) := by decide +kernel
theorem dX10_field_9 : decode cX10_field 9 = .ok (.bipush 10, 2) := by decide +kernel
theorem dX10_field_11 : decode cX10_field 11 = .ok (.iload_n 2, 1) := by decide +kernel
theorem dX10_field_12 : decode cX10_field 12 = .ok (.imul, 1) := by decide +kernel
theorem dX10_field_13 : decode cX10_field 13 = .ok (.iadd, 1) := by decide +kernel
theorem dX10_field_14 : decode cX10_field 14 = .ok (.iload_n 3, 1) := by decide +kernel
theorem dX10_field_15 : decode cX10_field 15 = .ok (.iadd, 1) := by decide +kernel
theorem dX10_field_16 : decode cX10_field 16 = .ok (.iaload, 1) := by decide +kernel
theorem dX10_field_17 : decode cX10_field 17 = .ok (.ireturn, 1) := by decide +kernel
theorem dX10_setField_0 : decode cX10_setField 0 = .ok (.aload_n 0, 1) := by decide +kernel
theorem dX10_setField_1 : decode cX10_setField 1 = .ok (.getfield 30, 3) := by decide +kernel
theorem dX10_setField_4 : decode cX10_setField 4 = .ok (.sipush 240, 3) := by decide +kernel
theorem dX10_setField_7 : decode cX10_setField 7 = .ok (.iload_n 1, 1) := by decide +kernel
theorem dX10_setField_8 : decode cX10_setField 8 = .ok (.imul, 1) := by decide +kernel
theorem dX10_setField_9 : decode cX10_setField 9 = .ok (.bipush 10, 2) := by decide +kernel
theorem dX10_setField_11 : decode cX10_setField 11 = .ok (.iload_n 2, 1) := by decide +kernel
theorem dX10_setField_12 : decode cX10_setField 12 = .ok (.imul, 1) := by decide +kernel
theorem dX10_setField_13 : decode cX10_setField 13 = .ok (.iadd, 1) := by decide +kernel
theorem dX10_setField_14 : decode cX10_setField 14 = .ok (.iload_n 3, 1) := by decide +kernel
theorem dX10_setField_15 : decode cX10_setField 15 = .ok (.iadd, 1) := by decide +kernel
theorem dX10_setField_16 : decode cX10_setField 16 = .ok (.iload 4, 2) := by decide +kernel
theorem dX10_setField_18 : decode cX10_setField 18 = .ok (.iastore, 1) := by decide +kernel
theorem dX10_setField_19 : decode cX10_setField 19 = .ok (.return_, 1) := by decide +kernel
theorem dX10_indexAt_0 : decode cX10_indexAt 0 = .ok (.aload_n 0, 1) := by decide +kernel
theorem dX10_indexAt_1 : decode cX10_indexAt 1 = .ok (.getfield 37, 3) := by decide +kernel
theorem dX10_indexAt_4 : decode cX10_indexAt 4 = .ok (.ldc 65, 2) := by decide +kernel
theorem dX10_indexAt_6 : decode cX10_indexAt 6 = .ok (.iload_n 1, 1) := by decide +kernel
theorem dX10_indexAt_7 : decode cX10_indexAt 7 = .ok (.imul, 1) := by decide +kernel
theorem dX10_indexAt_8 : decode cX10_indexAt 8 = .ok (.sipush 4096, 3) := by decide +kernel
theorem dX10_indexAt_11 : decode cX10_indexAt 11 = .ok (.iload_n 2, 1) := by decide +kernel
theorem dX10_indexAt_12 : decode cX10_indexAt 12 = .ok (.imul, 1) := by decide +kernel
theorem dX10_indexAt_13 : decode cX10_indexAt 13 = .ok (.iadd, 1) := by decide +kernel
theorem dX10_indexAt_14 : decode cX10_indexAt 14 = .ok (.iload_n 3, 1) := by decide +kernel
theorem dX10_indexAt_15 : decode cX10_indexAt 15 = .ok (.iadd, 1) := by decide +kernel
theorem dX10_indexAt_16 : decode cX10_indexAt 16 = .ok (.saload, 1) := by decide +kernel
theorem dX10_indexAt_17 : decode cX10_indexAt 17 = .ok (.ireturn, 1) := by decide +kernel
theorem dX10_setIndex_0 : decode cX10_setIndex 0 = .ok (.aload_n 0, 1) := by decide +kernel
theorem dX10_setIndex_1 : decode cX10_setIndex 1 = .ok (.getfield 37, 3) := by decide +kernel
theorem dX10_setIndex_4 : decode cX10_setIndex 4 = .ok (.ldc 65, 2) := by decide +kernel
theorem dX10_setIndex_6 : decode cX10_setIndex 6 = .ok (.iload_n 1, 1) := by decide +kernel
theorem dX10_setIndex_7 : decode cX10_setIndex 7 = .ok (.imul, 1) := by decide +kernel
theorem dX10_setIndex_8 : decode cX10_setIndex 8 = .ok (.sipush 4096, 3) := by decide +kernel
theorem dX10_setIndex_11 : decode cX10_setIndex 11 = .ok (.iload_n 2, 1) := by decide +kernel
theorem dX10_setIndex_12 : decode cX10_setIndex 12 = .ok (.imul, 1) := by decide +kernel
theorem dX10_setIndex_13 : decode cX10_setIndex 13 = .ok (.iadd, 1) := by decide +kernel
theorem dX10_setIndex_14 : decode cX10_setIndex 14 = .ok (.iload_n 3, 1) := by decide +kernel
theorem dX10_setIndex_15 : decode cX10_setIndex 15 = .ok (.iadd, 1) := by decide +kernel
theorem dX10_setIndex_16 : decode cX10_setIndex 16 = .ok (.iload 4, 2) := by decide +kernel
theorem dX10_setIndex_18 : decode cX10_setIndex 18 = .ok (.i2s, 1) := by decide +kernel
theorem dX10_setIndex_19 : decode cX10_setIndex 19 = .ok (.sastore, 1) := by decide +kernel
theorem dX10_setIndex_20 : decode cX10_setIndex 20 = .ok (.return_, 1) := by decide +kernel
theorem dX10_localAt_0 : decode cX10_localAt 0 = .ok (.sipush 6144, 3) := by decide +kernel
theorem dX10_localAt_3 : decode cX10_localAt 3 = .ok (.iload_n 0, 1) := by decide +kernel
theorem dX10_localAt_4 : decode cX10_localAt 4 = .ok (.imul, 1) := by decide +kernel
theorem dX10_localAt_5 : decode cX10_localAt 5 = .ok (.sipush 256, 3) := by decide +kernel
theorem dX10_localAt_8 : decode cX10_localAt 8 = .ok (.iload_n 1, 1) := by decide +kernel
theorem dX10_localAt_9 : decode cX10_localAt 9 = .ok (.imul, 1) := by decide +kernel
theorem dX10_localAt_10 : decode cX10_localAt 10 = .ok (.iadd, 1) := by decide +kernel
theorem dX10_localAt_11 : decode cX10_localAt 11 = .ok (.iload_n 2, 1) := by decide +kernel
theorem dX10_localAt_12 : decode cX10_localAt 12 = .ok (.iadd, 1) := by decide +kernel
theorem dX10_localAt_13 : decode cX10_localAt 13 = .ok (.ireturn, 1) := by decide +kernel
theorem dX10_frames_0 : decode cX10_frames 0 = .ok (.aload_n 0, 1) := by decide +kernel
theorem dX10_frames_1 : decode cX10_frames 1 = .ok (.getfield 23, 3) := by decide +kernel
theorem dX10_frames_4 : decode cX10_frames 4 = .ok (.bipush 6, 2) := by decide +kernel
theorem dX10_frames_6 : decode cX10_frames 6 = .ok (.aload_n 0, 1) := by decide +kernel
theorem dX10_frames_7 : decode cX10_frames 7 = .ok (.getfield 66, 3) := by decide +kernel
theorem dX10_frames_10 : decode cX10_frames 10 = .ok (.imul, 1) := by decide +kernel
theorem dX10_frames_11 : decode cX10_frames 11 = .ok (.iconst 5, 1) := by decide +kernel
theorem dX10_frames_12 : decode cX10_frames 12 = .ok (.iadd, 1) := by decide +kernel
theorem dX10_frames_13 : decode cX10_frames 13 = .ok (.iaload, 1) := by decide +kernel
theorem dX10_frames_14 : decode cX10_frames 14 = .ok (.ireturn, 1) := by decide +kernel
theorem dX10_isFrame_0 : decode cX10_isFrame 0 = .ok (.iload_n 1, 1) := by decide +kernel
theorem dX10_isFrame_1 : decode cX10_isFrame 1 = .ok (.ifCond .lt 15, 3) := by decide +kernel
theorem dX10_isFrame_4 : decode cX10_isFrame 4 = .ok (.iload_n 1, 1) := by decide +kernel
theorem dX10_isFrame_5 : decode cX10_isFrame 5 = .ok (.aload_n 0, 1) := by decide +kernel
theorem dX10_isFrame_6 : decode cX10_isFrame 6 = .ok (.invokevirtual 69, 3) := by decide +kernel
theorem dX10_isFrame_9 : decode cX10_isFrame 9 = .ok (.if_icmp .ge 7, 3) := by decide +kernel
theorem dX10_isFrame_12 : decode cX10_isFrame 12 = .ok (.iconst 1, 1) := by decide +kernel
theorem dX10_isFrame_13 : decode cX10_isFrame 13 = .ok (.goto 4, 3) := by decide +kernel
theorem dX10_isFrame_16 : decode cX10_isFrame 16 = .ok (.iconst 0, 1) := by decide +kernel
theorem dX10_isFrame_17 : decode cX10_isFrame 17 = .ok (.ireturn, 1) := by decide +kernel
theorem dX10_places_0 : decode cX10_places 0 = .ok (.aload_n 0, 1) := by decide +kernel
theorem dX10_places_1 : decode cX10_places 1 = .ok (.iload_n 1, 1) := by decide +kernel
theorem dX10_places_2 : decode cX10_places 2 = .ok (.iload_n 2, 1) := by decide +kernel
theorem dX10_places_3 : decode cX10_places 3 = .ok (.iconst 2, 1) := by decide +kernel
theorem dX10_places_4 : decode cX10_places 4 = .ok (.invokevirtual 73, 3) := by decide +kernel
theorem dX10_places_7 : decode cX10_places 7 = .ok (.aload_n 0, 1) := by decide +kernel
theorem dX10_places_8 : decode cX10_places 8 = .ok (.iload_n 1, 1) := by decide +kernel
theorem dX10_places_9 : decode cX10_places 9 = .ok (.iload_n 2, 1) := by decide +kernel
theorem dX10_places_10 : decode cX10_places 10 = .ok (.iconst 3, 1) := by decide +kernel
theorem dX10_places_11 : decode cX10_places 11 = .ok (.invokevirtual 73, 3) := by decide +kernel
theorem dX10_places_14 : decode cX10_places 14 = .ok (.imul, 1) := by decide +kernel
theorem dX10_places_15 : decode cX10_places 15 = .ok (.ireturn, 1) := by decide +kernel
theorem dX10_colours_0 : decode cX10_colours 0 = .ok (.aload_n 0, 1) := by decide +kernel
theorem dX10_colours_1 : decode cX10_colours 1 = .ok (.iload_n 1, 1) := by decide +kernel
theorem dX10_colours_2 : decode cX10_colours 2 = .ok (.iload_n 2, 1) := by decide +kernel
theorem dX10_colours_3 : decode cX10_colours 3 = .ok (.iconst 4, 1) := by decide +kernel
theorem dX10_colours_4 : decode cX10_colours 4 = .ok (.invokevirtual 73, 3) := by decide +kernel
theorem dX10_colours_7 : decode cX10_colours 7 = .ok (.ifCond .le 13, 3) := by decide +kernel
theorem dX10_colours_10 : decode cX10_colours 10 = .ok (.aload_n 0, 1) := by decide +kernel
theorem dX10_colours_11 : decode cX10_colours 11 = .ok (.iload_n 1, 1) := by decide +kernel
theorem dX10_colours_12 : decode cX10_colours 12 = .ok (.iload_n 2, 1) := by decide +kernel
theorem dX10_colours_13 : decode cX10_colours 13 = .ok (.iconst 4, 1) := by decide +kernel
theorem dX10_colours_14 : decode cX10_colours 14 = .ok (.invokevirtual 73, 3) := by decide +kernel
theorem dX10_colours_17 : decode cX10_colours 17 = .ok (.goto 14, 3) := by decide +kernel
theorem dX10_colours_20 : decode cX10_colours 20 = .ok (.aload_n 0, 1) := by decide +kernel
theorem dX10_colours_21 : decode cX10_colours 21 = .ok (.getfield 23, 3) := by decide +kernel
theorem dX10_colours_24 : decode cX10_colours 24 = .ok (.bipush 6, 2) := by decide +kernel
theorem dX10_colours_26 : decode cX10_colours 26 = .ok (.iload_n 1, 1) := by decide +kernel
theorem dX10_colours_27 : decode cX10_colours 27 = .ok (.imul, 1) := by decide +kernel
theorem dX10_colours_28 : decode cX10_colours 28 = .ok (.iconst 2, 1) := by decide +kernel
theorem dX10_colours_29 : decode cX10_colours 29 = .ok (.iadd, 1) := by decide +kernel
theorem dX10_colours_30 : decode cX10_colours 30 = .ok (.iaload, 1) := by decide +kernel
theorem dX10_colours_31 : decode cX10_colours 31 = .ok (.ireturn, 1) := by decide +kernel
theorem dX10_within_0 : decode cX10_within 0 = .ok (.iconst 0, 1) := by decide +kernel
theorem dX10_within_1 : decode cX10_within 1 = .ok (.istore_n 3, 1) := by decide +kernel
theorem dX10_within_2 : decode cX10_within 2 = .ok (.iload_n 3, 1) := by decide +kernel
theorem dX10_within_3 : decode cX10_within 3 = .ok (.iconst 4, 1) := by decide +kernel
theorem dX10_within_4 : decode cX10_within 4 = .ok (.if_icmp .ge 24, 3) := by decide +kernel
theorem dX10_within_7 : decode cX10_within 7 = .ok (.aload_n 0, 1) := by decide +kernel
theorem dX10_within_8 : decode cX10_within 8 = .ok (.iload_n 1, 1) := by decide +kernel
theorem dX10_within_9 : decode cX10_within 9 = .ok (.iload_n 3, 1) := by decide +kernel
theorem dX10_within_10 : decode cX10_within 10 = .ok (.iadd, 1) := by decide +kernel
theorem dX10_within_11 : decode cX10_within 11 = .ok (.iload_n 2, 1) := by decide +kernel
theorem dX10_within_12 : decode cX10_within 12 = .ok (.bipush 24, 2) := by decide +kernel
theorem dX10_within_14 : decode cX10_within 14 = .ok (.bipush 8, 2) := by decide +kernel
theorem dX10_within_16 : decode cX10_within 16 = .ok (.iload_n 3, 1) := by decide +kernel
theorem dX10_within_17 : decode cX10_within 17 = .ok (.imul, 1) := by decide +kernel
theorem dX10_within_18 : decode cX10_within 18 = .ok (.isub, 1) := by decide +kernel
theorem dX10_within_19 : decode cX10_within 19 = .ok (.ishr, 1) := by decide +kernel
theorem dX10_within_20 : decode cX10_within 20 = .ok (.i2b, 1) := by decide +kernel
theorem dX10_within_21 : decode cX10_within 21 = .ok (.bastore, 1) := by decide +kernel
theorem dX10_within_22 : decode cX10_within 22 = .ok (.iinc 3 1, 3) := by decide +kernel
theorem dX10_within_25 : decode cX10_within 25 = .ok (.goto (-23), 3) := by decide +kernel
theorem dX10_within_28 : decode cX10_within 28 = .ok (.iload_n 1, 1) := by decide +kernel
theorem dX10_within_29 : decode cX10_within 29 = .ok (.iconst 4, 1) := by decide +kernel
theorem dX10_within_30 : decode cX10_within 30 = .ok (.iadd, 1) := by decide +kernel
theorem dX10_within_31 : decode cX10_within 31 = .ok (.ireturn, 1) := by decide +kernel
theorem dX10_feed_0 : decode cX10_feed 0 = .ok (.aload_n 0, 1) := by decide +kernel
theorem dX10_feed_1 : decode cX10_feed 1 = .ok (.getfield 76, 3) := by decide +kernel
theorem dX10_feed_4 : decode cX10_feed 4 = .ok (.bipush 20, 2) := by decide +kernel
theorem dX10_feed_6 : decode cX10_feed 6 = .ok (.iadd, 1) := by decide +kernel
theorem dX10_feed_7 : decode cX10_feed 7 = .ok (.sipush 12000, 3) := by decide +kernel
theorem dX10_feed_10 : decode cX10_feed 10 = .ok (.if_icmp .le 5, 3) := by decide +kernel
theorem dX10_feed_13 : decode cX10_feed 13 = .ok (.iconst (-1), 1) := by decide +kernel
theorem dX10_feed_14 : decode cX10_feed 14 = .ok (.ireturn, 1) := by decide +kernel
theorem dX10_feed_15 : decode cX10_feed 15 = .ok (.aload_n 0, 1) := by decide +kernel
theorem dX10_feed_16 : decode cX10_feed 16 = .ok (.getfield 7, 3) := by decide +kernel
theorem dX10_feed_19 : decode cX10_feed 19 = .ok (.aload_n 0, 1) := by decide +kernel
theorem dX10_feed_20 : decode cX10_feed 20 = .ok (.getfield 76, 3) := by decide +kernel
theorem dX10_feed_23 : decode cX10_feed 23 = .ok (.iload_n 1, 1) := by decide +kernel
theorem dX10_feed_24 : decode cX10_feed 24 = .ok (.invokestatic 79, 3) := by decide +kernel
theorem dX10_feed_27 : decode cX10_feed 27 = .ok (.istore 6, 2) := by decide +kernel
theorem dX10_feed_29 : decode cX10_feed 29 = .ok (.aload_n 0, 1) := by decide +kernel
theorem dX10_feed_30 : decode cX10_feed 30 = .ok (.getfield 7, 3) := by decide +kernel
theorem dX10_feed_33 : decode cX10_feed 33 = .ok (.iload 6, 2) := by decide +kernel
theorem dX10_feed_35 : decode cX10_feed 35 = .ok (.iload_n 2, 1) := by decide +kernel
theorem dX10_feed_36 : decode cX10_feed 36 = .ok (.invokestatic 79, 3) := by decide +kernel
theorem dX10_feed_39 : decode cX10_feed 39 = .ok (.istore 6, 2) := by decide +kernel
theorem dX10_feed_41 : decode cX10_feed 41 = .ok (.aload_n 0, 1) := by decide +kernel
theorem dX10_feed_42 : decode cX10_feed 42 = .ok (.getfield 7, 3) := by decide +kernel
theorem dX10_feed_45 : decode cX10_feed 45 = .ok (.iload 6, 2) := by decide +kernel
theorem dX10_feed_47 : decode cX10_feed 47 = .ok (.iload_n 3, 1) := by decide +kernel
theorem dX10_feed_48 : decode cX10_feed 48 = .ok (.invokestatic 79, 3) := by decide +kernel
theorem dX10_feed_51 : decode cX10_feed 51 = .ok (.istore 6, 2) := by decide +kernel
theorem dX10_feed_53 : decode cX10_feed 53 = .ok (.aload_n 0, 1) := by decide +kernel
theorem dX10_feed_54 : decode cX10_feed 54 = .ok (.getfield 7, 3) := by decide +kernel
theorem dX10_feed_57 : decode cX10_feed 57 = .ok (.iload 6, 2) := by decide +kernel
theorem dX10_feed_59 : decode cX10_feed 59 = .ok (.iload 4, 2) := by decide +kernel
theorem dX10_feed_61 : decode cX10_feed 61 = .ok (.invokestatic 79, 3) := by decide +kernel
theorem dX10_feed_64 : decode cX10_feed 64 = .ok (.istore 6, 2) := by decide +kernel
theorem dX10_feed_66 : decode cX10_feed 66 = .ok (.aload_n 0, 1) := by decide +kernel
theorem dX10_feed_67 : decode cX10_feed 67 = .ok (.aload_n 0, 1) := by decide +kernel
theorem dX10_feed_68 : decode cX10_feed 68 = .ok (.getfield 7, 3) := by decide +kernel
theorem dX10_feed_71 : decode cX10_feed 71 = .ok (.iload 6, 2) := by decide +kernel
theorem dX10_feed_73 : decode cX10_feed 73 = .ok (.iload 5, 2) := by decide +kernel
theorem dX10_feed_75 : decode cX10_feed 75 = .ok (.invokestatic 79, 3) := by decide +kernel
theorem dX10_feed_78 : decode cX10_feed 78 = .ok (.putfield 76, 3) := by decide +kernel
theorem dX10_feed_81 : decode cX10_feed 81 = .ok (.aload_n 0, 1) := by decide +kernel
theorem dX10_feed_82 : decode cX10_feed 82 = .ok (.getfield 76, 3) := by decide +kernel
theorem dX10_feed_85 : decode cX10_feed 85 = .ok (.ireturn, 1) := by decide +kernel
theorem dX10_take_0 : decode cX10_take 0 = .ok (.iconst 0, 1) := by decide +kernel
theorem dX10_take_1 : decode cX10_take 1 = .ok (.istore_n 1, 1) := by decide +kernel
theorem dX10_take_2 : decode cX10_take 2 = .ok (.iload_n 1, 1) := by decide +kernel
theorem dX10_take_3 : decode cX10_take 3 = .ok (.aload_n 0, 1) := by decide +kernel
theorem dX10_take_4 : decode cX10_take 4 = .ok (.getfield 83, 3) := by decide +kernel
theorem dX10_take_7 : decode cX10_take 7 = .ok (.if_icmp .ge 21, 3) := by decide +kernel
theorem dX10_take_10 : decode cX10_take 10 = .ok (.aload_n 0, 1) := by decide +kernel
theorem dX10_take_11 : decode cX10_take 11 = .ok (.getfield 7, 3) := by decide +kernel
theorem dX10_take_14 : decode cX10_take 14 = .ok (.iload_n 1, 1) := by decide +kernel
theorem dX10_take_15 : decode cX10_take 15 = .ok (.aload_n 0, 1) := by decide +kernel
theorem dX10_take_16 : decode cX10_take 16 = .ok (.getfield 13, 3) := by decide +kernel
theorem dX10_take_19 : decode cX10_take 19 = .ok (.iload_n 1, 1) := by decide +kernel
theorem dX10_take_20 : decode cX10_take 20 = .ok (.baload, 1) := by decide +kernel
theorem dX10_take_21 : decode cX10_take 21 = .ok (.bastore, 1) := by decide +kernel
theorem dX10_take_22 : decode cX10_take 22 = .ok (.iinc 1 1, 3) := by decide +kernel
theorem dX10_take_25 : decode cX10_take 25 = .ok (.goto (-23), 3) := by decide +kernel
theorem dX10_take_28 : decode cX10_take 28 = .ok (.aload_n 0, 1) := by decide +kernel
theorem dX10_take_29 : decode cX10_take 29 = .ok (.aload_n 0, 1) := by decide +kernel
theorem dX10_take_30 : decode cX10_take 30 = .ok (.getfield 83, 3) := by decide +kernel
theorem dX10_take_33 : decode cX10_take 33 = .ok (.putfield 76, 3) := by decide +kernel
theorem dX10_take_36 : decode cX10_take 36 = .ok (.aload_n 0, 1) := by decide +kernel
theorem dX10_take_37 : decode cX10_take 37 = .ok (.getfield 76, 3) := by decide +kernel
theorem dX10_take_40 : decode cX10_take 40 = .ok (.ireturn, 1) := by decide +kernel
theorem dX10_wrong_0 : decode cX10_wrong 0 = .ok (.aload_n 0, 1) := by decide +kernel
theorem dX10_wrong_1 : decode cX10_wrong 1 = .ok (.getfield 16, 3) := by decide +kernel
theorem dX10_wrong_4 : decode cX10_wrong 4 = .ok (.ifCond .eq 4, 3) := by decide +kernel
theorem dX10_wrong_7 : decode cX10_wrong 7 = .ok (.return_, 1) := by decide +kernel
theorem dX10_wrong_8 : decode cX10_wrong 8 = .ok (.aload_n 0, 1) := by decide +kernel
theorem dX10_wrong_9 : decode cX10_wrong 9 = .ok (.iload_n 1, 1) := by decide +kernel
theorem dX10_wrong_10 : decode cX10_wrong 10 = .ok (.putfield 16, 3) := by decide +kernel
theorem dX10_wrong_13 : decode cX10_wrong 13 = .ok (.aload_n 0, 1) := by decide +kernel
theorem dX10_wrong_14 : decode cX10_wrong 14 = .ok (.iload_n 2, 1) := by decide +kernel
theorem dX10_wrong_15 : decode cX10_wrong 15 = .ok (.putfield 20, 3) := by decide +kernel
theorem dX10_wrong_18 : decode cX10_wrong 18 = .ok (.return_, 1) := by decide +kernel
theorem dX10_good_0 : decode cX10_good 0 = .ok (.aload_n 0, 1) := by decide +kernel
theorem dX10_good_1 : decode cX10_good 1 = .ok (.getfield 16, 3) := by decide +kernel
theorem dX10_good_4 : decode cX10_good 4 = .ok (.ifCond .ne 7, 3) := by decide +kernel
theorem dX10_good_7 : decode cX10_good 7 = .ok (.iconst 1, 1) := by decide +kernel
theorem dX10_good_8 : decode cX10_good 8 = .ok (.goto 4, 3) := by decide +kernel
theorem dX10_good_11 : decode cX10_good 11 = .ok (.iconst 0, 1) := by decide +kernel
theorem dX10_good_12 : decode cX10_good 12 = .ok (.ireturn, 1) := by decide +kernel
theorem dX10_one_0 : decode cX10_one 0 = .ok (.aload_n 0, 1) := by decide +kernel
theorem dX10_one_1 : decode cX10_one 1 = .ok (.invokevirtual 86, 3) := by decide +kernel
theorem dX10_one_4 : decode cX10_one 4 = .ok (.ifCond .eq 23, 3) := by decide +kernel
theorem dX10_one_7 : decode cX10_one 7 = .ok (.aload_n 0, 1) := by decide +kernel
theorem dX10_one_8 : decode cX10_one 8 = .ok (.getfield 90, 3) := by decide +kernel
theorem dX10_one_11 : decode cX10_one 11 = .ok (.aload_n 0, 1) := by decide +kernel
theorem dX10_one_12 : decode cX10_one 12 = .ok (.getfield 93, 3) := by decide +kernel
theorem dX10_one_15 : decode cX10_one 15 = .ok (.if_icmp .lt 12, 3) := by decide +kernel
theorem dX10_one_18 : decode cX10_one 18 = .ok (.aload_n 0, 1) := by decide +kernel
theorem dX10_one_19 : decode cX10_one 19 = .ok (.iconst 2, 1) := by decide +kernel
theorem dX10_one_20 : decode cX10_one 20 = .ok (.aload_n 0, 1) := by decide +kernel
theorem dX10_one_21 : decode cX10_one 21 = .ok (.getfield 93, 3) := by decide +kernel
theorem dX10_one_24 : decode cX10_one 24 = .ok (.invokevirtual 96, 3) := by decide +kernel
theorem dX10_one_27 : decode cX10_one 27 = .ok (.aload_n 0, 1) := by decide +kernel
theorem dX10_one_28 : decode cX10_one 28 = .ok (.invokevirtual 86, 3) := by decide +kernel
theorem dX10_one_31 : decode cX10_one 31 = .ok (.ifCond .ne 5, 3) := by decide +kernel
theorem dX10_one_34 : decode cX10_one 34 = .ok (.iconst 0, 1) := by decide +kernel
theorem dX10_one_35 : decode cX10_one 35 = .ok (.ireturn, 1) := by decide +kernel
theorem dX10_one_36 : decode cX10_one 36 = .ok (.aload_n 0, 1) := by decide +kernel
theorem dX10_one_37 : decode cX10_one 37 = .ok (.dup, 1) := by decide +kernel
theorem dX10_one_38 : decode cX10_one 38 = .ok (.getfield 90, 3) := by decide +kernel
theorem dX10_one_41 : decode cX10_one 41 = .ok (.iconst 1, 1) := by decide +kernel
theorem dX10_one_42 : decode cX10_one 42 = .ok (.iadd, 1) := by decide +kernel
theorem dX10_one_43 : decode cX10_one 43 = .ok (.putfield 90, 3) := by decide +kernel
theorem dX10_one_46 : decode cX10_one 46 = .ok (.aload_n 0, 1) := by decide +kernel
theorem dX10_one_47 : decode cX10_one 47 = .ok (.getfield 7, 3) := by decide +kernel
theorem dX10_one_50 : decode cX10_one 50 = .ok (.aload_n 0, 1) := by decide +kernel
theorem dX10_one_51 : decode cX10_one 51 = .ok (.getfield 90, 3) := by decide +kernel
theorem dX10_one_54 : decode cX10_one 54 = .ok (.iconst 1, 1) := by decide +kernel
theorem dX10_one_55 : decode cX10_one 55 = .ok (.isub, 1) := by decide +kernel
theorem dX10_one_56 : decode cX10_one 56 = .ok (.baload, 1) := by decide +kernel
theorem dX10_one_57 : decode cX10_one 57 = .ok (.sipush 255, 3) := by decide +kernel
theorem dX10_one_60 : decode cX10_one 60 = .ok (.iand, 1) := by decide +kernel
theorem dX10_one_61 : decode cX10_one 61 = .ok (.ireturn, 1) := by decide +kernel
theorem dX10_two_0 : decode cX10_two 0 = .ok (.aload_n 0, 1) := by decide +kernel
theorem dX10_two_1 : decode cX10_two 1 = .ok (.invokevirtual 100, 3) := by decide +kernel
theorem dX10_two_4 : decode cX10_two 4 = .ok (.istore_n 1, 1) := by decide +kernel
theorem dX10_two_5 : decode cX10_two 5 = .ok (.iload_n 1, 1) := by decide +kernel
theorem dX10_two_6 : decode cX10_two 6 = .ok (.sipush 256, 3) := by decide +kernel
theorem dX10_two_9 : decode cX10_two 9 = .ok (.aload_n 0, 1) := by decide +kernel
theorem dX10_two_10 : decode cX10_two 10 = .ok (.invokevirtual 100, 3) := by decide +kernel
theorem dX10_two_13 : decode cX10_two 13 = .ok (.imul, 1) := by decide +kernel
theorem dX10_two_14 : decode cX10_two 14 = .ok (.iadd, 1) := by decide +kernel
theorem dX10_two_15 : decode cX10_two 15 = .ok (.ireturn, 1) := by decide +kernel
theorem dX10_read_0 : decode cX10_read 0 = .ok (.iload_n 1, 1) := by decide +kernel
theorem dX10_read_1 : decode cX10_read 1 = .ok (.ifCond .lt 11, 3) := by decide +kernel
theorem dX10_read_4 : decode cX10_read 4 = .ok (.iload_n 1, 1) := by decide +kernel
theorem dX10_read_5 : decode cX10_read 5 = .ok (.aload_n 0, 1) := by decide +kernel
theorem dX10_read_6 : decode cX10_read 6 = .ok (.getfield 76, 3) := by decide +kernel
theorem dX10_read_9 : decode cX10_read 9 = .ok (.if_icmp .le 6, 3) := by decide +kernel
theorem dX10_read_12 : decode cX10_read 12 = .ok (.bipush (-2), 2) := by decide +kernel
theorem dX10_read_14 : decode cX10_read 14 = .ok (.ireturn, 1) := by decide +kernel
theorem dX10_read_15 : decode cX10_read 15 = .ok (.aload_n 0, 1) := by decide +kernel
theorem dX10_read_16 : decode cX10_read 16 = .ok (.iconst 0, 1) := by decide +kernel
theorem dX10_read_17 : decode cX10_read 17 = .ok (.putfield 76, 3) := by decide +kernel
theorem dX10_read_20 : decode cX10_read 20 = .ok (.aload_n 0, 1) := by decide +kernel
theorem dX10_read_21 : decode cX10_read 21 = .ok (.iconst 0, 1) := by decide +kernel
theorem dX10_read_22 : decode cX10_read 22 = .ok (.putfield 16, 3) := by decide +kernel
theorem dX10_read_25 : decode cX10_read 25 = .ok (.aload_n 0, 1) := by decide +kernel
theorem dX10_read_26 : decode cX10_read 26 = .ok (.iconst (-1), 1) := by decide +kernel
theorem dX10_read_27 : decode cX10_read 27 = .ok (.putfield 20, 3) := by decide +kernel
theorem dX10_read_30 : decode cX10_read 30 = .ok (.aload_n 0, 1) := by decide +kernel
theorem dX10_read_31 : decode cX10_read 31 = .ok (.iconst 0, 1) := by decide +kernel
theorem dX10_read_32 : decode cX10_read 32 = .ok (.putfield 90, 3) := by decide +kernel
theorem dX10_read_35 : decode cX10_read 35 = .ok (.aload_n 0, 1) := by decide +kernel
theorem dX10_read_36 : decode cX10_read 36 = .ok (.iload_n 1, 1) := by decide +kernel
theorem dX10_read_37 : decode cX10_read 37 = .ok (.putfield 93, 3) := by decide +kernel
theorem dX10_read_40 : decode cX10_read 40 = .ok (.aload_n 0, 1) := by decide +kernel
theorem dX10_read_41 : decode cX10_read 41 = .ok (.iconst 1, 1) := by decide +kernel
theorem dX10_read_42 : decode cX10_read 42 = .ok (.aload_n 0, 1) := by decide +kernel
theorem dX10_read_43 : decode cX10_read 43 = .ok (.getfield 66, 3) := by decide +kernel
theorem dX10_read_46 : decode cX10_read 46 = .ok (.isub, 1) := by decide +kernel
theorem dX10_read_47 : decode cX10_read 47 = .ok (.putfield 103, 3) := by decide +kernel
theorem dX10_read_50 : decode cX10_read 50 = .ok (.aload_n 0, 1) := by decide +kernel
theorem dX10_read_51 : decode cX10_read 51 = .ok (.invokevirtual 106, 3) := by decide +kernel
theorem dX10_read_54 : decode cX10_read 54 = .ok (.aload_n 0, 1) := by decide +kernel
theorem dX10_read_55 : decode cX10_read 55 = .ok (.invokevirtual 109, 3) := by decide +kernel
theorem dX10_read_58 : decode cX10_read 58 = .ok (.aload_n 0, 1) := by decide +kernel
theorem dX10_read_59 : decode cX10_read 59 = .ok (.invokevirtual 86, 3) := by decide +kernel
theorem dX10_read_62 : decode cX10_read 62 = .ok (.ifCond .ne 5, 3) := by decide +kernel
theorem dX10_read_65 : decode cX10_read 65 = .ok (.iconst (-1), 1) := by decide +kernel
theorem dX10_read_66 : decode cX10_read 66 = .ok (.ireturn, 1) := by decide +kernel
theorem dX10_read_67 : decode cX10_read 67 = .ok (.aload_n 0, 1) := by decide +kernel
theorem dX10_read_68 : decode cX10_read 68 = .ok (.aload_n 0, 1) := by decide +kernel
theorem dX10_read_69 : decode cX10_read 69 = .ok (.getfield 103, 3) := by decide +kernel
theorem dX10_read_72 : decode cX10_read 72 = .ok (.putfield 66, 3) := by decide +kernel
theorem dX10_read_75 : decode cX10_read 75 = .ok (.aload_n 0, 1) := by decide +kernel
theorem dX10_read_76 : decode cX10_read 76 = .ok (.invokevirtual 69, 3) := by decide +kernel
theorem dX10_read_79 : decode cX10_read 79 = .ok (.ireturn, 1) := by decide +kernel
theorem dX10_must_0 : decode cX10_must 0 = .ok (.aload_n 0, 1) := by decide +kernel
theorem dX10_must_1 : decode cX10_must 1 = .ok (.invokevirtual 100, 3) := by decide +kernel
theorem dX10_must_4 : decode cX10_must 4 = .ok (.iload_n 1, 1) := by decide +kernel
theorem dX10_must_5 : decode cX10_must 5 = .ok (.if_icmp .eq 9, 3) := by decide +kernel
theorem dX10_must_8 : decode cX10_must 8 = .ok (.aload_n 0, 1) := by decide +kernel
theorem dX10_must_9 : decode cX10_must 9 = .ok (.iconst 1, 1) := by decide +kernel
theorem dX10_must_10 : decode cX10_must 10 = .ok (.iload_n 2, 1) := by decide +kernel
theorem dX10_must_11 : decode cX10_must 11 = .ok (.invokevirtual 96, 3) := by decide +kernel
theorem dX10_must_14 : decode cX10_must 14 = .ok (.return_, 1) := by decide +kernel
theorem dX10_readHead_0 : decode cX10_readHead 0 = .ok (.aload_n 0, 1) := by decide +kernel
theorem dX10_readHead_1 : decode cX10_readHead 1 = .ok (.bipush 71, 2) := by decide +kernel
theorem dX10_readHead_3 : decode cX10_readHead 3 = .ok (.iconst 0, 1) := by decide +kernel
theorem dX10_readHead_4 : decode cX10_readHead 4 = .ok (.invokevirtual 112, 3) := by decide +kernel
theorem dX10_readHead_7 : decode cX10_readHead 7 = .ok (.aload_n 0, 1) := by decide +kernel
theorem dX10_readHead_8 : decode cX10_readHead 8 = .ok (.bipush 73, 2) := by decide +kernel
theorem dX10_readHead_10 : decode cX10_readHead 10 = .ok (.iconst 0, 1) := by decide +kernel
theorem dX10_readHead_11 : decode cX10_readHead 11 = .ok (.invokevirtual 112, 3) := by decide +kernel
theorem dX10_readHead_14 : decode cX10_readHead 14 = .ok (.aload_n 0, 1) := by decide +kernel
theorem dX10_readHead_15 : decode cX10_readHead 15 = .ok (.bipush 70, 2) := by decide +kernel
theorem dX10_readHead_17 : decode cX10_readHead 17 = .ok (.iconst 0, 1) := by decide +kernel
theorem dX10_readHead_18 : decode cX10_readHead 18 = .ok (.invokevirtual 112, 3) := by decide +kernel
theorem dX10_readHead_21 : decode cX10_readHead 21 = .ok (.aload_n 0, 1) := by decide +kernel
theorem dX10_readHead_22 : decode cX10_readHead 22 = .ok (.bipush 56, 2) := by decide +kernel
theorem dX10_readHead_24 : decode cX10_readHead 24 = .ok (.iconst 0, 1) := by decide +kernel
theorem dX10_readHead_25 : decode cX10_readHead 25 = .ok (.invokevirtual 112, 3) := by decide +kernel
theorem dX10_readHead_28 : decode cX10_readHead 28 = .ok (.aload_n 0, 1) := by decide +kernel
theorem dX10_readHead_29 : decode cX10_readHead 29 = .ok (.invokevirtual 100, 3) := by decide +kernel
theorem dX10_readHead_32 : decode cX10_readHead 32 = .ok (.istore_n 1, 1) := by decide +kernel
theorem dX10_readHead_33 : decode cX10_readHead 33 = .ok (.iload_n 1, 1) := by decide +kernel
theorem dX10_readHead_34 : decode cX10_readHead 34 = .ok (.bipush 55, 2) := by decide +kernel
theorem dX10_readHead_36 : decode cX10_readHead 36 = .ok (.if_icmp .eq 15, 3) := by decide +kernel
theorem dX10_readHead_39 : decode cX10_readHead 39 = .ok (.iload_n 1, 1) := by decide +kernel
theorem dX10_readHead_40 : decode cX10_readHead 40 = .ok (.bipush 57, 2) := by decide +kernel
theorem dX10_readHead_42 : decode cX10_readHead 42 = .ok (.if_icmp .eq 9, 3) := by decide +kernel
theorem dX10_readHead_45 : decode cX10_readHead 45 = .ok (.aload_n 0, 1) := by decide +kernel
theorem dX10_readHead_46 : decode cX10_readHead 46 = .ok (.iconst 1, 1) := by decide +kernel
theorem dX10_readHead_47 : decode cX10_readHead 47 = .ok (.iconst 0, 1) := by decide +kernel
theorem dX10_readHead_48 : decode cX10_readHead 48 = .ok (.invokevirtual 96, 3) := by decide +kernel
theorem dX10_readHead_51 : decode cX10_readHead 51 = .ok (.aload_n 0, 1) := by decide +kernel
theorem dX10_readHead_52 : decode cX10_readHead 52 = .ok (.iload_n 1, 1) := by decide +kernel
theorem dX10_readHead_53 : decode cX10_readHead 53 = .ok (.bipush 55, 2) := by decide +kernel
theorem dX10_readHead_55 : decode cX10_readHead 55 = .ok (.if_icmp .ne 7, 3) := by decide +kernel
theorem dX10_readHead_58 : decode cX10_readHead 58 = .ok (.iconst 1, 1) := by decide +kernel
theorem dX10_readHead_59 : decode cX10_readHead 59 = .ok (.goto 4, 3) := by decide +kernel
theorem dX10_readHead_62 : decode cX10_readHead 62 = .ok (.iconst 0, 1) := by decide +kernel
theorem dX10_readHead_63 : decode cX10_readHead 63 = .ok (.putfield 115, 3) := by decide +kernel
theorem dX10_readHead_66 : decode cX10_readHead 66 = .ok (.aload_n 0, 1) := by decide +kernel
theorem dX10_readHead_67 : decode cX10_readHead 67 = .ok (.bipush 97, 2) := by decide +kernel
theorem dX10_readHead_69 : decode cX10_readHead 69 = .ok (.iconst 0, 1) := by decide +kernel
theorem dX10_readHead_70 : decode cX10_readHead 70 = .ok (.invokevirtual 112, 3) := by decide +kernel
theorem dX10_readHead_73 : decode cX10_readHead 73 = .ok (.iconst 0, 1) := by decide +kernel
theorem dX10_readHead_74 : decode cX10_readHead 74 = .ok (.istore_n 2, 1) := by decide +kernel
theorem dX10_readHead_75 : decode cX10_readHead 75 = .ok (.iload_n 2, 1) := by decide +kernel
theorem dX10_readHead_76 : decode cX10_readHead 76 = .ok (.iconst 2, 1) := by decide +kernel
theorem dX10_readHead_77 : decode cX10_readHead 77 = .ok (.if_icmp .ge 55, 3) := by decide +kernel
theorem dX10_readHead_80 : decode cX10_readHead 80 = .ok (.aload_n 0, 1) := by decide +kernel
theorem dX10_readHead_81 : decode cX10_readHead 81 = .ok (.getfield 90, 3) := by decide +kernel
theorem dX10_readHead_84 : decode cX10_readHead 84 = .ok (.istore_n 3, 1) := by decide +kernel
theorem dX10_readHead_85 : decode cX10_readHead 85 = .ok (.aload_n 0, 1) := by decide +kernel
theorem dX10_readHead_86 : decode cX10_readHead 86 = .ok (.invokevirtual 119, 3) := by decide +kernel
theorem dX10_readHead_89 : decode cX10_readHead 89 = .ok (.istore 4, 2) := by decide +kernel
theorem dX10_readHead_91 : decode cX10_readHead 91 = .ok (.iload 4, 2) := by decide +kernel
theorem dX10_readHead_93 : decode cX10_readHead 93 = .ok (.iconst 1, 1) := by decide +kernel
theorem dX10_readHead_94 : decode cX10_readHead 94 = .ok (.if_icmp .lt 10, 3) := by decide +kernel
theorem dX10_readHead_97 : decode cX10_readHead 97 = .ok (.iload 4, 2) := by decide +kernel
theorem dX10_readHead_99 : decode cX10_readHead 99 = .ok (.bipush 64, 2) := by decide +kernel
theorem dX10_readHead_101 : decode cX10_readHead 101 = .ok (.if_icmp .le 9, 3) := by decide +kernel
theorem dX10_readHead_104 : decode cX10_readHead 104 = .ok (.aload_n 0, 1) := by decide +kernel
theorem dX10_readHead_105 : decode cX10_readHead 105 = .ok (.iconst 3, 1) := by decide +kernel
theorem dX10_readHead_106 : decode cX10_readHead 106 = .ok (.iload_n 3, 1) := by decide +kernel
theorem dX10_readHead_107 : decode cX10_readHead 107 = .ok (.invokevirtual 96, 3) := by decide +kernel
theorem dX10_readHead_110 : decode cX10_readHead 110 = .ok (.aload_n 0, 1) := by decide +kernel
theorem dX10_readHead_111 : decode cX10_readHead 111 = .ok (.getfield 23, 3) := by decide +kernel
theorem dX10_readHead_114 : decode cX10_readHead 114 = .ok (.bipush 6, 2) := by decide +kernel
theorem dX10_readHead_116 : decode cX10_readHead 116 = .ok (.aload_n 0, 1) := by decide +kernel
theorem dX10_readHead_117 : decode cX10_readHead 117 = .ok (.getfield 103, 3) := by decide +kernel
theorem dX10_readHead_120 : decode cX10_readHead 120 = .ok (.imul, 1) := by decide +kernel
theorem dX10_readHead_121 : decode cX10_readHead 121 = .ok (.iload_n 2, 1) := by decide +kernel
theorem dX10_readHead_122 : decode cX10_readHead 122 = .ok (.iadd, 1) := by decide +kernel
theorem dX10_readHead_123 : decode cX10_readHead 123 = .ok (.iload 4, 2) := by decide +kernel
theorem dX10_readHead_125 : decode cX10_readHead 125 = .ok (.iastore, 1) := by decide +kernel
theorem dX10_readHead_126 : decode cX10_readHead 126 = .ok (.iinc 2 1, 3) := by decide +kernel
theorem dX10_readHead_129 : decode cX10_readHead 129 = .ok (.goto (-54), 3) := by decide +kernel
theorem dX10_readHead_132 : decode cX10_readHead 132 = .ok (.aload_n 0, 1) := by decide +kernel
theorem dX10_readHead_133 : decode cX10_readHead 133 = .ok (.invokevirtual 100, 3) := by decide +kernel
theorem dX10_readHead_136 : decode cX10_readHead 136 = .ok (.istore_n 2, 1) := by decide +kernel
theorem dX10_readHead_137 : decode cX10_readHead 137 = .ok (.aload_n 0, 1) := by decide +kernel
theorem dX10_readHead_138 : decode cX10_readHead 138 = .ok (.getfield 23, 3) := by decide +kernel
theorem dX10_readHead_141 : decode cX10_readHead 141 = .ok (.bipush 6, 2) := by decide +kernel
theorem dX10_readHead_143 : decode cX10_readHead 143 = .ok (.aload_n 0, 1) := by decide +kernel
theorem dX10_readHead_144 : decode cX10_readHead 144 = .ok (.getfield 103, 3) := by decide +kernel
theorem dX10_readHead_147 : decode cX10_readHead 147 = .ok (.imul, 1) := by decide +kernel
theorem dX10_readHead_148 : decode cX10_readHead 148 = .ok (.iconst 3, 1) := by decide +kernel
theorem dX10_readHead_149 : decode cX10_readHead 149 = .ok (.iadd, 1) := by decide +kernel
theorem dX10_readHead_150 : decode cX10_readHead 150 = .ok (.aload_n 0, 1) := by decide +kernel
theorem dX10_readHead_151 : decode cX10_readHead 151 = .ok (.invokevirtual 100, 3) := by decide +kernel
theorem dX10_readHead_154 : decode cX10_readHead 154 = .ok (.iastore, 1) := by decide +kernel
theorem dX10_readHead_155 : decode cX10_readHead 155 = .ok (.aload_n 0, 1) := by decide +kernel
theorem dX10_readHead_156 : decode cX10_readHead 156 = .ok (.getfield 23, 3) := by decide +kernel
theorem dX10_readHead_159 : decode cX10_readHead 159 = .ok (.bipush 6, 2) := by decide +kernel
theorem dX10_readHead_161 : decode cX10_readHead 161 = .ok (.aload_n 0, 1) := by decide +kernel
theorem dX10_readHead_162 : decode cX10_readHead 162 = .ok (.getfield 103, 3) := by decide +kernel
theorem dX10_readHead_165 : decode cX10_readHead 165 = .ok (.imul, 1) := by decide +kernel
theorem dX10_readHead_166 : decode cX10_readHead 166 = .ok (.iconst 4, 1) := by decide +kernel
theorem dX10_readHead_167 : decode cX10_readHead 167 = .ok (.iadd, 1) := by decide +kernel
theorem dX10_readHead_168 : decode cX10_readHead 168 = .ok (.aload_n 0, 1) := by decide +kernel
theorem dX10_readHead_169 : decode cX10_readHead 169 = .ok (.invokevirtual 100, 3) := by decide +kernel
theorem dX10_readHead_172 : decode cX10_readHead 172 = .ok (.iastore, 1) := by decide +kernel
theorem dX10_readHead_173 : decode cX10_readHead 173 = .ok (.aload_n 0, 1) := by decide +kernel
theorem dX10_readHead_174 : decode cX10_readHead 174 = .ok (.getfield 23, 3) := by decide +kernel
theorem dX10_readHead_177 : decode cX10_readHead 177 = .ok (.bipush 6, 2) := by decide +kernel
theorem dX10_readHead_179 : decode cX10_readHead 179 = .ok (.aload_n 0, 1) := by decide +kernel
theorem dX10_readHead_180 : decode cX10_readHead 180 = .ok (.getfield 103, 3) := by decide +kernel
theorem dX10_readHead_183 : decode cX10_readHead 183 = .ok (.imul, 1) := by decide +kernel
theorem dX10_readHead_184 : decode cX10_readHead 184 = .ok (.iconst 5, 1) := by decide +kernel
theorem dX10_readHead_185 : decode cX10_readHead 185 = .ok (.iadd, 1) := by decide +kernel
theorem dX10_readHead_186 : decode cX10_readHead 186 = .ok (.iconst 0, 1) := by decide +kernel
theorem dX10_readHead_187 : decode cX10_readHead 187 = .ok (.iastore, 1) := by decide +kernel
theorem dX10_readHead_188 : decode cX10_readHead 188 = .ok (.aload_n 0, 1) := by decide +kernel
theorem dX10_readHead_189 : decode cX10_readHead 189 = .ok (.getfield 23, 3) := by decide +kernel
theorem dX10_readHead_192 : decode cX10_readHead 192 = .ok (.bipush 6, 2) := by decide +kernel
theorem dX10_readHead_194 : decode cX10_readHead 194 = .ok (.aload_n 0, 1) := by decide +kernel
theorem dX10_readHead_195 : decode cX10_readHead 195 = .ok (.getfield 103, 3) := by decide +kernel
theorem dX10_readHead_198 : decode cX10_readHead 198 = .ok (.imul, 1) := by decide +kernel
theorem dX10_readHead_199 : decode cX10_readHead 199 = .ok (.iconst 2, 1) := by decide +kernel
theorem dX10_readHead_200 : decode cX10_readHead 200 = .ok (.iadd, 1) := by decide +kernel
theorem dX10_readHead_201 : decode cX10_readHead 201 = .ok (.iload_n 2, 1) := by decide +kernel
theorem dX10_readHead_202 : decode cX10_readHead 202 = .ok (.bipush 127, 2) := by decide +kernel
theorem dX10_readHead_204 : decode cX10_readHead 204 = .ok (.if_icmp .le 12, 3) := by decide +kernel
theorem dX10_readHead_207 : decode cX10_readHead 207 = .ok (.iconst 2, 1) := by decide +kernel
theorem dX10_readHead_208 : decode cX10_readHead 208 = .ok (.iload_n 2, 1) := by decide +kernel
theorem dX10_readHead_209 : decode cX10_readHead 209 = .ok (.bipush 7, 2) := by decide +kernel
theorem dX10_readHead_211 : decode cX10_readHead 211 = .ok (.iand, 1) := by decide +kernel
theorem dX10_readHead_212 : decode cX10_readHead 212 = .ok (.ishl, 1) := by decide +kernel
theorem dX10_readHead_213 : decode cX10_readHead 213 = .ok (.goto 4, 3) := by decide +kernel
theorem dX10_readHead_216 : decode cX10_readHead 216 = .ok (.iconst 0, 1) := by decide +kernel
theorem dX10_readHead_217 : decode cX10_readHead 217 = .ok (.iastore, 1) := by decide +kernel
theorem dX10_readHead_218 : decode cX10_readHead 218 = .ok (.aload_n 0, 1) := by decide +kernel
theorem dX10_readHead_219 : decode cX10_readHead 219 = .ok (.aload_n 0, 1) := by decide +kernel
theorem dX10_readHead_220 : decode cX10_readHead 220 = .ok (.getfield 27, 3) := by decide +kernel
theorem dX10_readHead_223 : decode cX10_readHead 223 = .ok (.sipush 256, 3) := by decide +kernel
theorem dX10_readHead_226 : decode cX10_readHead 226 = .ok (.aload_n 0, 1) := by decide +kernel
theorem dX10_readHead_227 : decode cX10_readHead 227 = .ok (.getfield 103, 3) := by decide +kernel
theorem dX10_readHead_230 : decode cX10_readHead 230 = .ok (.imul, 1) := by decide +kernel
theorem dX10_readHead_231 : decode cX10_readHead 231 = .ok (.aload_n 0, 1) := by decide +kernel
theorem dX10_readHead_232 : decode cX10_readHead 232 = .ok (.getfield 23, 3) := by decide +kernel
theorem dX10_readHead_235 : decode cX10_readHead 235 = .ok (.bipush 6, 2) := by decide +kernel
theorem dX10_readHead_237 : decode cX10_readHead 237 = .ok (.aload_n 0, 1) := by decide +kernel
theorem dX10_readHead_238 : decode cX10_readHead 238 = .ok (.getfield 103, 3) := by decide +kernel
theorem dX10_readHead_241 : decode cX10_readHead 241 = .ok (.imul, 1) := by decide +kernel
theorem dX10_readHead_242 : decode cX10_readHead 242 = .ok (.iconst 2, 1) := by decide +kernel
theorem dX10_readHead_243 : decode cX10_readHead 243 = .ok (.iadd, 1) := by decide +kernel
theorem dX10_readHead_244 : decode cX10_readHead 244 = .ok (.iaload, 1) := by decide +kernel
theorem dX10_readHead_245 : decode cX10_readHead 245 = .ok (.invokevirtual 122, 3) := by decide +kernel
theorem dX10_readHead_248 : decode cX10_readHead 248 = .ok (.return_, 1) := by decide +kernel
theorem dX10_readTable_0 : decode cX10_readTable 0 = .ok (.iconst 0, 1) := by decide +kernel
theorem dX10_readTable_1 : decode cX10_readTable 1 = .ok (.istore 4, 2) := by decide +kernel
theorem dX10_readTable_3 : decode cX10_readTable 3 = .ok (.iload 4, 2) := by decide +kernel
theorem dX10_readTable_5 : decode cX10_readTable 5 = .ok (.iload_n 3, 1) := by decide +kernel
theorem dX10_readTable_6 : decode cX10_readTable 6 = .ok (.if_icmp .ge 50, 3) := by decide +kernel
theorem dX10_readTable_9 : decode cX10_readTable 9 = .ok (.aload_n 0, 1) := by decide +kernel
theorem dX10_readTable_10 : decode cX10_readTable 10 = .ok (.invokevirtual 86, 3) := by decide +kernel
theorem dX10_readTable_13 : decode cX10_readTable 13 = .ok (.ifCond .eq 43, 3) := by decide +kernel
theorem dX10_readTable_16 : decode cX10_readTable 16 = .ok (.aload_n 0, 1) := by decide +kernel
theorem dX10_readTable_17 : decode cX10_readTable 17 = .ok (.invokevirtual 100, 3) := by decide +kernel
theorem dX10_readTable_20 : decode cX10_readTable 20 = .ok (.bipush 16, 2) := by decide +kernel
theorem dX10_readTable_22 : decode cX10_readTable 22 = .ok (.ishl, 1) := by decide +kernel
theorem dX10_readTable_23 : decode cX10_readTable 23 = .ok (.istore 5, 2) := by decide +kernel
theorem dX10_readTable_25 : decode cX10_readTable 25 = .ok (.iload 5, 2) := by decide +kernel
theorem dX10_readTable_27 : decode cX10_readTable 27 = .ok (.aload_n 0, 1) := by decide +kernel
theorem dX10_readTable_28 : decode cX10_readTable 28 = .ok (.invokevirtual 100, 3) := by decide +kernel
theorem dX10_readTable_31 : decode cX10_readTable 31 = .ok (.bipush 8, 2) := by decide +kernel
theorem dX10_readTable_33 : decode cX10_readTable 33 = .ok (.ishl, 1) := by decide +kernel
theorem dX10_readTable_34 : decode cX10_readTable 34 = .ok (.ior, 1) := by decide +kernel
theorem dX10_readTable_35 : decode cX10_readTable 35 = .ok (.istore 5, 2) := by decide +kernel
theorem dX10_readTable_37 : decode cX10_readTable 37 = .ok (.aload_n 1, 1) := by decide +kernel
theorem dX10_readTable_38 : decode cX10_readTable 38 = .ok (.iload_n 2, 1) := by decide +kernel
theorem dX10_readTable_39 : decode cX10_readTable 39 = .ok (.iload 4, 2) := by decide +kernel
theorem dX10_readTable_41 : decode cX10_readTable 41 = .ok (.iadd, 1) := by decide +kernel
theorem dX10_readTable_42 : decode cX10_readTable 42 = .ok (.iload 5, 2) := by decide +kernel
theorem dX10_readTable_44 : decode cX10_readTable 44 = .ok (.aload_n 0, 1) := by decide +kernel
theorem dX10_readTable_45 : decode cX10_readTable 45 = .ok (.invokevirtual 100, 3) := by decide +kernel
theorem dX10_readTable_48 : decode cX10_readTable 48 = .ok (.ior, 1) := by decide +kernel
theorem dX10_readTable_49 : decode cX10_readTable 49 = .ok (.iastore, 1) := by decide +kernel
theorem dX10_readTable_50 : decode cX10_readTable 50 = .ok (.iinc 4 1, 3) := by decide +kernel
theorem dX10_readTable_53 : decode cX10_readTable 53 = .ok (.goto (-50), 3) := by decide +kernel
theorem dX10_readTable_56 : decode cX10_readTable 56 = .ok (.return_, 1) := by decide +kernel
theorem dX10_forget_0 : decode cX10_forget 0 = .ok (.aload_n 0, 1) := by decide +kernel
theorem dX10_forget_1 : decode cX10_forget 1 = .ok (.iconst 0, 1) := by decide +kernel
theorem dX10_forget_2 : decode cX10_forget 2 = .ok (.putfield 126, 3) := by decide +kernel
theorem dX10_forget_5 : decode cX10_forget 5 = .ok (.aload_n 0, 1) := by decide +kernel
theorem dX10_forget_6 : decode cX10_forget 6 = .ok (.iconst 0, 1) := by decide +kernel
theorem dX10_forget_7 : decode cX10_forget 7 = .ok (.putfield 129, 3) := by decide +kernel
theorem dX10_forget_10 : decode cX10_forget 10 = .ok (.aload_n 0, 1) := by decide +kernel
theorem dX10_forget_11 : decode cX10_forget 11 = .ok (.iconst (-1), 1) := by decide +kernel
theorem dX10_forget_12 : decode cX10_forget 12 = .ok (.putfield 132, 3) := by decide +kernel
theorem dX10_forget_15 : decode cX10_forget 15 = .ok (.aload_n 0, 1) := by decide +kernel
theorem dX10_forget_16 : decode cX10_forget 16 = .ok (.iconst 0, 1) := by decide +kernel
theorem dX10_forget_17 : decode cX10_forget 17 = .ok (.putfield 135, 3) := by decide +kernel
theorem dX10_forget_20 : decode cX10_forget 20 = .ok (.aload_n 0, 1) := by decide +kernel
theorem dX10_forget_21 : decode cX10_forget 21 = .ok (.iconst 0, 1) := by decide +kernel
theorem dX10_forget_22 : decode cX10_forget 22 = .ok (.putfield 138, 3) := by decide +kernel
theorem dX10_forget_25 : decode cX10_forget 25 = .ok (.return_, 1) := by decide +kernel
theorem dX10_readBlocks_0 : decode cX10_readBlocks 0 = .ok (.aload_n 0, 1) := by decide +kernel
theorem dX10_readBlocks_1 : decode cX10_readBlocks 1 = .ok (.invokevirtual 141, 3) := by decide +kernel
theorem dX10_readBlocks_4 : decode cX10_readBlocks 4 = .ok (.aload_n 0, 1) := by decide +kernel
theorem dX10_readBlocks_5 : decode cX10_readBlocks 5 = .ok (.invokevirtual 86, 3) := by decide +kernel
theorem dX10_readBlocks_8 : decode cX10_readBlocks 8 = .ok (.istore_n 1, 1) := by decide +kernel
theorem dX10_readBlocks_9 : decode cX10_readBlocks 9 = .ok (.iload_n 1, 1) := by decide +kernel
theorem dX10_readBlocks_10 : decode cX10_readBlocks 10 = .ok (.ifCond .eq 99, 3) := by decide +kernel
theorem dX10_readBlocks_13 : decode cX10_readBlocks 13 = .ok (.aload_n 0, 1) := by decide +kernel
theorem dX10_readBlocks_14 : decode cX10_readBlocks 14 = .ok (.getfield 90, 3) := by decide +kernel
theorem dX10_readBlocks_17 : decode cX10_readBlocks 17 = .ok (.istore_n 2, 1) := by decide +kernel
theorem dX10_readBlocks_18 : decode cX10_readBlocks 18 = .ok (.aload_n 0, 1) := by decide +kernel
theorem dX10_readBlocks_19 : decode cX10_readBlocks 19 = .ok (.invokevirtual 100, 3) := by decide +kernel
theorem dX10_readBlocks_22 : decode cX10_readBlocks 22 = .ok (.istore_n 3, 1) := by decide +kernel
theorem dX10_readBlocks_23 : decode cX10_readBlocks 23 = .ok (.aload_n 0, 1) := by decide +kernel
theorem dX10_readBlocks_24 : decode cX10_readBlocks 24 = .ok (.invokevirtual 86, 3) := by decide +kernel
theorem dX10_readBlocks_27 : decode cX10_readBlocks 27 = .ok (.ifCond .ne 4, 3) := by decide +kernel
theorem dX10_readBlocks_30 : decode cX10_readBlocks 30 = .ok (.return_, 1) := by decide +kernel
theorem dX10_readBlocks_31 : decode cX10_readBlocks 31 = .ok (.iload_n 3, 1) := by decide +kernel
theorem dX10_readBlocks_32 : decode cX10_readBlocks 32 = .ok (.bipush 44, 2) := by decide +kernel
theorem dX10_readBlocks_34 : decode cX10_readBlocks 34 = .ok (.if_icmp .ne 11, 3) := by decide +kernel
theorem dX10_readBlocks_37 : decode cX10_readBlocks 37 = .ok (.aload_n 0, 1) := by decide +kernel
theorem dX10_readBlocks_38 : decode cX10_readBlocks 38 = .ok (.iload_n 2, 1) := by decide +kernel
theorem dX10_readBlocks_39 : decode cX10_readBlocks 39 = .ok (.invokevirtual 144, 3) := by decide +kernel
theorem dX10_readBlocks_42 : decode cX10_readBlocks 42 = .ok (.goto 47, 3) := by decide +kernel
theorem dX10_readBlocks_45 : decode cX10_readBlocks 45 = .ok (.iload_n 3, 1) := by decide +kernel
theorem dX10_readBlocks_46 : decode cX10_readBlocks 46 = .ok (.bipush 33, 2) := by decide +kernel
theorem dX10_readBlocks_48 : decode cX10_readBlocks 48 = .ok (.if_icmp .ne 17, 3) := by decide +kernel
theorem dX10_readBlocks_51 : decode cX10_readBlocks 51 = .ok (.aload_n 0, 1) := by decide +kernel
theorem dX10_readBlocks_52 : decode cX10_readBlocks 52 = .ok (.getfield 115, 3) := by decide +kernel
theorem dX10_readBlocks_55 : decode cX10_readBlocks 55 = .ok (.ifCond .ne 10, 3) := by decide +kernel
theorem dX10_readBlocks_58 : decode cX10_readBlocks 58 = .ok (.aload_n 0, 1) := by decide +kernel
theorem dX10_readBlocks_59 : decode cX10_readBlocks 59 = .ok (.invokevirtual 148, 3) := by decide +kernel
theorem dX10_readBlocks_62 : decode cX10_readBlocks 62 = .ok (.goto 27, 3) := by decide +kernel
theorem dX10_readBlocks_65 : decode cX10_readBlocks 65 = .ok (.iload_n 3, 1) := by decide +kernel
theorem dX10_readBlocks_66 : decode cX10_readBlocks 66 = .ok (.bipush 59, 2) := by decide +kernel
theorem dX10_readBlocks_68 : decode cX10_readBlocks 68 = .ok (.if_icmp .ne 15, 3) := by decide +kernel
theorem dX10_readBlocks_71 : decode cX10_readBlocks 71 = .ok (.aload_n 0, 1) := by decide +kernel
theorem dX10_readBlocks_72 : decode cX10_readBlocks 72 = .ok (.getfield 126, 3) := by decide +kernel
theorem dX10_readBlocks_75 : decode cX10_readBlocks 75 = .ok (.ifCond .ne 8, 3) := by decide +kernel
theorem dX10_readBlocks_78 : decode cX10_readBlocks 78 = .ok (.iconst 0, 1) := by decide +kernel
theorem dX10_readBlocks_79 : decode cX10_readBlocks 79 = .ok (.istore_n 1, 1) := by decide +kernel
theorem dX10_readBlocks_80 : decode cX10_readBlocks 80 = .ok (.goto 9, 3) := by decide +kernel
theorem dX10_readBlocks_83 : decode cX10_readBlocks 83 = .ok (.aload_n 0, 1) := by decide +kernel
theorem dX10_readBlocks_84 : decode cX10_readBlocks 84 = .ok (.iconst 4, 1) := by decide +kernel
theorem dX10_readBlocks_85 : decode cX10_readBlocks 85 = .ok (.iload_n 2, 1) := by decide +kernel
theorem dX10_readBlocks_86 : decode cX10_readBlocks 86 = .ok (.invokevirtual 96, 3) := by decide +kernel
theorem dX10_readBlocks_89 : decode cX10_readBlocks 89 = .ok (.iload_n 1, 1) := by decide +kernel
theorem dX10_readBlocks_90 : decode cX10_readBlocks 90 = .ok (.ifCond .eq 14, 3) := by decide +kernel
theorem dX10_readBlocks_93 : decode cX10_readBlocks 93 = .ok (.aload_n 0, 1) := by decide +kernel
theorem dX10_readBlocks_94 : decode cX10_readBlocks 94 = .ok (.invokevirtual 86, 3) := by decide +kernel
theorem dX10_readBlocks_97 : decode cX10_readBlocks 97 = .ok (.ifCond .eq 7, 3) := by decide +kernel
theorem dX10_readBlocks_100 : decode cX10_readBlocks 100 = .ok (.iconst 1, 1) := by decide +kernel
theorem dX10_readBlocks_101 : decode cX10_readBlocks 101 = .ok (.goto 4, 3) := by decide +kernel
theorem dX10_readBlocks_104 : decode cX10_readBlocks 104 = .ok (.iconst 0, 1) := by decide +kernel
theorem dX10_readBlocks_105 : decode cX10_readBlocks 105 = .ok (.istore_n 1, 1) := by decide +kernel
theorem dX10_readBlocks_106 : decode cX10_readBlocks 106 = .ok (.goto (-97), 3) := by decide +kernel
theorem dX10_readBlocks_109 : decode cX10_readBlocks 109 = .ok (.aload_n 0, 1) := by decide +kernel
theorem dX10_readBlocks_110 : decode cX10_readBlocks 110 = .ok (.invokevirtual 86, 3) := by decide +kernel
theorem dX10_readBlocks_113 : decode cX10_readBlocks 113 = .ok (.ifCond .eq 24, 3) := by decide +kernel
theorem dX10_readBlocks_116 : decode cX10_readBlocks 116 = .ok (.aload_n 0, 1) := by decide +kernel
theorem dX10_readBlocks_117 : decode cX10_readBlocks 117 = .ok (.getfield 90, 3) := by decide +kernel
theorem dX10_readBlocks_120 : decode cX10_readBlocks 120 = .ok (.aload_n 0, 1) := by decide +kernel
theorem dX10_readBlocks_121 : decode cX10_readBlocks 121 = .ok (.getfield 93, 3) := by decide +kernel
theorem dX10_readBlocks_124 : decode cX10_readBlocks 124 = .ok (.if_icmp .ge 13, 3) := by decide +kernel
theorem dX10_readBlocks_127 : decode cX10_readBlocks 127 = .ok (.aload_n 0, 1) := by decide +kernel
theorem dX10_readBlocks_128 : decode cX10_readBlocks 128 = .ok (.bipush 10, 2) := by decide +kernel
theorem dX10_readBlocks_130 : decode cX10_readBlocks 130 = .ok (.aload_n 0, 1) := by decide +kernel
theorem dX10_readBlocks_131 : decode cX10_readBlocks 131 = .ok (.getfield 90, 3) := by decide +kernel
theorem dX10_readBlocks_134 : decode cX10_readBlocks 134 = .ok (.invokevirtual 96, 3) := by decide +kernel
theorem dX10_readBlocks_137 : decode cX10_readBlocks 137 = .ok (.return_, 1) := by decide +kernel
theorem dX10_length_0 : decode cX10_length 0 = .ok (.aload_n 0, 1) := by decide +kernel
theorem dX10_length_1 : decode cX10_length 1 = .ok (.getfield 90, 3) := by decide +kernel
theorem dX10_length_4 : decode cX10_length 4 = .ok (.istore_n 2, 1) := by decide +kernel
theorem dX10_length_5 : decode cX10_length 5 = .ok (.aload_n 0, 1) := by decide +kernel
theorem dX10_length_6 : decode cX10_length 6 = .ok (.invokevirtual 100, 3) := by decide +kernel
theorem dX10_length_9 : decode cX10_length 9 = .ok (.iload_n 1, 1) := by decide +kernel
theorem dX10_length_10 : decode cX10_length 10 = .ok (.if_icmp .eq 9, 3) := by decide +kernel
theorem dX10_length_13 : decode cX10_length 13 = .ok (.aload_n 0, 1) := by decide +kernel
theorem dX10_length_14 : decode cX10_length 14 = .ok (.iconst 5, 1) := by decide +kernel
theorem dX10_length_15 : decode cX10_length 15 = .ok (.iload_n 2, 1) := by decide +kernel
theorem dX10_length_16 : decode cX10_length 16 = .ok (.invokevirtual 96, 3) := by decide +kernel
theorem dX10_length_19 : decode cX10_length 19 = .ok (.return_, 1) := by decide +kernel
theorem dX10_skip_0 : decode cX10_skip 0 = .ok (.iconst 0, 1) := by decide +kernel
theorem dX10_skip_1 : decode cX10_skip 1 = .ok (.istore_n 2, 1) := by decide +kernel
theorem dX10_skip_2 : decode cX10_skip 2 = .ok (.iload_n 2, 1) := by decide +kernel
theorem dX10_skip_3 : decode cX10_skip 3 = .ok (.iload_n 1, 1) := by decide +kernel
theorem dX10_skip_4 : decode cX10_skip 4 = .ok (.if_icmp .ge 14, 3) := by decide +kernel
theorem dX10_skip_7 : decode cX10_skip 7 = .ok (.aload_n 0, 1) := by decide +kernel
theorem dX10_skip_8 : decode cX10_skip 8 = .ok (.invokevirtual 100, 3) := by decide +kernel
theorem dX10_skip_11 : decode cX10_skip 11 = .ok (.pop, 1) := by decide +kernel
theorem dX10_skip_12 : decode cX10_skip 12 = .ok (.iinc 2 1, 3) := by decide +kernel
theorem dX10_skip_15 : decode cX10_skip 15 = .ok (.goto (-13), 3) := by decide +kernel
theorem dX10_skip_18 : decode cX10_skip 18 = .ok (.return_, 1) := by decide +kernel
theorem dX10_rows_0 : decode cX10_rows 0 = .ok (.aload_n 0, 1) := by decide +kernel
theorem dX10_rows_1 : decode cX10_rows 1 = .ok (.invokevirtual 100, 3) := by decide +kernel
theorem dX10_rows_4 : decode cX10_rows 4 = .ok (.istore_n 1, 1) := by decide +kernel
theorem dX10_rows_5 : decode cX10_rows 5 = .ok (.aload_n 0, 1) := by decide +kernel
theorem dX10_rows_6 : decode cX10_rows 6 = .ok (.invokevirtual 86, 3) := by decide +kernel
theorem dX10_rows_9 : decode cX10_rows 9 = .ok (.ifCond .eq 20, 3) := by decide +kernel
theorem dX10_rows_12 : decode cX10_rows 12 = .ok (.iload_n 1, 1) := by decide +kernel
theorem dX10_rows_13 : decode cX10_rows 13 = .ok (.ifCond .le 16, 3) := by decide +kernel
theorem dX10_rows_16 : decode cX10_rows 16 = .ok (.aload_n 0, 1) := by decide +kernel
theorem dX10_rows_17 : decode cX10_rows 17 = .ok (.iload_n 1, 1) := by decide +kernel
theorem dX10_rows_18 : decode cX10_rows 18 = .ok (.invokevirtual 151, 3) := by decide +kernel
theorem dX10_rows_21 : decode cX10_rows 21 = .ok (.aload_n 0, 1) := by decide +kernel
theorem dX10_rows_22 : decode cX10_rows 22 = .ok (.invokevirtual 100, 3) := by decide +kernel
theorem dX10_rows_25 : decode cX10_rows 25 = .ok (.istore_n 1, 1) := by decide +kernel
theorem dX10_rows_26 : decode cX10_rows 26 = .ok (.goto (-21), 3) := by decide +kernel
theorem dX10_rows_29 : decode cX10_rows 29 = .ok (.return_, 1) := by decide +kernel
theorem dX10_readMore_0 : decode cX10_readMore 0 = .ok (.aload_n 0, 1) := by decide +kernel
theorem dX10_readMore_1 : decode cX10_readMore 1 = .ok (.getfield 90, 3) := by decide +kernel
theorem dX10_readMore_4 : decode cX10_readMore 4 = .ok (.istore_n 1, 1) := by decide +kernel
theorem dX10_readMore_5 : decode cX10_readMore 5 = .ok (.aload_n 0, 1) := by decide +kernel
theorem dX10_readMore_6 : decode cX10_readMore 6 = .ok (.invokevirtual 100, 3) := by decide +kernel
theorem dX10_readMore_9 : decode cX10_readMore 9 = .ok (.istore_n 2, 1) := by decide +kernel
theorem dX10_readMore_10 : decode cX10_readMore 10 = .ok (.iload_n 2, 1) := by decide +kernel
theorem dX10_readMore_11 : decode cX10_readMore 11 = .ok (.sipush 249, 3) := by decide +kernel
theorem dX10_readMore_14 : decode cX10_readMore 14 = .ok (.if_icmp .ne 83, 3) := by decide +kernel
theorem dX10_readMore_17 : decode cX10_readMore 17 = .ok (.aload_n 0, 1) := by decide +kernel
theorem dX10_readMore_18 : decode cX10_readMore 18 = .ok (.getfield 126, 3) := by decide +kernel
theorem dX10_readMore_21 : decode cX10_readMore 21 = .ok (.ifCond .ne 76, 3) := by decide +kernel
theorem dX10_readMore_24 : decode cX10_readMore 24 = .ok (.aload_n 0, 1) := by decide +kernel
theorem dX10_readMore_25 : decode cX10_readMore 25 = .ok (.iconst 4, 1) := by decide +kernel
theorem dX10_readMore_26 : decode cX10_readMore 26 = .ok (.invokevirtual 154, 3) := by decide +kernel
theorem dX10_readMore_29 : decode cX10_readMore 29 = .ok (.aload_n 0, 1) := by decide +kernel
theorem dX10_readMore_30 : decode cX10_readMore 30 = .ok (.invokevirtual 100, 3) := by decide +kernel
theorem dX10_readMore_33 : decode cX10_readMore 33 = .ok (.istore_n 3, 1) := by decide +kernel
theorem dX10_readMore_34 : decode cX10_readMore 34 = .ok (.aload_n 0, 1) := by decide +kernel
theorem dX10_readMore_35 : decode cX10_readMore 35 = .ok (.aload_n 0, 1) := by decide +kernel
theorem dX10_readMore_36 : decode cX10_readMore 36 = .ok (.invokevirtual 119, 3) := by decide +kernel
theorem dX10_readMore_39 : decode cX10_readMore 39 = .ok (.putfield 135, 3) := by decide +kernel
theorem dX10_readMore_42 : decode cX10_readMore 42 = .ok (.aload_n 0, 1) := by decide +kernel
theorem dX10_readMore_43 : decode cX10_readMore 43 = .ok (.invokevirtual 100, 3) := by decide +kernel
theorem dX10_readMore_46 : decode cX10_readMore 46 = .ok (.istore 4, 2) := by decide +kernel
theorem dX10_readMore_48 : decode cX10_readMore 48 = .ok (.aload_n 0, 1) := by decide +kernel
theorem dX10_readMore_49 : decode cX10_readMore 49 = .ok (.iconst 0, 1) := by decide +kernel
theorem dX10_readMore_50 : decode cX10_readMore 50 = .ok (.invokevirtual 154, 3) := by decide +kernel
theorem dX10_readMore_53 : decode cX10_readMore 53 = .ok (.aload_n 0, 1) := by decide +kernel
theorem dX10_readMore_54 : decode cX10_readMore 54 = .ok (.iconst 1, 1) := by decide +kernel
theorem dX10_readMore_55 : decode cX10_readMore 55 = .ok (.putfield 126, 3) := by decide +kernel
theorem dX10_readMore_58 : decode cX10_readMore 58 = .ok (.aload_n 0, 1) := by decide +kernel
theorem dX10_readMore_59 : decode cX10_readMore 59 = .ok (.iload_n 3, 1) := by decide +kernel
theorem dX10_readMore_60 : decode cX10_readMore 60 = .ok (.iconst 2, 1) := by decide +kernel
theorem dX10_readMore_61 : decode cX10_readMore 61 = .ok (.ishr, 1) := by decide +kernel
theorem dX10_readMore_62 : decode cX10_readMore 62 = .ok (.bipush 7, 2) := by decide +kernel
theorem dX10_readMore_64 : decode cX10_readMore 64 = .ok (.iand, 1) := by decide +kernel
theorem dX10_readMore_65 : decode cX10_readMore 65 = .ok (.putfield 129, 3) := by decide +kernel
theorem dX10_readMore_68 : decode cX10_readMore 68 = .ok (.aload_n 0, 1) := by decide +kernel
theorem dX10_readMore_69 : decode cX10_readMore 69 = .ok (.iload_n 3, 1) := by decide +kernel
theorem dX10_readMore_70 : decode cX10_readMore 70 = .ok (.iconst 1, 1) := by decide +kernel
theorem dX10_readMore_71 : decode cX10_readMore 71 = .ok (.ishr, 1) := by decide +kernel
theorem dX10_readMore_72 : decode cX10_readMore 72 = .ok (.iconst 1, 1) := by decide +kernel
theorem dX10_readMore_73 : decode cX10_readMore 73 = .ok (.iand, 1) := by decide +kernel
theorem dX10_readMore_74 : decode cX10_readMore 74 = .ok (.putfield 138, 3) := by decide +kernel
theorem dX10_readMore_77 : decode cX10_readMore 77 = .ok (.aload_n 0, 1) := by decide +kernel
theorem dX10_readMore_78 : decode cX10_readMore 78 = .ok (.iload_n 3, 1) := by decide +kernel
theorem dX10_readMore_79 : decode cX10_readMore 79 = .ok (.iconst 1, 1) := by decide +kernel
theorem dX10_readMore_80 : decode cX10_readMore 80 = .ok (.iand, 1) := by decide +kernel
theorem dX10_readMore_81 : decode cX10_readMore 81 = .ok (.iconst 1, 1) := by decide +kernel
theorem dX10_readMore_82 : decode cX10_readMore 82 = .ok (.if_icmp .ne 8, 3) := by decide +kernel
theorem dX10_readMore_85 : decode cX10_readMore 85 = .ok (.iload 4, 2) := by decide +kernel
theorem dX10_readMore_87 : decode cX10_readMore 87 = .ok (.goto 4, 3) := by decide +kernel
theorem dX10_readMore_90 : decode cX10_readMore 90 = .ok (.iconst (-1), 1) := by decide +kernel
theorem dX10_readMore_91 : decode cX10_readMore 91 = .ok (.putfield 132, 3) := by decide +kernel
theorem dX10_readMore_94 : decode cX10_readMore 94 = .ok (.goto 91, 3) := by decide +kernel
theorem dX10_readMore_97 : decode cX10_readMore 97 = .ok (.iload_n 2, 1) := by decide +kernel
theorem dX10_readMore_98 : decode cX10_readMore 98 = .ok (.iconst 1, 1) := by decide +kernel
theorem dX10_readMore_99 : decode cX10_readMore 99 = .ok (.if_icmp .ne 26, 3) := by decide +kernel
theorem dX10_readMore_102 : decode cX10_readMore 102 = .ok (.aload_n 0, 1) := by decide +kernel
theorem dX10_readMore_103 : decode cX10_readMore 103 = .ok (.bipush 12, 2) := by decide +kernel
theorem dX10_readMore_105 : decode cX10_readMore 105 = .ok (.invokevirtual 154, 3) := by decide +kernel
theorem dX10_readMore_108 : decode cX10_readMore 108 = .ok (.aload_n 0, 1) := by decide +kernel
theorem dX10_readMore_109 : decode cX10_readMore 109 = .ok (.bipush 12, 2) := by decide +kernel
theorem dX10_readMore_111 : decode cX10_readMore 111 = .ok (.invokevirtual 151, 3) := by decide +kernel
theorem dX10_readMore_114 : decode cX10_readMore 114 = .ok (.aload_n 0, 1) := by decide +kernel
theorem dX10_readMore_115 : decode cX10_readMore 115 = .ok (.invokevirtual 157, 3) := by decide +kernel
theorem dX10_readMore_118 : decode cX10_readMore 118 = .ok (.aload_n 0, 1) := by decide +kernel
theorem dX10_readMore_119 : decode cX10_readMore 119 = .ok (.invokevirtual 141, 3) := by decide +kernel
theorem dX10_readMore_122 : decode cX10_readMore 122 = .ok (.goto 63, 3) := by decide +kernel
theorem dX10_readMore_125 : decode cX10_readMore 125 = .ok (.iload_n 2, 1) := by decide +kernel
theorem dX10_readMore_126 : decode cX10_readMore 126 = .ok (.sipush 254, 3) := by decide +kernel
theorem dX10_readMore_129 : decode cX10_readMore 129 = .ok (.if_icmp .eq 10, 3) := by decide +kernel
theorem dX10_readMore_132 : decode cX10_readMore 132 = .ok (.iload_n 2, 1) := by decide +kernel
theorem dX10_readMore_133 : decode cX10_readMore 133 = .ok (.sipush 255, 3) := by decide +kernel
theorem dX10_readMore_136 : decode cX10_readMore 136 = .ok (.if_icmp .ne 43, 3) := by decide +kernel
theorem dX10_readMore_139 : decode cX10_readMore 139 = .ok (.aload_n 0, 1) := by decide +kernel
theorem dX10_readMore_140 : decode cX10_readMore 140 = .ok (.getfield 126, 3) := by decide +kernel
theorem dX10_readMore_143 : decode cX10_readMore 143 = .ok (.ifCond .ne 36, 3) := by decide +kernel
theorem dX10_readMore_146 : decode cX10_readMore 146 = .ok (.iload_n 2, 1) := by decide +kernel
theorem dX10_readMore_147 : decode cX10_readMore 147 = .ok (.sipush 255, 3) := by decide +kernel
theorem dX10_readMore_150 : decode cX10_readMore 150 = .ok (.if_icmp .ne 9, 3) := by decide +kernel
theorem dX10_readMore_153 : decode cX10_readMore 153 = .ok (.aload_n 0, 1) := by decide +kernel
theorem dX10_readMore_154 : decode cX10_readMore 154 = .ok (.bipush 11, 2) := by decide +kernel
theorem dX10_readMore_156 : decode cX10_readMore 156 = .ok (.invokevirtual 154, 3) := by decide +kernel
theorem dX10_readMore_159 : decode cX10_readMore 159 = .ok (.iload_n 2, 1) := by decide +kernel
theorem dX10_readMore_160 : decode cX10_readMore 160 = .ok (.sipush 255, 3) := by decide +kernel
theorem dX10_readMore_163 : decode cX10_readMore 163 = .ok (.if_icmp .ne 9, 3) := by decide +kernel
theorem dX10_readMore_166 : decode cX10_readMore 166 = .ok (.aload_n 0, 1) := by decide +kernel
theorem dX10_readMore_167 : decode cX10_readMore 167 = .ok (.bipush 11, 2) := by decide +kernel
theorem dX10_readMore_169 : decode cX10_readMore 169 = .ok (.invokevirtual 151, 3) := by decide +kernel
theorem dX10_readMore_172 : decode cX10_readMore 172 = .ok (.aload_n 0, 1) := by decide +kernel
theorem dX10_readMore_173 : decode cX10_readMore 173 = .ok (.invokevirtual 157, 3) := by decide +kernel
theorem dX10_readMore_176 : decode cX10_readMore 176 = .ok (.goto 9, 3) := by decide +kernel
theorem dX10_readMore_179 : decode cX10_readMore 179 = .ok (.aload_n 0, 1) := by decide +kernel
theorem dX10_readMore_180 : decode cX10_readMore 180 = .ok (.iconst 4, 1) := by decide +kernel
theorem dX10_readMore_181 : decode cX10_readMore 181 = .ok (.iload_n 1, 1) := by decide +kernel
theorem dX10_readMore_182 : decode cX10_readMore 182 = .ok (.invokevirtual 96, 3) := by decide +kernel
theorem dX10_readMore_185 : decode cX10_readMore 185 = .ok (.return_, 1) := by decide +kernel
theorem dX10_readImage_0 : decode cX10_readImage 0 = .ok (.aload_n 0, 1) := by decide +kernel
theorem dX10_readImage_1 : decode cX10_readImage 1 = .ok (.getfield 23, 3) := by decide +kernel
theorem dX10_readImage_4 : decode cX10_readImage 4 = .ok (.bipush 6, 2) := by decide +kernel
theorem dX10_readImage_6 : decode cX10_readImage 6 = .ok (.aload_n 0, 1) := by decide +kernel
theorem dX10_readImage_7 : decode cX10_readImage 7 = .ok (.getfield 103, 3) := by decide +kernel
theorem dX10_readImage_10 : decode cX10_readImage 10 = .ok (.imul, 1) := by decide +kernel
theorem dX10_readImage_11 : decode cX10_readImage 11 = .ok (.iconst 5, 1) := by decide +kernel
theorem dX10_readImage_12 : decode cX10_readImage 12 = .ok (.iadd, 1) := by decide +kernel
theorem dX10_readImage_13 : decode cX10_readImage 13 = .ok (.iaload, 1) := by decide +kernel
theorem dX10_readImage_14 : decode cX10_readImage 14 = .ok (.istore_n 2, 1) := by decide +kernel
theorem dX10_readImage_15 : decode cX10_readImage 15 = .ok (.aload_n 0, 1) := by decide +kernel
theorem dX10_readImage_16 : decode cX10_readImage 16 = .ok (.invokevirtual 119, 3) := by decide +kernel
theorem dX10_readImage_19 : decode cX10_readImage 19 = .ok (.istore_n 3, 1) := by decide +kernel
theorem dX10_readImage_20 : decode cX10_readImage 20 = .ok (.aload_n 0, 1) := by decide +kernel
theorem dX10_readImage_21 : decode cX10_readImage 21 = .ok (.invokevirtual 119, 3) := by decide +kernel
theorem dX10_readImage_24 : decode cX10_readImage 24 = .ok (.istore 4, 2) := by decide +kernel
theorem dX10_readImage_26 : decode cX10_readImage 26 = .ok (.aload_n 0, 1) := by decide +kernel
theorem dX10_readImage_27 : decode cX10_readImage 27 = .ok (.invokevirtual 119, 3) := by decide +kernel
theorem dX10_readImage_30 : decode cX10_readImage 30 = .ok (.istore 5, 2) := by decide +kernel
theorem dX10_readImage_32 : decode cX10_readImage 32 = .ok (.aload_n 0, 1) := by decide +kernel
theorem dX10_readImage_33 : decode cX10_readImage 33 = .ok (.invokevirtual 119, 3) := by decide +kernel
theorem dX10_readImage_36 : decode cX10_readImage 36 = .ok (.istore 6, 2) := by decide +kernel
theorem dX10_readImage_38 : decode cX10_readImage 38 = .ok (.iload_n 2, 1) := by decide +kernel
theorem dX10_readImage_39 : decode cX10_readImage 39 = .ok (.bipush 24, 2) := by decide +kernel
theorem dX10_readImage_41 : decode cX10_readImage 41 = .ok (.if_icmp .ge 58, 3) := by decide +kernel
theorem dX10_readImage_44 : decode cX10_readImage 44 = .ok (.iload 5, 2) := by decide +kernel
theorem dX10_readImage_46 : decode cX10_readImage 46 = .ok (.ifCond .le 53, 3) := by decide +kernel
theorem dX10_readImage_49 : decode cX10_readImage 49 = .ok (.iload 6, 2) := by decide +kernel
theorem dX10_readImage_51 : decode cX10_readImage 51 = .ok (.ifCond .le 48, 3) := by decide +kernel
theorem dX10_readImage_54 : decode cX10_readImage 54 = .ok (.iload_n 3, 1) := by decide +kernel
theorem dX10_readImage_55 : decode cX10_readImage 55 = .ok (.iload 5, 2) := by decide +kernel
theorem dX10_readImage_57 : decode cX10_readImage 57 = .ok (.iadd, 1) := by decide +kernel
theorem dX10_readImage_58 : decode cX10_readImage 58 = .ok (.aload_n 0, 1) := by decide +kernel
theorem dX10_readImage_59 : decode cX10_readImage 59 = .ok (.getfield 23, 3) := by decide +kernel
theorem dX10_readImage_62 : decode cX10_readImage 62 = .ok (.bipush 6, 2) := by decide +kernel
theorem dX10_readImage_64 : decode cX10_readImage 64 = .ok (.aload_n 0, 1) := by decide +kernel
theorem dX10_readImage_65 : decode cX10_readImage 65 = .ok (.getfield 103, 3) := by decide +kernel
theorem dX10_readImage_68 : decode cX10_readImage 68 = .ok (.imul, 1) := by decide +kernel
theorem dX10_readImage_69 : decode cX10_readImage 69 = .ok (.iaload, 1) := by decide +kernel
theorem dX10_readImage_70 : decode cX10_readImage 70 = .ok (.if_icmp .gt 29, 3) := by decide +kernel
theorem dX10_readImage_73 : decode cX10_readImage 73 = .ok (.iload 4, 2) := by decide +kernel
theorem dX10_readImage_75 : decode cX10_readImage 75 = .ok (.iload 6, 2) := by decide +kernel
theorem dX10_readImage_77 : decode cX10_readImage 77 = .ok (.iadd, 1) := by decide +kernel
theorem dX10_readImage_78 : decode cX10_readImage 78 = .ok (.aload_n 0, 1) := by decide +kernel
theorem dX10_readImage_79 : decode cX10_readImage 79 = .ok (.getfield 23, 3) := by decide +kernel
theorem dX10_readImage_82 : decode cX10_readImage 82 = .ok (.bipush 6, 2) := by decide +kernel
theorem dX10_readImage_84 : decode cX10_readImage 84 = .ok (.aload_n 0, 1) := by decide +kernel
theorem dX10_readImage_85 : decode cX10_readImage 85 = .ok (.getfield 103, 3) := by decide +kernel
theorem dX10_readImage_88 : decode cX10_readImage 88 = .ok (.imul, 1) := by decide +kernel
theorem dX10_readImage_89 : decode cX10_readImage 89 = .ok (.iconst 1, 1) := by decide +kernel
theorem dX10_readImage_90 : decode cX10_readImage 90 = .ok (.iadd, 1) := by decide +kernel
theorem dX10_readImage_91 : decode cX10_readImage 91 = .ok (.iaload, 1) := by decide +kernel
theorem dX10_readImage_92 : decode cX10_readImage 92 = .ok (.if_icmp .gt 7, 3) := by decide +kernel
theorem dX10_readImage_95 : decode cX10_readImage 95 = .ok (.iconst 1, 1) := by decide +kernel
theorem dX10_readImage_96 : decode cX10_readImage 96 = .ok (.goto 4, 3) := by decide +kernel
theorem dX10_readImage_99 : decode cX10_readImage 99 = .ok (.iconst 0, 1) := by decide +kernel
theorem dX10_readImage_100 : decode cX10_readImage 100 = .ok (.istore 7, 2) := by decide +kernel
theorem dX10_readImage_102 : decode cX10_readImage 102 = .ok (.iload 7, 2) := by decide +kernel
theorem dX10_readImage_104 : decode cX10_readImage 104 = .ok (.ifCond .ne 10, 3) := by decide +kernel
theorem dX10_readImage_107 : decode cX10_readImage 107 = .ok (.aload_n 0, 1) := by decide +kernel
theorem dX10_readImage_108 : decode cX10_readImage 108 = .ok (.bipush 6, 2) := by decide +kernel
theorem dX10_readImage_110 : decode cX10_readImage 110 = .ok (.iload_n 1, 1) := by decide +kernel
theorem dX10_readImage_111 : decode cX10_readImage 111 = .ok (.invokevirtual 96, 3) := by decide +kernel
theorem dX10_readImage_114 : decode cX10_readImage 114 = .ok (.aload_n 0, 1) := by decide +kernel
theorem dX10_readImage_115 : decode cX10_readImage 115 = .ok (.invokevirtual 100, 3) := by decide +kernel
theorem dX10_readImage_118 : decode cX10_readImage 118 = .ok (.istore 8, 2) := by decide +kernel
theorem dX10_readImage_120 : decode cX10_readImage 120 = .ok (.iload 8, 2) := by decide +kernel
theorem dX10_readImage_122 : decode cX10_readImage 122 = .ok (.bipush 127, 2) := by decide +kernel
theorem dX10_readImage_124 : decode cX10_readImage 124 = .ok (.if_icmp .le 13, 3) := by decide +kernel
theorem dX10_readImage_127 : decode cX10_readImage 127 = .ok (.iconst 2, 1) := by decide +kernel
theorem dX10_readImage_128 : decode cX10_readImage 128 = .ok (.iload 8, 2) := by decide +kernel
theorem dX10_readImage_130 : decode cX10_readImage 130 = .ok (.bipush 7, 2) := by decide +kernel
theorem dX10_readImage_132 : decode cX10_readImage 132 = .ok (.iand, 1) := by decide +kernel
theorem dX10_readImage_133 : decode cX10_readImage 133 = .ok (.ishl, 1) := by decide +kernel
theorem dX10_readImage_134 : decode cX10_readImage 134 = .ok (.goto 4, 3) := by decide +kernel
theorem dX10_readImage_137 : decode cX10_readImage 137 = .ok (.iconst 0, 1) := by decide +kernel
theorem dX10_readImage_138 : decode cX10_readImage 138 = .ok (.istore 9, 2) := by decide +kernel
theorem dX10_readImage_140 : decode cX10_readImage 140 = .ok (.iload 9, 2) := by decide +kernel
theorem dX10_readImage_142 : decode cX10_readImage 142 = .ok (.ifCond .ne 27, 3) := by decide +kernel
theorem dX10_readImage_145 : decode cX10_readImage 145 = .ok (.aload_n 0, 1) := by decide +kernel
theorem dX10_readImage_146 : decode cX10_readImage 146 = .ok (.getfield 23, 3) := by decide +kernel
theorem dX10_readImage_149 : decode cX10_readImage 149 = .ok (.bipush 6, 2) := by decide +kernel
theorem dX10_readImage_151 : decode cX10_readImage 151 = .ok (.aload_n 0, 1) := by decide +kernel
theorem dX10_readImage_152 : decode cX10_readImage 152 = .ok (.getfield 103, 3) := by decide +kernel
theorem dX10_readImage_155 : decode cX10_readImage 155 = .ok (.imul, 1) := by decide +kernel
theorem dX10_readImage_156 : decode cX10_readImage 156 = .ok (.iconst 2, 1) := by decide +kernel
theorem dX10_readImage_157 : decode cX10_readImage 157 = .ok (.iadd, 1) := by decide +kernel
theorem dX10_readImage_158 : decode cX10_readImage 158 = .ok (.iaload, 1) := by decide +kernel
theorem dX10_readImage_159 : decode cX10_readImage 159 = .ok (.ifCond .ne 10, 3) := by decide +kernel
theorem dX10_readImage_162 : decode cX10_readImage 162 = .ok (.aload_n 0, 1) := by decide +kernel
theorem dX10_readImage_163 : decode cX10_readImage 163 = .ok (.bipush 7, 2) := by decide +kernel
theorem dX10_readImage_165 : decode cX10_readImage 165 = .ok (.iload_n 1, 1) := by decide +kernel
theorem dX10_readImage_166 : decode cX10_readImage 166 = .ok (.invokevirtual 96, 3) := by decide +kernel
theorem dX10_readImage_169 : decode cX10_readImage 169 = .ok (.aload_n 0, 1) := by decide +kernel
theorem dX10_readImage_170 : decode cX10_readImage 170 = .ok (.invokevirtual 86, 3) := by decide +kernel
theorem dX10_readImage_173 : decode cX10_readImage 173 = .ok (.ifCond .ne 4, 3) := by decide +kernel
theorem dX10_readImage_176 : decode cX10_readImage 176 = .ok (.return_, 1) := by decide +kernel
theorem dX10_readImage_177 : decode cX10_readImage 177 = .ok (.aload_n 0, 1) := by decide +kernel
theorem dX10_readImage_178 : decode cX10_readImage 178 = .ok (.aload_n 0, 1) := by decide +kernel
theorem dX10_readImage_179 : decode cX10_readImage 179 = .ok (.getfield 33, 3) := by decide +kernel
theorem dX10_readImage_182 : decode cX10_readImage 182 = .ok (.aload_n 0, 1) := by decide +kernel
theorem dX10_readImage_183 : decode cX10_readImage 183 = .ok (.getfield 103, 3) := by decide +kernel
theorem dX10_readImage_186 : decode cX10_readImage 186 = .ok (.iload_n 2, 1) := by decide +kernel
theorem dX10_readImage_187 : decode cX10_readImage 187 = .ok (.iconst 0, 1) := by decide +kernel
theorem dX10_readImage_188 : decode cX10_readImage 188 = .ok (.invokestatic 160, 3) := by decide +kernel
theorem dX10_readImage_191 : decode cX10_readImage 191 = .ok (.iload 9, 2) := by decide +kernel
theorem dX10_readImage_193 : decode cX10_readImage 193 = .ok (.invokevirtual 122, 3) := by decide +kernel
theorem dX10_readImage_196 : decode cX10_readImage 196 = .ok (.aload_n 0, 1) := by decide +kernel
theorem dX10_readImage_197 : decode cX10_readImage 197 = .ok (.aload_n 0, 1) := by decide +kernel
theorem dX10_readImage_198 : decode cX10_readImage 198 = .ok (.getfield 103, 3) := by decide +kernel
theorem dX10_readImage_201 : decode cX10_readImage 201 = .ok (.iload_n 2, 1) := by decide +kernel
theorem dX10_readImage_202 : decode cX10_readImage 202 = .ok (.iconst 0, 1) := by decide +kernel
theorem dX10_readImage_203 : decode cX10_readImage 203 = .ok (.iload_n 3, 1) := by decide +kernel
theorem dX10_readImage_204 : decode cX10_readImage 204 = .ok (.invokevirtual 163, 3) := by decide +kernel
theorem dX10_readImage_207 : decode cX10_readImage 207 = .ok (.aload_n 0, 1) := by decide +kernel
theorem dX10_readImage_208 : decode cX10_readImage 208 = .ok (.aload_n 0, 1) := by decide +kernel
theorem dX10_readImage_209 : decode cX10_readImage 209 = .ok (.getfield 103, 3) := by decide +kernel
theorem dX10_readImage_212 : decode cX10_readImage 212 = .ok (.iload_n 2, 1) := by decide +kernel
theorem dX10_readImage_213 : decode cX10_readImage 213 = .ok (.iconst 1, 1) := by decide +kernel
theorem dX10_readImage_214 : decode cX10_readImage 214 = .ok (.iload 4, 2) := by decide +kernel
theorem dX10_readImage_216 : decode cX10_readImage 216 = .ok (.invokevirtual 163, 3) := by decide +kernel
theorem dX10_readImage_219 : decode cX10_readImage 219 = .ok (.aload_n 0, 1) := by decide +kernel
theorem dX10_readImage_220 : decode cX10_readImage 220 = .ok (.aload_n 0, 1) := by decide +kernel
theorem dX10_readImage_221 : decode cX10_readImage 221 = .ok (.getfield 103, 3) := by decide +kernel
theorem dX10_readImage_224 : decode cX10_readImage 224 = .ok (.iload_n 2, 1) := by decide +kernel
theorem dX10_readImage_225 : decode cX10_readImage 225 = .ok (.iconst 2, 1) := by decide +kernel
theorem dX10_readImage_226 : decode cX10_readImage 226 = .ok (.iload 5, 2) := by decide +kernel
theorem dX10_readImage_228 : decode cX10_readImage 228 = .ok (.invokevirtual 163, 3) := by decide +kernel
theorem dX10_readImage_231 : decode cX10_readImage 231 = .ok (.aload_n 0, 1) := by decide +kernel
theorem dX10_readImage_232 : decode cX10_readImage 232 = .ok (.aload_n 0, 1) := by decide +kernel
theorem dX10_readImage_233 : decode cX10_readImage 233 = .ok (.getfield 103, 3) := by decide +kernel
theorem dX10_readImage_236 : decode cX10_readImage 236 = .ok (.iload_n 2, 1) := by decide +kernel
theorem dX10_readImage_237 : decode cX10_readImage 237 = .ok (.iconst 3, 1) := by decide +kernel
theorem dX10_readImage_238 : decode cX10_readImage 238 = .ok (.iload 6, 2) := by decide +kernel
theorem dX10_readImage_240 : decode cX10_readImage 240 = .ok (.invokevirtual 163, 3) := by decide +kernel
theorem dX10_readImage_243 : decode cX10_readImage 243 = .ok (.aload_n 0, 1) := by decide +kernel
theorem dX10_readImage_244 : decode cX10_readImage 244 = .ok (.aload_n 0, 1) := by decide +kernel
theorem dX10_readImage_245 : decode cX10_readImage 245 = .ok (.getfield 103, 3) := by decide +kernel
theorem dX10_readImage_248 : decode cX10_readImage 248 = .ok (.iload_n 2, 1) := by decide +kernel
theorem dX10_readImage_249 : decode cX10_readImage 249 = .ok (.iconst 4, 1) := by decide +kernel
theorem dX10_readImage_250 : decode cX10_readImage 250 = .ok (.iload 9, 2) := by decide +kernel
theorem dX10_readImage_252 : decode cX10_readImage 252 = .ok (.invokevirtual 163, 3) := by decide +kernel
theorem dX10_readImage_255 : decode cX10_readImage 255 = .ok (.aload_n 0, 1) := by decide +kernel
theorem dX10_readImage_256 : decode cX10_readImage 256 = .ok (.aload_n 0, 1) := by decide +kernel
theorem dX10_readImage_257 : decode cX10_readImage 257 = .ok (.getfield 103, 3) := by decide +kernel
theorem dX10_readImage_260 : decode cX10_readImage 260 = .ok (.iload_n 2, 1) := by decide +kernel
theorem dX10_readImage_261 : decode cX10_readImage 261 = .ok (.iconst 5, 1) := by decide +kernel
theorem dX10_readImage_262 : decode cX10_readImage 262 = .ok (.iload 8, 2) := by decide +kernel
theorem dX10_readImage_264 : decode cX10_readImage 264 = .ok (.bipush 6, 2) := by decide +kernel
theorem dX10_readImage_266 : decode cX10_readImage 266 = .ok (.ishr, 1) := by decide +kernel
theorem dX10_readImage_267 : decode cX10_readImage 267 = .ok (.iconst 1, 1) := by decide +kernel
theorem dX10_readImage_268 : decode cX10_readImage 268 = .ok (.iand, 1) := by decide +kernel
theorem dX10_readImage_269 : decode cX10_readImage 269 = .ok (.invokevirtual 163, 3) := by decide +kernel
theorem dX10_readImage_272 : decode cX10_readImage 272 = .ok (.aload_n 0, 1) := by decide +kernel
theorem dX10_readImage_273 : decode cX10_readImage 273 = .ok (.aload_n 0, 1) := by decide +kernel
theorem dX10_readImage_274 : decode cX10_readImage 274 = .ok (.getfield 103, 3) := by decide +kernel
theorem dX10_readImage_277 : decode cX10_readImage 277 = .ok (.iload_n 2, 1) := by decide +kernel
theorem dX10_readImage_278 : decode cX10_readImage 278 = .ok (.bipush 6, 2) := by decide +kernel
theorem dX10_readImage_280 : decode cX10_readImage 280 = .ok (.aload_n 0, 1) := by decide +kernel
theorem dX10_readImage_281 : decode cX10_readImage 281 = .ok (.getfield 129, 3) := by decide +kernel
theorem dX10_readImage_284 : decode cX10_readImage 284 = .ok (.invokevirtual 163, 3) := by decide +kernel
theorem dX10_readImage_287 : decode cX10_readImage 287 = .ok (.aload_n 0, 1) := by decide +kernel
theorem dX10_readImage_288 : decode cX10_readImage 288 = .ok (.aload_n 0, 1) := by decide +kernel
theorem dX10_readImage_289 : decode cX10_readImage 289 = .ok (.getfield 103, 3) := by decide +kernel
theorem dX10_readImage_292 : decode cX10_readImage 292 = .ok (.iload_n 2, 1) := by decide +kernel
theorem dX10_readImage_293 : decode cX10_readImage 293 = .ok (.bipush 7, 2) := by decide +kernel
theorem dX10_readImage_295 : decode cX10_readImage 295 = .ok (.aload_n 0, 1) := by decide +kernel
theorem dX10_readImage_296 : decode cX10_readImage 296 = .ok (.getfield 132, 3) := by decide +kernel
theorem dX10_readImage_299 : decode cX10_readImage 299 = .ok (.invokevirtual 163, 3) := by decide +kernel
theorem dX10_readImage_302 : decode cX10_readImage 302 = .ok (.aload_n 0, 1) := by decide +kernel
theorem dX10_readImage_303 : decode cX10_readImage 303 = .ok (.aload_n 0, 1) := by decide +kernel
theorem dX10_readImage_304 : decode cX10_readImage 304 = .ok (.getfield 103, 3) := by decide +kernel
theorem dX10_readImage_307 : decode cX10_readImage 307 = .ok (.iload_n 2, 1) := by decide +kernel
theorem dX10_readImage_308 : decode cX10_readImage 308 = .ok (.bipush 8, 2) := by decide +kernel
theorem dX10_readImage_310 : decode cX10_readImage 310 = .ok (.aload_n 0, 1) := by decide +kernel
theorem dX10_readImage_311 : decode cX10_readImage 311 = .ok (.getfield 135, 3) := by decide +kernel
theorem dX10_readImage_314 : decode cX10_readImage 314 = .ok (.invokevirtual 163, 3) := by decide +kernel
theorem dX10_readImage_317 : decode cX10_readImage 317 = .ok (.aload_n 0, 1) := by decide +kernel
theorem dX10_readImage_318 : decode cX10_readImage 318 = .ok (.aload_n 0, 1) := by decide +kernel
theorem dX10_readImage_319 : decode cX10_readImage 319 = .ok (.getfield 103, 3) := by decide +kernel
theorem dX10_readImage_322 : decode cX10_readImage 322 = .ok (.iload_n 2, 1) := by decide +kernel
theorem dX10_readImage_323 : decode cX10_readImage 323 = .ok (.bipush 9, 2) := by decide +kernel
theorem dX10_readImage_325 : decode cX10_readImage 325 = .ok (.aload_n 0, 1) := by decide +kernel
theorem dX10_readImage_326 : decode cX10_readImage 326 = .ok (.getfield 138, 3) := by decide +kernel
theorem dX10_readImage_329 : decode cX10_readImage 329 = .ok (.invokevirtual 163, 3) := by decide +kernel
theorem dX10_readImage_332 : decode cX10_readImage 332 = .ok (.aload_n 0, 1) := by decide +kernel
theorem dX10_readImage_333 : decode cX10_readImage 333 = .ok (.invokevirtual 141, 3) := by decide +kernel
theorem dX10_readImage_336 : decode cX10_readImage 336 = .ok (.aload_n 0, 1) := by decide +kernel
theorem dX10_readImage_337 : decode cX10_readImage 337 = .ok (.getfield 90, 3) := by decide +kernel
theorem dX10_readImage_340 : decode cX10_readImage 340 = .ok (.istore 10, 2) := by decide +kernel
theorem dX10_readImage_342 : decode cX10_readImage 342 = .ok (.aload_n 0, 1) := by decide +kernel
theorem dX10_readImage_343 : decode cX10_readImage 343 = .ok (.invokevirtual 100, 3) := by decide +kernel
theorem dX10_readImage_346 : decode cX10_readImage 346 = .ok (.istore 11, 2) := by decide +kernel
theorem dX10_readImage_348 : decode cX10_readImage 348 = .ok (.iload 11, 2) := by decide +kernel
theorem dX10_readImage_350 : decode cX10_readImage 350 = .ok (.iconst 2, 1) := by decide +kernel
theorem dX10_readImage_351 : decode cX10_readImage 351 = .ok (.if_icmp .lt 10, 3) := by decide +kernel
theorem dX10_readImage_354 : decode cX10_readImage 354 = .ok (.iload 11, 2) := by decide +kernel
theorem dX10_readImage_356 : decode cX10_readImage 356 = .ok (.bipush 8, 2) := by decide +kernel
theorem dX10_readImage_358 : decode cX10_readImage 358 = .ok (.if_icmp .le 11, 3) := by decide +kernel
theorem dX10_readImage_361 : decode cX10_readImage 361 = .ok (.aload_n 0, 1) := by decide +kernel
theorem dX10_readImage_362 : decode cX10_readImage 362 = .ok (.bipush 8, 2) := by decide +kernel
theorem dX10_readImage_364 : decode cX10_readImage 364 = .ok (.iload 10, 2) := by decide +kernel
theorem dX10_readImage_366 : decode cX10_readImage 366 = .ok (.invokevirtual 96, 3) := by decide +kernel
theorem dX10_readImage_369 : decode cX10_readImage 369 = .ok (.aload_n 0, 1) := by decide +kernel
theorem dX10_readImage_370 : decode cX10_readImage 370 = .ok (.invokevirtual 86, 3) := by decide +kernel
theorem dX10_readImage_373 : decode cX10_readImage 373 = .ok (.ifCond .ne 4, 3) := by decide +kernel
theorem dX10_readImage_376 : decode cX10_readImage 376 = .ok (.return_, 1) := by decide +kernel
theorem dX10_readImage_377 : decode cX10_readImage 377 = .ok (.aload_n 0, 1) := by decide +kernel
theorem dX10_readImage_378 : decode cX10_readImage 378 = .ok (.invokevirtual 167, 3) := by decide +kernel
theorem dX10_readImage_381 : decode cX10_readImage 381 = .ok (.aload_n 0, 1) := by decide +kernel
theorem dX10_readImage_382 : decode cX10_readImage 382 = .ok (.invokevirtual 86, 3) := by decide +kernel
theorem dX10_readImage_385 : decode cX10_readImage 385 = .ok (.ifCond .eq 21, 3) := by decide +kernel
theorem dX10_readImage_388 : decode cX10_readImage 388 = .ok (.aload_n 0, 1) := by decide +kernel
theorem dX10_readImage_389 : decode cX10_readImage 389 = .ok (.iload 11, 2) := by decide +kernel
theorem dX10_readImage_391 : decode cX10_readImage 391 = .ok (.iload_n 2, 1) := by decide +kernel
theorem dX10_readImage_392 : decode cX10_readImage 392 = .ok (.invokevirtual 170, 3) := by decide +kernel
theorem dX10_readImage_395 : decode cX10_readImage 395 = .ok (.ifCond .ne 11, 3) := by decide +kernel
theorem dX10_readImage_398 : decode cX10_readImage 398 = .ok (.aload_n 0, 1) := by decide +kernel
theorem dX10_readImage_399 : decode cX10_readImage 399 = .ok (.bipush 9, 2) := by decide +kernel
theorem dX10_readImage_401 : decode cX10_readImage 401 = .ok (.iload 10, 2) := by decide +kernel
theorem dX10_readImage_403 : decode cX10_readImage 403 = .ok (.invokevirtual 96, 3) := by decide +kernel
theorem dX10_readImage_406 : decode cX10_readImage 406 = .ok (.aload_n 0, 1) := by decide +kernel
theorem dX10_readImage_407 : decode cX10_readImage 407 = .ok (.invokevirtual 86, 3) := by decide +kernel
theorem dX10_readImage_410 : decode cX10_readImage 410 = .ok (.ifCond .eq 20, 3) := by decide +kernel
theorem dX10_readImage_413 : decode cX10_readImage 413 = .ok (.aload_n 0, 1) := by decide +kernel
theorem dX10_readImage_414 : decode cX10_readImage 414 = .ok (.getfield 23, 3) := by decide +kernel
theorem dX10_readImage_417 : decode cX10_readImage 417 = .ok (.bipush 6, 2) := by decide +kernel
theorem dX10_readImage_419 : decode cX10_readImage 419 = .ok (.aload_n 0, 1) := by decide +kernel
theorem dX10_readImage_420 : decode cX10_readImage 420 = .ok (.getfield 103, 3) := by decide +kernel
theorem dX10_readImage_423 : decode cX10_readImage 423 = .ok (.imul, 1) := by decide +kernel
theorem dX10_readImage_424 : decode cX10_readImage 424 = .ok (.iconst 5, 1) := by decide +kernel
theorem dX10_readImage_425 : decode cX10_readImage 425 = .ok (.iadd, 1) := by decide +kernel
theorem dX10_readImage_426 : decode cX10_readImage 426 = .ok (.iload_n 2, 1) := by decide +kernel
theorem dX10_readImage_427 : decode cX10_readImage 427 = .ok (.iconst 1, 1) := by decide +kernel
theorem dX10_readImage_428 : decode cX10_readImage 428 = .ok (.iadd, 1) := by decide +kernel
theorem dX10_readImage_429 : decode cX10_readImage 429 = .ok (.iastore, 1) := by decide +kernel
theorem dX10_readImage_430 : decode cX10_readImage 430 = .ok (.return_, 1) := by decide +kernel
theorem dX10_gather_0 : decode cX10_gather 0 = .ok (.aload_n 0, 1) := by decide +kernel
theorem dX10_gather_1 : decode cX10_gather 1 = .ok (.iconst 0, 1) := by decide +kernel
theorem dX10_gather_2 : decode cX10_gather 2 = .ok (.putfield 174, 3) := by decide +kernel
theorem dX10_gather_5 : decode cX10_gather 5 = .ok (.aload_n 0, 1) := by decide +kernel
theorem dX10_gather_6 : decode cX10_gather 6 = .ok (.invokevirtual 100, 3) := by decide +kernel
theorem dX10_gather_9 : decode cX10_gather 9 = .ok (.istore_n 1, 1) := by decide +kernel
theorem dX10_gather_10 : decode cX10_gather 10 = .ok (.aload_n 0, 1) := by decide +kernel
theorem dX10_gather_11 : decode cX10_gather 11 = .ok (.invokevirtual 86, 3) := by decide +kernel
theorem dX10_gather_14 : decode cX10_gather 14 = .ok (.ifCond .eq 59, 3) := by decide +kernel
theorem dX10_gather_17 : decode cX10_gather 17 = .ok (.iload_n 1, 1) := by decide +kernel
theorem dX10_gather_18 : decode cX10_gather 18 = .ok (.ifCond .le 55, 3) := by decide +kernel
theorem dX10_gather_21 : decode cX10_gather 21 = .ok (.iconst 0, 1) := by decide +kernel
theorem dX10_gather_22 : decode cX10_gather 22 = .ok (.istore_n 2, 1) := by decide +kernel
theorem dX10_gather_23 : decode cX10_gather 23 = .ok (.iload_n 2, 1) := by decide +kernel
theorem dX10_gather_24 : decode cX10_gather 24 = .ok (.iload_n 1, 1) := by decide +kernel
theorem dX10_gather_25 : decode cX10_gather 25 = .ok (.if_icmp .ge 40, 3) := by decide +kernel
theorem dX10_gather_28 : decode cX10_gather 28 = .ok (.aload_n 0, 1) := by decide +kernel
theorem dX10_gather_29 : decode cX10_gather 29 = .ok (.invokevirtual 86, 3) := by decide +kernel
theorem dX10_gather_32 : decode cX10_gather 32 = .ok (.ifCond .eq 33, 3) := by decide +kernel
theorem dX10_gather_35 : decode cX10_gather 35 = .ok (.aload_n 0, 1) := by decide +kernel
theorem dX10_gather_36 : decode cX10_gather 36 = .ok (.getfield 41, 3) := by decide +kernel
theorem dX10_gather_39 : decode cX10_gather 39 = .ok (.aload_n 0, 1) := by decide +kernel
theorem dX10_gather_40 : decode cX10_gather 40 = .ok (.getfield 174, 3) := by decide +kernel
theorem dX10_gather_43 : decode cX10_gather 43 = .ok (.aload_n 0, 1) := by decide +kernel
theorem dX10_gather_44 : decode cX10_gather 44 = .ok (.invokevirtual 100, 3) := by decide +kernel
theorem dX10_gather_47 : decode cX10_gather 47 = .ok (.i2b, 1) := by decide +kernel
theorem dX10_gather_48 : decode cX10_gather 48 = .ok (.bastore, 1) := by decide +kernel
theorem dX10_gather_49 : decode cX10_gather 49 = .ok (.aload_n 0, 1) := by decide +kernel
theorem dX10_gather_50 : decode cX10_gather 50 = .ok (.dup, 1) := by decide +kernel
theorem dX10_gather_51 : decode cX10_gather 51 = .ok (.getfield 174, 3) := by decide +kernel
theorem dX10_gather_54 : decode cX10_gather 54 = .ok (.iconst 1, 1) := by decide +kernel
theorem dX10_gather_55 : decode cX10_gather 55 = .ok (.iadd, 1) := by decide +kernel
theorem dX10_gather_56 : decode cX10_gather 56 = .ok (.putfield 174, 3) := by decide +kernel
theorem dX10_gather_59 : decode cX10_gather 59 = .ok (.iinc 2 1, 3) := by decide +kernel
theorem dX10_gather_62 : decode cX10_gather 62 = .ok (.goto (-39), 3) := by decide +kernel
theorem dX10_gather_65 : decode cX10_gather 65 = .ok (.aload_n 0, 1) := by decide +kernel
theorem dX10_gather_66 : decode cX10_gather 66 = .ok (.invokevirtual 100, 3) := by decide +kernel
theorem dX10_gather_69 : decode cX10_gather 69 = .ok (.istore_n 1, 1) := by decide +kernel
theorem dX10_gather_70 : decode cX10_gather 70 = .ok (.goto (-60), 3) := by decide +kernel
theorem dX10_gather_73 : decode cX10_gather 73 = .ok (.return_, 1) := by decide +kernel
theorem dX10_restart_0 : decode cX10_restart 0 = .ok (.aload_n 0, 1) := by decide +kernel
theorem dX10_restart_1 : decode cX10_restart 1 = .ok (.iload_n 1, 1) := by decide +kernel
theorem dX10_restart_2 : decode cX10_restart 2 = .ok (.iconst 1, 1) := by decide +kernel
theorem dX10_restart_3 : decode cX10_restart 3 = .ok (.iadd, 1) := by decide +kernel
theorem dX10_restart_4 : decode cX10_restart 4 = .ok (.putfield 177, 3) := by decide +kernel
theorem dX10_restart_7 : decode cX10_restart 7 = .ok (.aload_n 0, 1) := by decide +kernel
theorem dX10_restart_8 : decode cX10_restart 8 = .ok (.iconst 1, 1) := by decide +kernel
theorem dX10_restart_9 : decode cX10_restart 9 = .ok (.iload_n 1, 1) := by decide +kernel
theorem dX10_restart_10 : decode cX10_restart 10 = .ok (.ishl, 1) := by decide +kernel
theorem dX10_restart_11 : decode cX10_restart 11 = .ok (.iconst 2, 1) := by decide +kernel
theorem dX10_restart_12 : decode cX10_restart 12 = .ok (.iadd, 1) := by decide +kernel
theorem dX10_restart_13 : decode cX10_restart 13 = .ok (.putfield 180, 3) := by decide +kernel
theorem dX10_restart_16 : decode cX10_restart 16 = .ok (.aload_n 0, 1) := by decide +kernel
theorem dX10_restart_17 : decode cX10_restart 17 = .ok (.iconst (-1), 1) := by decide +kernel
theorem dX10_restart_18 : decode cX10_restart 18 = .ok (.putfield 183, 3) := by decide +kernel
theorem dX10_restart_21 : decode cX10_restart 21 = .ok (.return_, 1) := by decide +kernel
theorem dX10_alone_0 : decode cX10_alone 0 = .ok (.iconst 0, 1) := by decide +kernel
theorem dX10_alone_1 : decode cX10_alone 1 = .ok (.istore_n 2, 1) := by decide +kernel
theorem dX10_alone_2 : decode cX10_alone 2 = .ok (.iload_n 2, 1) := by decide +kernel
theorem dX10_alone_3 : decode cX10_alone 3 = .ok (.iconst 1, 1) := by decide +kernel
theorem dX10_alone_4 : decode cX10_alone 4 = .ok (.iload_n 1, 1) := by decide +kernel
theorem dX10_alone_5 : decode cX10_alone 5 = .ok (.ishl, 1) := by decide +kernel
theorem dX10_alone_6 : decode cX10_alone 6 = .ok (.if_icmp .ge 39, 3) := by decide +kernel
theorem dX10_alone_9 : decode cX10_alone 9 = .ok (.aload_n 0, 1) := by decide +kernel
theorem dX10_alone_10 : decode cX10_alone 10 = .ok (.getfield 44, 3) := by decide +kernel
theorem dX10_alone_13 : decode cX10_alone 13 = .ok (.iload_n 2, 1) := by decide +kernel
theorem dX10_alone_14 : decode cX10_alone 14 = .ok (.iconst (-1), 1) := by decide +kernel
theorem dX10_alone_15 : decode cX10_alone 15 = .ok (.sastore, 1) := by decide +kernel
theorem dX10_alone_16 : decode cX10_alone 16 = .ok (.aload_n 0, 1) := by decide +kernel
theorem dX10_alone_17 : decode cX10_alone 17 = .ok (.getfield 47, 3) := by decide +kernel
theorem dX10_alone_20 : decode cX10_alone 20 = .ok (.iload_n 2, 1) := by decide +kernel
theorem dX10_alone_21 : decode cX10_alone 21 = .ok (.iload_n 2, 1) := by decide +kernel
theorem dX10_alone_22 : decode cX10_alone 22 = .ok (.i2s, 1) := by decide +kernel
theorem dX10_alone_23 : decode cX10_alone 23 = .ok (.sastore, 1) := by decide +kernel
theorem dX10_alone_24 : decode cX10_alone 24 = .ok (.aload_n 0, 1) := by decide +kernel
theorem dX10_alone_25 : decode cX10_alone 25 = .ok (.getfield 50, 3) := by decide +kernel
theorem dX10_alone_28 : decode cX10_alone 28 = .ok (.iload_n 2, 1) := by decide +kernel
theorem dX10_alone_29 : decode cX10_alone 29 = .ok (.iload_n 2, 1) := by decide +kernel
theorem dX10_alone_30 : decode cX10_alone 30 = .ok (.i2s, 1) := by decide +kernel
theorem dX10_alone_31 : decode cX10_alone 31 = .ok (.sastore, 1) := by decide +kernel
theorem dX10_alone_32 : decode cX10_alone 32 = .ok (.aload_n 0, 1) := by decide +kernel
theorem dX10_alone_33 : decode cX10_alone 33 = .ok (.getfield 53, 3) := by decide +kernel
theorem dX10_alone_36 : decode cX10_alone 36 = .ok (.iload_n 2, 1) := by decide +kernel
theorem dX10_alone_37 : decode cX10_alone 37 = .ok (.iconst 1, 1) := by decide +kernel
theorem dX10_alone_38 : decode cX10_alone 38 = .ok (.sastore, 1) := by decide +kernel
theorem dX10_alone_39 : decode cX10_alone 39 = .ok (.iinc 2 1, 3) := by decide +kernel
theorem dX10_alone_42 : decode cX10_alone 42 = .ok (.goto (-40), 3) := by decide +kernel
theorem dX10_alone_45 : decode cX10_alone 45 = .ok (.return_, 1) := by decide +kernel
theorem dX10_tell_0 : decode cX10_tell 0 = .ok (.aload_n 0, 1) := by decide +kernel
theorem dX10_tell_1 : decode cX10_tell 1 = .ok (.getfield 44, 3) := by decide +kernel
theorem dX10_tell_4 : decode cX10_tell 4 = .ok (.aload_n 0, 1) := by decide +kernel
theorem dX10_tell_5 : decode cX10_tell 5 = .ok (.getfield 180, 3) := by decide +kernel
theorem dX10_tell_8 : decode cX10_tell 8 = .ok (.aload_n 0, 1) := by decide +kernel
theorem dX10_tell_9 : decode cX10_tell 9 = .ok (.getfield 183, 3) := by decide +kernel
theorem dX10_tell_12 : decode cX10_tell 12 = .ok (.i2s, 1) := by decide +kernel
theorem dX10_tell_13 : decode cX10_tell 13 = .ok (.sastore, 1) := by decide +kernel
theorem dX10_tell_14 : decode cX10_tell 14 = .ok (.aload_n 0, 1) := by decide +kernel
theorem dX10_tell_15 : decode cX10_tell 15 = .ok (.getfield 47, 3) := by decide +kernel
theorem dX10_tell_18 : decode cX10_tell 18 = .ok (.aload_n 0, 1) := by decide +kernel
theorem dX10_tell_19 : decode cX10_tell 19 = .ok (.getfield 180, 3) := by decide +kernel
theorem dX10_tell_22 : decode cX10_tell 22 = .ok (.iload_n 1, 1) := by decide +kernel
theorem dX10_tell_23 : decode cX10_tell 23 = .ok (.i2s, 1) := by decide +kernel
theorem dX10_tell_24 : decode cX10_tell 24 = .ok (.sastore, 1) := by decide +kernel
theorem dX10_tell_25 : decode cX10_tell 25 = .ok (.aload_n 0, 1) := by decide +kernel
theorem dX10_tell_26 : decode cX10_tell 26 = .ok (.getfield 50, 3) := by decide +kernel
theorem dX10_tell_29 : decode cX10_tell 29 = .ok (.aload_n 0, 1) := by decide +kernel
theorem dX10_tell_30 : decode cX10_tell 30 = .ok (.getfield 180, 3) := by decide +kernel
theorem dX10_tell_33 : decode cX10_tell 33 = .ok (.aload_n 0, 1) := by decide +kernel
theorem dX10_tell_34 : decode cX10_tell 34 = .ok (.getfield 50, 3) := by decide +kernel
theorem dX10_tell_37 : decode cX10_tell 37 = .ok (.aload_n 0, 1) := by decide +kernel
theorem dX10_tell_38 : decode cX10_tell 38 = .ok (.getfield 183, 3) := by decide +kernel
theorem dX10_tell_41 : decode cX10_tell 41 = .ok (.saload, 1) := by decide +kernel
theorem dX10_tell_42 : decode cX10_tell 42 = .ok (.sastore, 1) := by decide +kernel
theorem dX10_tell_43 : decode cX10_tell 43 = .ok (.aload_n 0, 1) := by decide +kernel
theorem dX10_tell_44 : decode cX10_tell 44 = .ok (.getfield 53, 3) := by decide +kernel
theorem dX10_tell_47 : decode cX10_tell 47 = .ok (.aload_n 0, 1) := by decide +kernel
theorem dX10_tell_48 : decode cX10_tell 48 = .ok (.getfield 180, 3) := by decide +kernel
theorem dX10_tell_51 : decode cX10_tell 51 = .ok (.aload_n 0, 1) := by decide +kernel
theorem dX10_tell_52 : decode cX10_tell 52 = .ok (.getfield 53, 3) := by decide +kernel
theorem dX10_tell_55 : decode cX10_tell 55 = .ok (.aload_n 0, 1) := by decide +kernel
theorem dX10_tell_56 : decode cX10_tell 56 = .ok (.getfield 183, 3) := by decide +kernel
theorem dX10_tell_59 : decode cX10_tell 59 = .ok (.saload, 1) := by decide +kernel
theorem dX10_tell_60 : decode cX10_tell 60 = .ok (.iconst 1, 1) := by decide +kernel
theorem dX10_tell_61 : decode cX10_tell 61 = .ok (.iadd, 1) := by decide +kernel
theorem dX10_tell_62 : decode cX10_tell 62 = .ok (.i2s, 1) := by decide +kernel
theorem dX10_tell_63 : decode cX10_tell 63 = .ok (.sastore, 1) := by decide +kernel
theorem dX10_tell_64 : decode cX10_tell 64 = .ok (.aload_n 0, 1) := by decide +kernel
theorem dX10_tell_65 : decode cX10_tell 65 = .ok (.dup, 1) := by decide +kernel
theorem dX10_tell_66 : decode cX10_tell 66 = .ok (.getfield 180, 3) := by decide +kernel
theorem dX10_tell_69 : decode cX10_tell 69 = .ok (.iconst 1, 1) := by decide +kernel
theorem dX10_tell_70 : decode cX10_tell 70 = .ok (.iadd, 1) := by decide +kernel
theorem dX10_tell_71 : decode cX10_tell 71 = .ok (.putfield 180, 3) := by decide +kernel
theorem dX10_tell_74 : decode cX10_tell 74 = .ok (.aload_n 0, 1) := by decide +kernel
theorem dX10_tell_75 : decode cX10_tell 75 = .ok (.getfield 180, 3) := by decide +kernel
theorem dX10_tell_78 : decode cX10_tell 78 = .ok (.iconst 1, 1) := by decide +kernel
theorem dX10_tell_79 : decode cX10_tell 79 = .ok (.aload_n 0, 1) := by decide +kernel
theorem dX10_tell_80 : decode cX10_tell 80 = .ok (.getfield 177, 3) := by decide +kernel
theorem dX10_tell_83 : decode cX10_tell 83 = .ok (.ishl, 1) := by decide +kernel
theorem dX10_tell_84 : decode cX10_tell 84 = .ok (.if_icmp .ne 22, 3) := by decide +kernel
theorem dX10_tell_87 : decode cX10_tell 87 = .ok (.aload_n 0, 1) := by decide +kernel
theorem dX10_tell_88 : decode cX10_tell 88 = .ok (.getfield 177, 3) := by decide +kernel
theorem dX10_tell_91 : decode cX10_tell 91 = .ok (.bipush 12, 2) := by decide +kernel
theorem dX10_tell_93 : decode cX10_tell 93 = .ok (.if_icmp .ge 13, 3) := by decide +kernel
theorem dX10_tell_96 : decode cX10_tell 96 = .ok (.aload_n 0, 1) := by decide +kernel
theorem dX10_tell_97 : decode cX10_tell 97 = .ok (.dup, 1) := by decide +kernel
theorem dX10_tell_98 : decode cX10_tell 98 = .ok (.getfield 177, 3) := by decide +kernel
theorem dX10_tell_101 : decode cX10_tell 101 = .ok (.iconst 1, 1) := by decide +kernel
theorem dX10_tell_102 : decode cX10_tell 102 = .ok (.iadd, 1) := by decide +kernel
theorem dX10_tell_103 : decode cX10_tell 103 = .ok (.putfield 177, 3) := by decide +kernel
theorem dX10_tell_106 : decode cX10_tell 106 = .ok (.return_, 1) := by decide +kernel
theorem dX10_code_0 : decode cX10_code 0 = .ok (.aload_n 0, 1) := by decide +kernel
theorem dX10_code_1 : decode cX10_code 1 = .ok (.getfield 186, 3) := by decide +kernel
theorem dX10_code_4 : decode cX10_code 4 = .ok (.aload_n 0, 1) := by decide +kernel
theorem dX10_code_5 : decode cX10_code 5 = .ok (.getfield 177, 3) := by decide +kernel
theorem dX10_code_8 : decode cX10_code 8 = .ok (.iadd, 1) := by decide +kernel
theorem dX10_code_9 : decode cX10_code 9 = .ok (.bipush 8, 2) := by decide +kernel
theorem dX10_code_11 : decode cX10_code 11 = .ok (.aload_n 0, 1) := by decide +kernel
theorem dX10_code_12 : decode cX10_code 12 = .ok (.getfield 174, 3) := by decide +kernel
theorem dX10_code_15 : decode cX10_code 15 = .ok (.imul, 1) := by decide +kernel
theorem dX10_code_16 : decode cX10_code 16 = .ok (.if_icmp .le 5, 3) := by decide +kernel
theorem dX10_code_19 : decode cX10_code 19 = .ok (.iconst (-1), 1) := by decide +kernel
theorem dX10_code_20 : decode cX10_code 20 = .ok (.ireturn, 1) := by decide +kernel
theorem dX10_code_21 : decode cX10_code 21 = .ok (.iconst 0, 1) := by decide +kernel
theorem dX10_code_22 : decode cX10_code 22 = .ok (.istore_n 1, 1) := by decide +kernel
theorem dX10_code_23 : decode cX10_code 23 = .ok (.iconst 0, 1) := by decide +kernel
theorem dX10_code_24 : decode cX10_code 24 = .ok (.istore_n 2, 1) := by decide +kernel
theorem dX10_code_25 : decode cX10_code 25 = .ok (.iload_n 2, 1) := by decide +kernel
theorem dX10_code_26 : decode cX10_code 26 = .ok (.aload_n 0, 1) := by decide +kernel
theorem dX10_code_27 : decode cX10_code 27 = .ok (.getfield 177, 3) := by decide +kernel
theorem dX10_code_30 : decode cX10_code 30 = .ok (.if_icmp .ge 39, 3) := by decide +kernel
theorem dX10_code_33 : decode cX10_code 33 = .ok (.iload_n 1, 1) := by decide +kernel
theorem dX10_code_34 : decode cX10_code 34 = .ok (.aload_n 0, 1) := by decide +kernel
theorem dX10_code_35 : decode cX10_code 35 = .ok (.getfield 41, 3) := by decide +kernel
theorem dX10_code_38 : decode cX10_code 38 = .ok (.aload_n 0, 1) := by decide +kernel
theorem dX10_code_39 : decode cX10_code 39 = .ok (.getfield 186, 3) := by decide +kernel
theorem dX10_code_42 : decode cX10_code 42 = .ok (.iload_n 2, 1) := by decide +kernel
theorem dX10_code_43 : decode cX10_code 43 = .ok (.iadd, 1) := by decide +kernel
theorem dX10_code_44 : decode cX10_code 44 = .ok (.iconst 3, 1) := by decide +kernel
theorem dX10_code_45 : decode cX10_code 45 = .ok (.ishr, 1) := by decide +kernel
theorem dX10_code_46 : decode cX10_code 46 = .ok (.baload, 1) := by decide +kernel
theorem dX10_code_47 : decode cX10_code 47 = .ok (.aload_n 0, 1) := by decide +kernel
theorem dX10_code_48 : decode cX10_code 48 = .ok (.getfield 186, 3) := by decide +kernel
theorem dX10_code_51 : decode cX10_code 51 = .ok (.iload_n 2, 1) := by decide +kernel
theorem dX10_code_52 : decode cX10_code 52 = .ok (.iadd, 1) := by decide +kernel
theorem dX10_code_53 : decode cX10_code 53 = .ok (.bipush 7, 2) := by decide +kernel
theorem dX10_code_55 : decode cX10_code 55 = .ok (.iand, 1) := by decide +kernel
theorem dX10_code_56 : decode cX10_code 56 = .ok (.ishr, 1) := by decide +kernel
theorem dX10_code_57 : decode cX10_code 57 = .ok (.iconst 1, 1) := by decide +kernel
theorem dX10_code_58 : decode cX10_code 58 = .ok (.iand, 1) := by decide +kernel
theorem dX10_code_59 : decode cX10_code 59 = .ok (.iload_n 2, 1) := by decide +kernel
theorem dX10_code_60 : decode cX10_code 60 = .ok (.ishl, 1) := by decide +kernel
theorem dX10_code_61 : decode cX10_code 61 = .ok (.ior, 1) := by decide +kernel
theorem dX10_code_62 : decode cX10_code 62 = .ok (.istore_n 1, 1) := by decide +kernel
theorem dX10_code_63 : decode cX10_code 63 = .ok (.iinc 2 1, 3) := by decide +kernel
theorem dX10_code_66 : decode cX10_code 66 = .ok (.goto (-41), 3) := by decide +kernel
theorem dX10_code_69 : decode cX10_code 69 = .ok (.aload_n 0, 1) := by decide +kernel
theorem dX10_code_70 : decode cX10_code 70 = .ok (.dup, 1) := by decide +kernel
theorem dX10_code_71 : decode cX10_code 71 = .ok (.getfield 186, 3) := by decide +kernel
theorem dX10_code_74 : decode cX10_code 74 = .ok (.aload_n 0, 1) := by decide +kernel
theorem dX10_code_75 : decode cX10_code 75 = .ok (.getfield 177, 3) := by decide +kernel
theorem dX10_code_78 : decode cX10_code 78 = .ok (.iadd, 1) := by decide +kernel
theorem dX10_code_79 : decode cX10_code 79 = .ok (.putfield 186, 3) := by decide +kernel
theorem dX10_code_82 : decode cX10_code 82 = .ok (.iload_n 1, 1) := by decide +kernel
theorem dX10_code_83 : decode cX10_code 83 = .ok (.ireturn, 1) := by decide +kernel
theorem dX10_codes_0 : decode cX10_codes 0 = .ok (.iconst 1, 1) := by decide +kernel
theorem dX10_codes_1 : decode cX10_codes 1 = .ok (.iload_n 1, 1) := by decide +kernel
theorem dX10_codes_2 : decode cX10_codes 2 = .ok (.ishl, 1) := by decide +kernel
theorem dX10_codes_3 : decode cX10_codes 3 = .ok (.istore_n 3, 1) := by decide +kernel
theorem dX10_codes_4 : decode cX10_codes 4 = .ok (.aload_n 0, 1) := by decide +kernel
theorem dX10_codes_5 : decode cX10_codes 5 = .ok (.aload_n 0, 1) := by decide +kernel
theorem dX10_codes_6 : decode cX10_codes 6 = .ok (.getfield 103, 3) := by decide +kernel
theorem dX10_codes_9 : decode cX10_codes 9 = .ok (.iload_n 2, 1) := by decide +kernel
theorem dX10_codes_10 : decode cX10_codes 10 = .ok (.invokevirtual 189, 3) := by decide +kernel
theorem dX10_codes_13 : decode cX10_codes 13 = .ok (.istore 4, 2) := by decide +kernel
theorem dX10_codes_15 : decode cX10_codes 15 = .ok (.aload_n 0, 1) := by decide +kernel
theorem dX10_codes_16 : decode cX10_codes 16 = .ok (.aload_n 0, 1) := by decide +kernel
theorem dX10_codes_17 : decode cX10_codes 17 = .ok (.getfield 103, 3) := by decide +kernel
theorem dX10_codes_20 : decode cX10_codes 20 = .ok (.iload_n 2, 1) := by decide +kernel
theorem dX10_codes_21 : decode cX10_codes 21 = .ok (.invokevirtual 193, 3) := by decide +kernel
theorem dX10_codes_24 : decode cX10_codes 24 = .ok (.istore 5, 2) := by decide +kernel
theorem dX10_codes_26 : decode cX10_codes 26 = .ok (.aload_n 0, 1) := by decide +kernel
theorem dX10_codes_27 : decode cX10_codes 27 = .ok (.iload_n 1, 1) := by decide +kernel
theorem dX10_codes_28 : decode cX10_codes 28 = .ok (.invokevirtual 196, 3) := by decide +kernel
theorem dX10_codes_31 : decode cX10_codes 31 = .ok (.aload_n 0, 1) := by decide +kernel
theorem dX10_codes_32 : decode cX10_codes 32 = .ok (.iload_n 1, 1) := by decide +kernel
theorem dX10_codes_33 : decode cX10_codes 33 = .ok (.invokevirtual 199, 3) := by decide +kernel
theorem dX10_codes_36 : decode cX10_codes 36 = .ok (.aload_n 0, 1) := by decide +kernel
theorem dX10_codes_37 : decode cX10_codes 37 = .ok (.iconst 0, 1) := by decide +kernel
theorem dX10_codes_38 : decode cX10_codes 38 = .ok (.putfield 186, 3) := by decide +kernel
theorem dX10_codes_41 : decode cX10_codes 41 = .ok (.aload_n 0, 1) := by decide +kernel
theorem dX10_codes_42 : decode cX10_codes 42 = .ok (.invokevirtual 202, 3) := by decide +kernel
theorem dX10_codes_45 : decode cX10_codes 45 = .ok (.iload_n 3, 1) := by decide +kernel
theorem dX10_codes_46 : decode cX10_codes 46 = .ok (.if_icmp .eq 5, 3) := by decide +kernel
theorem dX10_codes_49 : decode cX10_codes 49 = .ok (.iconst 0, 1) := by decide +kernel
theorem dX10_codes_50 : decode cX10_codes 50 = .ok (.ireturn, 1) := by decide +kernel
theorem dX10_codes_51 : decode cX10_codes 51 = .ok (.iconst 0, 1) := by decide +kernel
theorem dX10_codes_52 : decode cX10_codes 52 = .ok (.istore 6, 2) := by decide +kernel
theorem dX10_codes_54 : decode cX10_codes 54 = .ok (.aload_n 0, 1) := by decide +kernel
theorem dX10_codes_55 : decode cX10_codes 55 = .ok (.invokevirtual 202, 3) := by decide +kernel
theorem dX10_codes_58 : decode cX10_codes 58 = .ok (.istore 7, 2) := by decide +kernel
theorem dX10_codes_60 : decode cX10_codes 60 = .ok (.iload 7, 2) := by decide +kernel
theorem dX10_codes_62 : decode cX10_codes 62 = .ok (.ifCond .ge 5, 3) := by decide +kernel
theorem dX10_codes_65 : decode cX10_codes 65 = .ok (.iconst 0, 1) := by decide +kernel
theorem dX10_codes_66 : decode cX10_codes 66 = .ok (.ireturn, 1) := by decide +kernel
theorem dX10_codes_67 : decode cX10_codes 67 = .ok (.iload 7, 2) := by decide +kernel
theorem dX10_codes_69 : decode cX10_codes 69 = .ok (.iload_n 3, 1) := by decide +kernel
theorem dX10_codes_70 : decode cX10_codes 70 = .ok (.iconst 1, 1) := by decide +kernel
theorem dX10_codes_71 : decode cX10_codes 71 = .ok (.iadd, 1) := by decide +kernel
theorem dX10_codes_72 : decode cX10_codes 72 = .ok (.if_icmp .ne 32, 3) := by decide +kernel
theorem dX10_codes_75 : decode cX10_codes 75 = .ok (.iload 6, 2) := by decide +kernel
end
section
theorem dX10_codes_77 : decode cX10_codes 77 = .ok (.iload 4, 2) := by decide +kernel
theorem dX10_codes_79 : decode cX10_codes 79 = .ok (.if_icmp .ne 23, 3) := by decide +kernel
theorem dX10_codes_82 : decode cX10_codes 82 = .ok (.aload_n 0, 1) := by decide +kernel
theorem dX10_codes_83 : decode cX10_codes 83 = .ok (.getfield 186, 3) := by decide +kernel
theorem dX10_codes_86 : decode cX10_codes 86 = .ok (.bipush 7, 2) := by decide +kernel
theorem dX10_codes_88 : decode cX10_codes 88 = .ok (.iadd, 1) := by decide +kernel
theorem dX10_codes_89 : decode cX10_codes 89 = .ok (.iconst 3, 1) := by decide +kernel
theorem dX10_codes_90 : decode cX10_codes 90 = .ok (.ishr, 1) := by decide +kernel
theorem dX10_codes_91 : decode cX10_codes 91 = .ok (.aload_n 0, 1) := by decide +kernel
theorem dX10_codes_92 : decode cX10_codes 92 = .ok (.getfield 174, 3) := by decide +kernel
theorem dX10_codes_95 : decode cX10_codes 95 = .ok (.if_icmp .ne 7, 3) := by decide +kernel
theorem dX10_codes_98 : decode cX10_codes 98 = .ok (.iconst 1, 1) := by decide +kernel
theorem dX10_codes_99 : decode cX10_codes 99 = .ok (.goto 4, 3) := by decide +kernel
theorem dX10_codes_102 : decode cX10_codes 102 = .ok (.iconst 0, 1) := by decide +kernel
theorem dX10_codes_103 : decode cX10_codes 103 = .ok (.ireturn, 1) := by decide +kernel
theorem dX10_codes_104 : decode cX10_codes 104 = .ok (.iload 7, 2) := by decide +kernel
theorem dX10_codes_106 : decode cX10_codes 106 = .ok (.iload_n 3, 1) := by decide +kernel
theorem dX10_codes_107 : decode cX10_codes 107 = .ok (.if_icmp .ne 11, 3) := by decide +kernel
theorem dX10_codes_110 : decode cX10_codes 110 = .ok (.aload_n 0, 1) := by decide +kernel
theorem dX10_codes_111 : decode cX10_codes 111 = .ok (.iload_n 1, 1) := by decide +kernel
theorem dX10_codes_112 : decode cX10_codes 112 = .ok (.invokevirtual 199, 3) := by decide +kernel
theorem dX10_codes_115 : decode cX10_codes 115 = .ok (.goto (-61), 3) := by decide +kernel
theorem dX10_codes_118 : decode cX10_codes 118 = .ok (.iload 7, 2) := by decide +kernel
theorem dX10_codes_120 : decode cX10_codes 120 = .ok (.aload_n 0, 1) := by decide +kernel
theorem dX10_codes_121 : decode cX10_codes 121 = .ok (.getfield 180, 3) := by decide +kernel
theorem dX10_codes_124 : decode cX10_codes 124 = .ok (.if_icmp .ne 24, 3) := by decide +kernel
theorem dX10_codes_127 : decode cX10_codes 127 = .ok (.aload_n 0, 1) := by decide +kernel
theorem dX10_codes_128 : decode cX10_codes 128 = .ok (.getfield 183, 3) := by decide +kernel
theorem dX10_codes_131 : decode cX10_codes 131 = .ok (.ifCond .lt 17, 3) := by decide +kernel
theorem dX10_codes_134 : decode cX10_codes 134 = .ok (.aload_n 0, 1) := by decide +kernel
theorem dX10_codes_135 : decode cX10_codes 135 = .ok (.getfield 180, 3) := by decide +kernel
theorem dX10_codes_138 : decode cX10_codes 138 = .ok (.sipush 4096, 3) := by decide +kernel
theorem dX10_codes_141 : decode cX10_codes 141 = .ok (.if_icmp .ge 7, 3) := by decide +kernel
theorem dX10_codes_144 : decode cX10_codes 144 = .ok (.iconst 1, 1) := by decide +kernel
theorem dX10_codes_145 : decode cX10_codes 145 = .ok (.goto 4, 3) := by decide +kernel
theorem dX10_codes_148 : decode cX10_codes 148 = .ok (.iconst 0, 1) := by decide +kernel
theorem dX10_codes_149 : decode cX10_codes 149 = .ok (.istore 8, 2) := by decide +kernel
theorem dX10_codes_151 : decode cX10_codes 151 = .ok (.iload 7, 2) := by decide +kernel
theorem dX10_codes_153 : decode cX10_codes 153 = .ok (.aload_n 0, 1) := by decide +kernel
theorem dX10_codes_154 : decode cX10_codes 154 = .ok (.getfield 180, 3) := by decide +kernel
theorem dX10_codes_157 : decode cX10_codes 157 = .ok (.if_icmp .lt 10, 3) := by decide +kernel
theorem dX10_codes_160 : decode cX10_codes 160 = .ok (.iload 8, 2) := by decide +kernel
theorem dX10_codes_162 : decode cX10_codes 162 = .ok (.ifCond .ne 5, 3) := by decide +kernel
theorem dX10_codes_165 : decode cX10_codes 165 = .ok (.iconst 0, 1) := by decide +kernel
theorem dX10_codes_166 : decode cX10_codes 166 = .ok (.ireturn, 1) := by decide +kernel
theorem dX10_codes_167 : decode cX10_codes 167 = .ok (.iload 8, 2) := by decide +kernel
theorem dX10_codes_169 : decode cX10_codes 169 = .ok (.ifCond .eq 17, 3) := by decide +kernel
theorem dX10_codes_172 : decode cX10_codes 172 = .ok (.aload_n 0, 1) := by decide +kernel
theorem dX10_codes_173 : decode cX10_codes 173 = .ok (.getfield 53, 3) := by decide +kernel
theorem dX10_codes_176 : decode cX10_codes 176 = .ok (.aload_n 0, 1) := by decide +kernel
theorem dX10_codes_177 : decode cX10_codes 177 = .ok (.getfield 183, 3) := by decide +kernel
theorem dX10_codes_180 : decode cX10_codes 180 = .ok (.saload, 1) := by decide +kernel
theorem dX10_codes_181 : decode cX10_codes 181 = .ok (.iconst 1, 1) := by decide +kernel
theorem dX10_codes_182 : decode cX10_codes 182 = .ok (.iadd, 1) := by decide +kernel
theorem dX10_codes_183 : decode cX10_codes 183 = .ok (.goto 10, 3) := by decide +kernel
theorem dX10_codes_186 : decode cX10_codes 186 = .ok (.aload_n 0, 1) := by decide +kernel
theorem dX10_codes_187 : decode cX10_codes 187 = .ok (.getfield 53, 3) := by decide +kernel
theorem dX10_codes_190 : decode cX10_codes 190 = .ok (.iload 7, 2) := by decide +kernel
theorem dX10_codes_192 : decode cX10_codes 192 = .ok (.saload, 1) := by decide +kernel
theorem dX10_codes_193 : decode cX10_codes 193 = .ok (.istore 9, 2) := by decide +kernel
theorem dX10_codes_195 : decode cX10_codes 195 = .ok (.iload 6, 2) := by decide +kernel
theorem dX10_codes_197 : decode cX10_codes 197 = .ok (.iload 9, 2) := by decide +kernel
theorem dX10_codes_199 : decode cX10_codes 199 = .ok (.iadd, 1) := by decide +kernel
theorem dX10_codes_200 : decode cX10_codes 200 = .ok (.iload 4, 2) := by decide +kernel
theorem dX10_codes_202 : decode cX10_codes 202 = .ok (.if_icmp .gt 33, 3) := by decide +kernel
theorem dX10_codes_205 : decode cX10_codes 205 = .ok (.aload_n 0, 1) := by decide +kernel
theorem dX10_codes_206 : decode cX10_codes 206 = .ok (.iload 8, 2) := by decide +kernel
theorem dX10_codes_208 : decode cX10_codes 208 = .ok (.ifCond .eq 10, 3) := by decide +kernel
theorem dX10_codes_211 : decode cX10_codes 211 = .ok (.aload_n 0, 1) := by decide +kernel
theorem dX10_codes_212 : decode cX10_codes 212 = .ok (.getfield 183, 3) := by decide +kernel
theorem dX10_codes_215 : decode cX10_codes 215 = .ok (.goto 5, 3) := by decide +kernel
theorem dX10_codes_218 : decode cX10_codes 218 = .ok (.iload 7, 2) := by decide +kernel
theorem dX10_codes_220 : decode cX10_codes 220 = .ok (.iload 8, 2) := by decide +kernel
theorem dX10_codes_222 : decode cX10_codes 222 = .ok (.iload_n 2, 1) := by decide +kernel
theorem dX10_codes_223 : decode cX10_codes 223 = .ok (.iload 6, 2) := by decide +kernel
theorem dX10_codes_225 : decode cX10_codes 225 = .ok (.iload 9, 2) := by decide +kernel
theorem dX10_codes_227 : decode cX10_codes 227 = .ok (.iload 5, 2) := by decide +kernel
theorem dX10_codes_229 : decode cX10_codes 229 = .ok (.invokevirtual 205, 3) := by decide +kernel
theorem dX10_codes_232 : decode cX10_codes 232 = .ok (.ifCond .ne 5, 3) := by decide +kernel
theorem dX10_codes_235 : decode cX10_codes 235 = .ok (.iconst 0, 1) := by decide +kernel
theorem dX10_codes_236 : decode cX10_codes 236 = .ok (.ireturn, 1) := by decide +kernel
theorem dX10_codes_237 : decode cX10_codes 237 = .ok (.iload 6, 2) := by decide +kernel
theorem dX10_codes_239 : decode cX10_codes 239 = .ok (.iload 9, 2) := by decide +kernel
theorem dX10_codes_241 : decode cX10_codes 241 = .ok (.iadd, 1) := by decide +kernel
theorem dX10_codes_242 : decode cX10_codes 242 = .ok (.istore 6, 2) := by decide +kernel
theorem dX10_codes_244 : decode cX10_codes 244 = .ok (.iload 8, 2) := by decide +kernel
theorem dX10_codes_246 : decode cX10_codes 246 = .ok (.ifCond .eq 15, 3) := by decide +kernel
theorem dX10_codes_249 : decode cX10_codes 249 = .ok (.aload_n 0, 1) := by decide +kernel
theorem dX10_codes_250 : decode cX10_codes 250 = .ok (.getfield 50, 3) := by decide +kernel
theorem dX10_codes_253 : decode cX10_codes 253 = .ok (.aload_n 0, 1) := by decide +kernel
theorem dX10_codes_254 : decode cX10_codes 254 = .ok (.getfield 183, 3) := by decide +kernel
theorem dX10_codes_257 : decode cX10_codes 257 = .ok (.saload, 1) := by decide +kernel
theorem dX10_codes_258 : decode cX10_codes 258 = .ok (.goto 10, 3) := by decide +kernel
theorem dX10_codes_261 : decode cX10_codes 261 = .ok (.aload_n 0, 1) := by decide +kernel
theorem dX10_codes_262 : decode cX10_codes 262 = .ok (.getfield 50, 3) := by decide +kernel
theorem dX10_codes_265 : decode cX10_codes 265 = .ok (.iload 7, 2) := by decide +kernel
theorem dX10_codes_267 : decode cX10_codes 267 = .ok (.saload, 1) := by decide +kernel
theorem dX10_codes_268 : decode cX10_codes 268 = .ok (.istore 10, 2) := by decide +kernel
theorem dX10_codes_270 : decode cX10_codes 270 = .ok (.aload_n 0, 1) := by decide +kernel
theorem dX10_codes_271 : decode cX10_codes 271 = .ok (.getfield 183, 3) := by decide +kernel
theorem dX10_codes_274 : decode cX10_codes 274 = .ok (.ifCond .lt 19, 3) := by decide +kernel
theorem dX10_codes_277 : decode cX10_codes 277 = .ok (.aload_n 0, 1) := by decide +kernel
theorem dX10_codes_278 : decode cX10_codes 278 = .ok (.getfield 180, 3) := by decide +kernel
theorem dX10_codes_281 : decode cX10_codes 281 = .ok (.sipush 4096, 3) := by decide +kernel
theorem dX10_codes_284 : decode cX10_codes 284 = .ok (.if_icmp .ge 9, 3) := by decide +kernel
theorem dX10_codes_287 : decode cX10_codes 287 = .ok (.aload_n 0, 1) := by decide +kernel
theorem dX10_codes_288 : decode cX10_codes 288 = .ok (.iload 10, 2) := by decide +kernel
theorem dX10_codes_290 : decode cX10_codes 290 = .ok (.invokevirtual 209, 3) := by decide +kernel
theorem dX10_codes_293 : decode cX10_codes 293 = .ok (.aload_n 0, 1) := by decide +kernel
theorem dX10_codes_294 : decode cX10_codes 294 = .ok (.iload 7, 2) := by decide +kernel
theorem dX10_codes_296 : decode cX10_codes 296 = .ok (.putfield 183, 3) := by decide +kernel
theorem dX10_codes_299 : decode cX10_codes 299 = .ok (.goto (-245), 3) := by decide +kernel
theorem dX10_put_0 : decode cX10_put 0 = .ok (.iload 4, 2) := by decide +kernel
theorem dX10_put_2 : decode cX10_put 2 = .ok (.iload 5, 2) := by decide +kernel
theorem dX10_put_4 : decode cX10_put 4 = .ok (.iadd, 1) := by decide +kernel
theorem dX10_put_5 : decode cX10_put 5 = .ok (.iconst 1, 1) := by decide +kernel
theorem dX10_put_6 : decode cX10_put 6 = .ok (.isub, 1) := by decide +kernel
theorem dX10_put_7 : decode cX10_put 7 = .ok (.istore 7, 2) := by decide +kernel
theorem dX10_put_9 : decode cX10_put 9 = .ok (.iload_n 2, 1) := by decide +kernel
theorem dX10_put_10 : decode cX10_put 10 = .ok (.ifCond .eq 45, 3) := by decide +kernel
theorem dX10_put_13 : decode cX10_put 13 = .ok (.aload_n 0, 1) := by decide +kernel
theorem dX10_put_14 : decode cX10_put 14 = .ok (.getfield 50, 3) := by decide +kernel
theorem dX10_put_17 : decode cX10_put 17 = .ok (.iload_n 1, 1) := by decide +kernel
theorem dX10_put_18 : decode cX10_put 18 = .ok (.saload, 1) := by decide +kernel
theorem dX10_put_19 : decode cX10_put 19 = .ok (.iload 6, 2) := by decide +kernel
theorem dX10_put_21 : decode cX10_put 21 = .ok (.if_icmp .lt 5, 3) := by decide +kernel
theorem dX10_put_24 : decode cX10_put 24 = .ok (.iconst 0, 1) := by decide +kernel
theorem dX10_put_25 : decode cX10_put 25 = .ok (.ireturn, 1) := by decide +kernel
theorem dX10_put_26 : decode cX10_put 26 = .ok (.aload_n 0, 1) := by decide +kernel
theorem dX10_put_27 : decode cX10_put 27 = .ok (.aload_n 0, 1) := by decide +kernel
theorem dX10_put_28 : decode cX10_put 28 = .ok (.getfield 103, 3) := by decide +kernel
theorem dX10_put_31 : decode cX10_put 31 = .ok (.iload_n 3, 1) := by decide +kernel
theorem dX10_put_32 : decode cX10_put 32 = .ok (.aload_n 0, 1) := by decide +kernel
theorem dX10_put_33 : decode cX10_put 33 = .ok (.aload_n 0, 1) := by decide +kernel
theorem dX10_put_34 : decode cX10_put 34 = .ok (.getfield 103, 3) := by decide +kernel
theorem dX10_put_37 : decode cX10_put 37 = .ok (.iload_n 3, 1) := by decide +kernel
theorem dX10_put_38 : decode cX10_put 38 = .ok (.iload 7, 2) := by decide +kernel
theorem dX10_put_40 : decode cX10_put 40 = .ok (.invokevirtual 212, 3) := by decide +kernel
theorem dX10_put_43 : decode cX10_put 43 = .ok (.aload_n 0, 1) := by decide +kernel
theorem dX10_put_44 : decode cX10_put 44 = .ok (.getfield 50, 3) := by decide +kernel
theorem dX10_put_47 : decode cX10_put 47 = .ok (.iload_n 1, 1) := by decide +kernel
theorem dX10_put_48 : decode cX10_put 48 = .ok (.saload, 1) := by decide +kernel
theorem dX10_put_49 : decode cX10_put 49 = .ok (.invokevirtual 215, 3) := by decide +kernel
theorem dX10_put_52 : decode cX10_put 52 = .ok (.iinc 7 (-1), 3) := by decide +kernel
theorem dX10_put_55 : decode cX10_put 55 = .ok (.iload_n 1, 1) := by decide +kernel
theorem dX10_put_56 : decode cX10_put 56 = .ok (.istore 8, 2) := by decide +kernel
theorem dX10_put_58 : decode cX10_put 58 = .ok (.iload 8, 2) := by decide +kernel
theorem dX10_put_60 : decode cX10_put 60 = .ok (.ifCond .lt 59, 3) := by decide +kernel
theorem dX10_put_63 : decode cX10_put 63 = .ok (.aload_n 0, 1) := by decide +kernel
theorem dX10_put_64 : decode cX10_put 64 = .ok (.getfield 47, 3) := by decide +kernel
theorem dX10_put_67 : decode cX10_put 67 = .ok (.iload 8, 2) := by decide +kernel
theorem dX10_put_69 : decode cX10_put 69 = .ok (.saload, 1) := by decide +kernel
theorem dX10_put_70 : decode cX10_put 70 = .ok (.iload 6, 2) := by decide +kernel
theorem dX10_put_72 : decode cX10_put 72 = .ok (.if_icmp .lt 5, 3) := by decide +kernel
theorem dX10_put_75 : decode cX10_put 75 = .ok (.iconst 0, 1) := by decide +kernel
theorem dX10_put_76 : decode cX10_put 76 = .ok (.ireturn, 1) := by decide +kernel
theorem dX10_put_77 : decode cX10_put 77 = .ok (.aload_n 0, 1) := by decide +kernel
theorem dX10_put_78 : decode cX10_put 78 = .ok (.aload_n 0, 1) := by decide +kernel
theorem dX10_put_79 : decode cX10_put 79 = .ok (.getfield 103, 3) := by decide +kernel
theorem dX10_put_82 : decode cX10_put 82 = .ok (.iload_n 3, 1) := by decide +kernel
theorem dX10_put_83 : decode cX10_put 83 = .ok (.aload_n 0, 1) := by decide +kernel
theorem dX10_put_84 : decode cX10_put 84 = .ok (.aload_n 0, 1) := by decide +kernel
theorem dX10_put_85 : decode cX10_put 85 = .ok (.getfield 103, 3) := by decide +kernel
theorem dX10_put_88 : decode cX10_put 88 = .ok (.iload_n 3, 1) := by decide +kernel
theorem dX10_put_89 : decode cX10_put 89 = .ok (.iload 7, 2) := by decide +kernel
theorem dX10_put_91 : decode cX10_put 91 = .ok (.invokevirtual 212, 3) := by decide +kernel
theorem dX10_put_94 : decode cX10_put 94 = .ok (.aload_n 0, 1) := by decide +kernel
theorem dX10_put_95 : decode cX10_put 95 = .ok (.getfield 47, 3) := by decide +kernel
theorem dX10_put_98 : decode cX10_put 98 = .ok (.iload 8, 2) := by decide +kernel
theorem dX10_put_100 : decode cX10_put 100 = .ok (.saload, 1) := by decide +kernel
theorem dX10_put_101 : decode cX10_put 101 = .ok (.invokevirtual 215, 3) := by decide +kernel
theorem dX10_put_104 : decode cX10_put 104 = .ok (.iinc 7 (-1), 3) := by decide +kernel
theorem dX10_put_107 : decode cX10_put 107 = .ok (.aload_n 0, 1) := by decide +kernel
theorem dX10_put_108 : decode cX10_put 108 = .ok (.getfield 44, 3) := by decide +kernel
theorem dX10_put_111 : decode cX10_put 111 = .ok (.iload 8, 2) := by decide +kernel
theorem dX10_put_113 : decode cX10_put 113 = .ok (.saload, 1) := by decide +kernel
theorem dX10_put_114 : decode cX10_put 114 = .ok (.istore 8, 2) := by decide +kernel
theorem dX10_put_116 : decode cX10_put 116 = .ok (.goto (-58), 3) := by decide +kernel
theorem dX10_put_119 : decode cX10_put 119 = .ok (.iconst 1, 1) := by decide +kernel
theorem dX10_put_120 : decode cX10_put 120 = .ok (.ireturn, 1) := by decide +kernel
theorem dX10_placeOf_0 : decode cX10_placeOf 0 = .ok (.aload_n 0, 1) := by decide +kernel
theorem dX10_placeOf_1 : decode cX10_placeOf 1 = .ok (.iload_n 1, 1) := by decide +kernel
theorem dX10_placeOf_2 : decode cX10_placeOf 2 = .ok (.iload_n 2, 1) := by decide +kernel
theorem dX10_placeOf_3 : decode cX10_placeOf 3 = .ok (.iconst 2, 1) := by decide +kernel
theorem dX10_placeOf_4 : decode cX10_placeOf 4 = .ok (.invokevirtual 73, 3) := by decide +kernel
theorem dX10_placeOf_7 : decode cX10_placeOf 7 = .ok (.istore 4, 2) := by decide +kernel
theorem dX10_placeOf_9 : decode cX10_placeOf 9 = .ok (.aload_n 0, 1) := by decide +kernel
theorem dX10_placeOf_10 : decode cX10_placeOf 10 = .ok (.iload_n 1, 1) := by decide +kernel
theorem dX10_placeOf_11 : decode cX10_placeOf 11 = .ok (.iload_n 2, 1) := by decide +kernel
theorem dX10_placeOf_12 : decode cX10_placeOf 12 = .ok (.iconst 5, 1) := by decide +kernel
theorem dX10_placeOf_13 : decode cX10_placeOf 13 = .ok (.invokevirtual 73, 3) := by decide +kernel
theorem dX10_placeOf_16 : decode cX10_placeOf 16 = .ok (.ifCond .ne 5, 3) := by decide +kernel
theorem dX10_placeOf_19 : decode cX10_placeOf 19 = .ok (.iload_n 3, 1) := by decide +kernel
theorem dX10_placeOf_20 : decode cX10_placeOf 20 = .ok (.ireturn, 1) := by decide +kernel
theorem dX10_placeOf_21 : decode cX10_placeOf 21 = .ok (.iload 4, 2) := by decide +kernel
theorem dX10_placeOf_23 : decode cX10_placeOf 23 = .ok (.iload_n 3, 1) := by decide +kernel
theorem dX10_placeOf_24 : decode cX10_placeOf 24 = .ok (.iload 4, 2) := by decide +kernel
theorem dX10_placeOf_26 : decode cX10_placeOf 26 = .ok (.idiv, 1) := by decide +kernel
theorem dX10_placeOf_27 : decode cX10_placeOf 27 = .ok (.aload_n 0, 1) := by decide +kernel
theorem dX10_placeOf_28 : decode cX10_placeOf 28 = .ok (.iload_n 1, 1) := by decide +kernel
theorem dX10_placeOf_29 : decode cX10_placeOf 29 = .ok (.iload_n 2, 1) := by decide +kernel
theorem dX10_placeOf_30 : decode cX10_placeOf 30 = .ok (.iconst 3, 1) := by decide +kernel
theorem dX10_placeOf_31 : decode cX10_placeOf 31 = .ok (.invokevirtual 73, 3) := by decide +kernel
theorem dX10_placeOf_34 : decode cX10_placeOf 34 = .ok (.invokestatic 218, 3) := by decide +kernel
theorem dX10_placeOf_37 : decode cX10_placeOf 37 = .ok (.imul, 1) := by decide +kernel
theorem dX10_placeOf_38 : decode cX10_placeOf 38 = .ok (.iload_n 3, 1) := by decide +kernel
theorem dX10_placeOf_39 : decode cX10_placeOf 39 = .ok (.iload 4, 2) := by decide +kernel
theorem dX10_placeOf_41 : decode cX10_placeOf 41 = .ok (.irem, 1) := by decide +kernel
theorem dX10_placeOf_42 : decode cX10_placeOf 42 = .ok (.iadd, 1) := by decide +kernel
theorem dX10_placeOf_43 : decode cX10_placeOf 43 = .ok (.ireturn, 1) := by decide +kernel
theorem dX10_line_0 : decode cX10_line 0 = .ok (.iload_n 1, 1) := by decide +kernel
theorem dX10_line_1 : decode cX10_line 1 = .ok (.bipush 7, 2) := by decide +kernel
theorem dX10_line_3 : decode cX10_line 3 = .ok (.iadd, 1) := by decide +kernel
theorem dX10_line_4 : decode cX10_line 4 = .ok (.bipush 8, 2) := by decide +kernel
theorem dX10_line_6 : decode cX10_line 6 = .ok (.idiv, 1) := by decide +kernel
theorem dX10_line_7 : decode cX10_line 7 = .ok (.istore_n 2, 1) := by decide +kernel
theorem dX10_line_8 : decode cX10_line 8 = .ok (.iload_n 1, 1) := by decide +kernel
theorem dX10_line_9 : decode cX10_line 9 = .ok (.iconst 3, 1) := by decide +kernel
theorem dX10_line_10 : decode cX10_line 10 = .ok (.iadd, 1) := by decide +kernel
theorem dX10_line_11 : decode cX10_line 11 = .ok (.bipush 8, 2) := by decide +kernel
theorem dX10_line_13 : decode cX10_line 13 = .ok (.idiv, 1) := by decide +kernel
theorem dX10_line_14 : decode cX10_line 14 = .ok (.istore_n 3, 1) := by decide +kernel
theorem dX10_line_15 : decode cX10_line 15 = .ok (.iload_n 1, 1) := by decide +kernel
theorem dX10_line_16 : decode cX10_line 16 = .ok (.iconst 1, 1) := by decide +kernel
theorem dX10_line_17 : decode cX10_line 17 = .ok (.iadd, 1) := by decide +kernel
theorem dX10_line_18 : decode cX10_line 18 = .ok (.iconst 4, 1) := by decide +kernel
theorem dX10_line_19 : decode cX10_line 19 = .ok (.idiv, 1) := by decide +kernel
theorem dX10_line_20 : decode cX10_line 20 = .ok (.istore 4, 2) := by decide +kernel
theorem dX10_line_22 : decode cX10_line 22 = .ok (.iload_n 0, 1) := by decide +kernel
theorem dX10_line_23 : decode cX10_line 23 = .ok (.iload_n 2, 1) := by decide +kernel
theorem dX10_line_24 : decode cX10_line 24 = .ok (.if_icmp .ge 8, 3) := by decide +kernel
theorem dX10_line_27 : decode cX10_line 27 = .ok (.bipush 8, 2) := by decide +kernel
theorem dX10_line_29 : decode cX10_line 29 = .ok (.iload_n 0, 1) := by decide +kernel
theorem dX10_line_30 : decode cX10_line 30 = .ok (.imul, 1) := by decide +kernel
theorem dX10_line_31 : decode cX10_line 31 = .ok (.ireturn, 1) := by decide +kernel
theorem dX10_line_32 : decode cX10_line 32 = .ok (.iload_n 0, 1) := by decide +kernel
theorem dX10_line_33 : decode cX10_line 33 = .ok (.iload_n 2, 1) := by decide +kernel
theorem dX10_line_34 : decode cX10_line 34 = .ok (.iload_n 3, 1) := by decide +kernel
theorem dX10_line_35 : decode cX10_line 35 = .ok (.iadd, 1) := by decide +kernel
theorem dX10_line_36 : decode cX10_line 36 = .ok (.if_icmp .ge 12, 3) := by decide +kernel
theorem dX10_line_39 : decode cX10_line 39 = .ok (.iconst 4, 1) := by decide +kernel
theorem dX10_line_40 : decode cX10_line 40 = .ok (.bipush 8, 2) := by decide +kernel
theorem dX10_line_42 : decode cX10_line 42 = .ok (.iload_n 0, 1) := by decide +kernel
theorem dX10_line_43 : decode cX10_line 43 = .ok (.iload_n 2, 1) := by decide +kernel
theorem dX10_line_44 : decode cX10_line 44 = .ok (.isub, 1) := by decide +kernel
theorem dX10_line_45 : decode cX10_line 45 = .ok (.imul, 1) := by decide +kernel
theorem dX10_line_46 : decode cX10_line 46 = .ok (.iadd, 1) := by decide +kernel
theorem dX10_line_47 : decode cX10_line 47 = .ok (.ireturn, 1) := by decide +kernel
theorem dX10_line_48 : decode cX10_line 48 = .ok (.iload_n 0, 1) := by decide +kernel
theorem dX10_line_49 : decode cX10_line 49 = .ok (.iload_n 2, 1) := by decide +kernel
theorem dX10_line_50 : decode cX10_line 50 = .ok (.iload_n 3, 1) := by decide +kernel
theorem dX10_line_51 : decode cX10_line 51 = .ok (.iadd, 1) := by decide +kernel
theorem dX10_line_52 : decode cX10_line 52 = .ok (.iload 4, 2) := by decide +kernel
theorem dX10_line_54 : decode cX10_line 54 = .ok (.iadd, 1) := by decide +kernel
theorem dX10_line_55 : decode cX10_line 55 = .ok (.if_icmp .ge 13, 3) := by decide +kernel
theorem dX10_line_58 : decode cX10_line 58 = .ok (.iconst 2, 1) := by decide +kernel
theorem dX10_line_59 : decode cX10_line 59 = .ok (.iconst 4, 1) := by decide +kernel
theorem dX10_line_60 : decode cX10_line 60 = .ok (.iload_n 0, 1) := by decide +kernel
theorem dX10_line_61 : decode cX10_line 61 = .ok (.iload_n 2, 1) := by decide +kernel
theorem dX10_line_62 : decode cX10_line 62 = .ok (.isub, 1) := by decide +kernel
theorem dX10_line_63 : decode cX10_line 63 = .ok (.iload_n 3, 1) := by decide +kernel
theorem dX10_line_64 : decode cX10_line 64 = .ok (.isub, 1) := by decide +kernel
theorem dX10_line_65 : decode cX10_line 65 = .ok (.imul, 1) := by decide +kernel
theorem dX10_line_66 : decode cX10_line 66 = .ok (.iadd, 1) := by decide +kernel
theorem dX10_line_67 : decode cX10_line 67 = .ok (.ireturn, 1) := by decide +kernel
theorem dX10_line_68 : decode cX10_line 68 = .ok (.iconst 1, 1) := by decide +kernel
theorem dX10_line_69 : decode cX10_line 69 = .ok (.iconst 2, 1) := by decide +kernel
theorem dX10_line_70 : decode cX10_line 70 = .ok (.iload_n 0, 1) := by decide +kernel
theorem dX10_line_71 : decode cX10_line 71 = .ok (.iload_n 2, 1) := by decide +kernel
theorem dX10_line_72 : decode cX10_line 72 = .ok (.isub, 1) := by decide +kernel
theorem dX10_line_73 : decode cX10_line 73 = .ok (.iload_n 3, 1) := by decide +kernel
theorem dX10_line_74 : decode cX10_line 74 = .ok (.isub, 1) := by decide +kernel
theorem dX10_line_75 : decode cX10_line 75 = .ok (.iload 4, 2) := by decide +kernel
theorem dX10_line_77 : decode cX10_line 77 = .ok (.isub, 1) := by decide +kernel
theorem dX10_line_78 : decode cX10_line 78 = .ok (.imul, 1) := by decide +kernel
theorem dX10_line_79 : decode cX10_line 79 = .ok (.iadd, 1) := by decide +kernel
theorem dX10_line_80 : decode cX10_line 80 = .ok (.ireturn, 1) := by decide +kernel
theorem dX10_fault_0 : decode cX10_fault 0 = .ok (.iload_n 1, 1) := by decide +kernel
theorem dX10_fault_1 : decode cX10_fault 1 = .ok (.ifCond .ne 10, 3) := by decide +kernel
theorem dX10_fault_4 : decode cX10_fault 4 = .ok (.aload_n 0, 1) := by decide +kernel
theorem dX10_fault_5 : decode cX10_fault 5 = .ok (.getfield 16, 3) := by decide +kernel
theorem dX10_fault_8 : decode cX10_fault 8 = .ok (.goto 16, 3) := by decide +kernel
theorem dX10_fault_11 : decode cX10_fault 11 = .ok (.iload_n 1, 1) := by decide +kernel
theorem dX10_fault_12 : decode cX10_fault 12 = .ok (.iconst 1, 1) := by decide +kernel
theorem dX10_fault_13 : decode cX10_fault 13 = .ok (.if_icmp .ne 10, 3) := by decide +kernel
theorem dX10_fault_16 : decode cX10_fault 16 = .ok (.aload_n 0, 1) := by decide +kernel
theorem dX10_fault_17 : decode cX10_fault 17 = .ok (.getfield 20, 3) := by decide +kernel
theorem dX10_fault_20 : decode cX10_fault 20 = .ok (.goto 4, 3) := by decide +kernel
theorem dX10_fault_23 : decode cX10_fault 23 = .ok (.iconst (-1), 1) := by decide +kernel
theorem dX10_fault_24 : decode cX10_fault 24 = .ok (.ireturn, 1) := by decide +kernel
theorem dX10_isTable_0 : decode cX10_isTable 0 = .ok (.iload_n 0, 1) := by decide +kernel
theorem dX10_isTable_1 : decode cX10_isTable 1 = .ok (.ifCond .eq 23, 3) := by decide +kernel
theorem dX10_isTable_4 : decode cX10_isTable 4 = .ok (.iload_n 0, 1) := by decide +kernel
theorem dX10_isTable_5 : decode cX10_isTable 5 = .ok (.iconst 2, 1) := by decide +kernel
theorem dX10_isTable_6 : decode cX10_isTable 6 = .ok (.if_icmp .lt 22, 3) := by decide +kernel
theorem dX10_isTable_9 : decode cX10_isTable 9 = .ok (.iload_n 0, 1) := by decide +kernel
theorem dX10_isTable_10 : decode cX10_isTable 10 = .ok (.sipush 256, 3) := by decide +kernel
theorem dX10_isTable_13 : decode cX10_isTable 13 = .ok (.if_icmp .gt 15, 3) := by decide +kernel
theorem dX10_isTable_16 : decode cX10_isTable 16 = .ok (.iload_n 0, 1) := by decide +kernel
theorem dX10_isTable_17 : decode cX10_isTable 17 = .ok (.iload_n 0, 1) := by decide +kernel
theorem dX10_isTable_18 : decode cX10_isTable 18 = .ok (.iconst 1, 1) := by decide +kernel
theorem dX10_isTable_19 : decode cX10_isTable 19 = .ok (.isub, 1) := by decide +kernel
theorem dX10_isTable_20 : decode cX10_isTable 20 = .ok (.iand, 1) := by decide +kernel
theorem dX10_isTable_21 : decode cX10_isTable 21 = .ok (.ifCond .ne 7, 3) := by decide +kernel
theorem dX10_isTable_24 : decode cX10_isTable 24 = .ok (.iconst 1, 1) := by decide +kernel
theorem dX10_isTable_25 : decode cX10_isTable 25 = .ok (.goto 4, 3) := by decide +kernel
theorem dX10_isTable_28 : decode cX10_isTable 28 = .ok (.iconst 0, 1) := by decide +kernel
theorem dX10_isTable_29 : decode cX10_isTable 29 = .ok (.ireturn, 1) := by decide +kernel
theorem dX10_isWithin_0 : decode cX10_isWithin 0 = .ok (.iload_n 0, 1) := by decide +kernel
theorem dX10_isWithin_1 : decode cX10_isWithin 1 = .ok (.iload_n 1, 1) := by decide +kernel
theorem dX10_isWithin_2 : decode cX10_isWithin 2 = .ok (.if_icmp .lt 12, 3) := by decide +kernel
theorem dX10_isWithin_5 : decode cX10_isWithin 5 = .ok (.iload_n 0, 1) := by decide +kernel
theorem dX10_isWithin_6 : decode cX10_isWithin 6 = .ok (.iload_n 2, 1) := by decide +kernel
theorem dX10_isWithin_7 : decode cX10_isWithin 7 = .ok (.if_icmp .gt 7, 3) := by decide +kernel
theorem dX10_isWithin_10 : decode cX10_isWithin 10 = .ok (.iconst 1, 1) := by decide +kernel
theorem dX10_isWithin_11 : decode cX10_isWithin 11 = .ok (.goto 4, 3) := by decide +kernel
theorem dX10_isWithin_14 : decode cX10_isWithin 14 = .ok (.iconst 0, 1) := by decide +kernel
theorem dX10_isWithin_15 : decode cX10_isWithin 15 = .ok (.ireturn, 1) := by decide +kernel
theorem dX10_begin_0 : decode cX10_begin 0 = .ok (.iload_n 1, 1) := by decide +kernel
theorem dX10_begin_1 : decode cX10_begin 1 = .ok (.iconst 1, 1) := by decide +kernel
theorem dX10_begin_2 : decode cX10_begin 2 = .ok (.bipush 64, 2) := by decide +kernel
theorem dX10_begin_4 : decode cX10_begin 4 = .ok (.invokestatic 221, 3) := by decide +kernel
theorem dX10_begin_7 : decode cX10_begin 7 = .ok (.ifCond .eq 32, 3) := by decide +kernel
theorem dX10_begin_10 : decode cX10_begin 10 = .ok (.iload_n 2, 1) := by decide +kernel
theorem dX10_begin_11 : decode cX10_begin 11 = .ok (.iconst 1, 1) := by decide +kernel
theorem dX10_begin_12 : decode cX10_begin 12 = .ok (.bipush 64, 2) := by decide +kernel
theorem dX10_begin_14 : decode cX10_begin 14 = .ok (.invokestatic 221, 3) := by decide +kernel
theorem dX10_begin_17 : decode cX10_begin 17 = .ok (.ifCond .eq 22, 3) := by decide +kernel
theorem dX10_begin_20 : decode cX10_begin 20 = .ok (.iload_n 3, 1) := by decide +kernel
theorem dX10_begin_21 : decode cX10_begin 21 = .ok (.invokestatic 225, 3) := by decide +kernel
theorem dX10_begin_24 : decode cX10_begin 24 = .ok (.ifCond .eq 15, 3) := by decide +kernel
theorem dX10_begin_27 : decode cX10_begin 27 = .ok (.iload 4, 2) := by decide +kernel
theorem dX10_begin_29 : decode cX10_begin 29 = .ok (.iconst 0, 1) := by decide +kernel
theorem dX10_begin_30 : decode cX10_begin 30 = .ok (.sipush 255, 3) := by decide +kernel
theorem dX10_begin_33 : decode cX10_begin 33 = .ok (.invokestatic 221, 3) := by decide +kernel
theorem dX10_begin_36 : decode cX10_begin 36 = .ok (.ifCond .ne 5, 3) := by decide +kernel
theorem dX10_begin_39 : decode cX10_begin 39 = .ok (.iconst 0, 1) := by decide +kernel
theorem dX10_begin_40 : decode cX10_begin 40 = .ok (.ireturn, 1) := by decide +kernel
theorem dX10_begin_41 : decode cX10_begin 41 = .ok (.aload_n 0, 1) := by decide +kernel
theorem dX10_begin_42 : decode cX10_begin 42 = .ok (.getfield 23, 3) := by decide +kernel
theorem dX10_begin_45 : decode cX10_begin 45 = .ok (.bipush 6, 2) := by decide +kernel
theorem dX10_begin_47 : decode cX10_begin 47 = .ok (.aload_n 0, 1) := by decide +kernel
theorem dX10_begin_48 : decode cX10_begin 48 = .ok (.getfield 66, 3) := by decide +kernel
theorem dX10_begin_51 : decode cX10_begin 51 = .ok (.imul, 1) := by decide +kernel
theorem dX10_begin_52 : decode cX10_begin 52 = .ok (.iload_n 1, 1) := by decide +kernel
theorem dX10_begin_53 : decode cX10_begin 53 = .ok (.iastore, 1) := by decide +kernel
theorem dX10_begin_54 : decode cX10_begin 54 = .ok (.aload_n 0, 1) := by decide +kernel
theorem dX10_begin_55 : decode cX10_begin 55 = .ok (.getfield 23, 3) := by decide +kernel
theorem dX10_begin_58 : decode cX10_begin 58 = .ok (.bipush 6, 2) := by decide +kernel
theorem dX10_begin_60 : decode cX10_begin 60 = .ok (.aload_n 0, 1) := by decide +kernel
theorem dX10_begin_61 : decode cX10_begin 61 = .ok (.getfield 66, 3) := by decide +kernel
theorem dX10_begin_64 : decode cX10_begin 64 = .ok (.imul, 1) := by decide +kernel
theorem dX10_begin_65 : decode cX10_begin 65 = .ok (.iconst 1, 1) := by decide +kernel
theorem dX10_begin_66 : decode cX10_begin 66 = .ok (.iadd, 1) := by decide +kernel
theorem dX10_begin_67 : decode cX10_begin 67 = .ok (.iload_n 2, 1) := by decide +kernel
theorem dX10_begin_68 : decode cX10_begin 68 = .ok (.iastore, 1) := by decide +kernel
theorem dX10_begin_69 : decode cX10_begin 69 = .ok (.aload_n 0, 1) := by decide +kernel
theorem dX10_begin_70 : decode cX10_begin 70 = .ok (.getfield 23, 3) := by decide +kernel
theorem dX10_begin_73 : decode cX10_begin 73 = .ok (.bipush 6, 2) := by decide +kernel
theorem dX10_begin_75 : decode cX10_begin 75 = .ok (.aload_n 0, 1) := by decide +kernel
theorem dX10_begin_76 : decode cX10_begin 76 = .ok (.getfield 66, 3) := by decide +kernel
theorem dX10_begin_79 : decode cX10_begin 79 = .ok (.imul, 1) := by decide +kernel
theorem dX10_begin_80 : decode cX10_begin 80 = .ok (.iconst 2, 1) := by decide +kernel
theorem dX10_begin_81 : decode cX10_begin 81 = .ok (.iadd, 1) := by decide +kernel
theorem dX10_begin_82 : decode cX10_begin 82 = .ok (.iload_n 3, 1) := by decide +kernel
theorem dX10_begin_83 : decode cX10_begin 83 = .ok (.iastore, 1) := by decide +kernel
theorem dX10_begin_84 : decode cX10_begin 84 = .ok (.aload_n 0, 1) := by decide +kernel
theorem dX10_begin_85 : decode cX10_begin 85 = .ok (.getfield 23, 3) := by decide +kernel
theorem dX10_begin_88 : decode cX10_begin 88 = .ok (.bipush 6, 2) := by decide +kernel
theorem dX10_begin_90 : decode cX10_begin 90 = .ok (.aload_n 0, 1) := by decide +kernel
theorem dX10_begin_91 : decode cX10_begin 91 = .ok (.getfield 66, 3) := by decide +kernel
theorem dX10_begin_94 : decode cX10_begin 94 = .ok (.imul, 1) := by decide +kernel
theorem dX10_begin_95 : decode cX10_begin 95 = .ok (.iconst 3, 1) := by decide +kernel
theorem dX10_begin_96 : decode cX10_begin 96 = .ok (.iadd, 1) := by decide +kernel
theorem dX10_begin_97 : decode cX10_begin 97 = .ok (.iload 4, 2) := by decide +kernel
theorem dX10_begin_99 : decode cX10_begin 99 = .ok (.iastore, 1) := by decide +kernel
theorem dX10_begin_100 : decode cX10_begin 100 = .ok (.aload_n 0, 1) := by decide +kernel
theorem dX10_begin_101 : decode cX10_begin 101 = .ok (.getfield 23, 3) := by decide +kernel
theorem dX10_begin_104 : decode cX10_begin 104 = .ok (.bipush 6, 2) := by decide +kernel
theorem dX10_begin_106 : decode cX10_begin 106 = .ok (.aload_n 0, 1) := by decide +kernel
theorem dX10_begin_107 : decode cX10_begin 107 = .ok (.getfield 66, 3) := by decide +kernel
theorem dX10_begin_110 : decode cX10_begin 110 = .ok (.imul, 1) := by decide +kernel
theorem dX10_begin_111 : decode cX10_begin 111 = .ok (.iconst 4, 1) := by decide +kernel
theorem dX10_begin_112 : decode cX10_begin 112 = .ok (.iadd, 1) := by decide +kernel
theorem dX10_begin_113 : decode cX10_begin 113 = .ok (.iconst 0, 1) := by decide +kernel
theorem dX10_begin_114 : decode cX10_begin 114 = .ok (.iastore, 1) := by decide +kernel
theorem dX10_begin_115 : decode cX10_begin 115 = .ok (.aload_n 0, 1) := by decide +kernel
theorem dX10_begin_116 : decode cX10_begin 116 = .ok (.getfield 23, 3) := by decide +kernel
theorem dX10_begin_119 : decode cX10_begin 119 = .ok (.bipush 6, 2) := by decide +kernel
theorem dX10_begin_121 : decode cX10_begin 121 = .ok (.aload_n 0, 1) := by decide +kernel
theorem dX10_begin_122 : decode cX10_begin 122 = .ok (.getfield 66, 3) := by decide +kernel
theorem dX10_begin_125 : decode cX10_begin 125 = .ok (.imul, 1) := by decide +kernel
theorem dX10_begin_126 : decode cX10_begin 126 = .ok (.iconst 5, 1) := by decide +kernel
theorem dX10_begin_127 : decode cX10_begin 127 = .ok (.iadd, 1) := by decide +kernel
theorem dX10_begin_128 : decode cX10_begin 128 = .ok (.iconst 0, 1) := by decide +kernel
theorem dX10_begin_129 : decode cX10_begin 129 = .ok (.iastore, 1) := by decide +kernel
theorem dX10_begin_130 : decode cX10_begin 130 = .ok (.iconst 0, 1) := by decide +kernel
theorem dX10_begin_131 : decode cX10_begin 131 = .ok (.istore 5, 2) := by decide +kernel
theorem dX10_begin_133 : decode cX10_begin 133 = .ok (.iload 5, 2) := by decide +kernel
theorem dX10_begin_135 : decode cX10_begin 135 = .ok (.sipush 256, 3) := by decide +kernel
theorem dX10_begin_138 : decode cX10_begin 138 = .ok (.if_icmp .ge 26, 3) := by decide +kernel
theorem dX10_begin_141 : decode cX10_begin 141 = .ok (.aload_n 0, 1) := by decide +kernel
theorem dX10_begin_142 : decode cX10_begin 142 = .ok (.getfield 27, 3) := by decide +kernel
theorem dX10_begin_145 : decode cX10_begin 145 = .ok (.sipush 256, 3) := by decide +kernel
theorem dX10_begin_148 : decode cX10_begin 148 = .ok (.aload_n 0, 1) := by decide +kernel
theorem dX10_begin_149 : decode cX10_begin 149 = .ok (.getfield 66, 3) := by decide +kernel
theorem dX10_begin_152 : decode cX10_begin 152 = .ok (.imul, 1) := by decide +kernel
theorem dX10_begin_153 : decode cX10_begin 153 = .ok (.iload 5, 2) := by decide +kernel
theorem dX10_begin_155 : decode cX10_begin 155 = .ok (.iadd, 1) := by decide +kernel
theorem dX10_begin_156 : decode cX10_begin 156 = .ok (.iconst 0, 1) := by decide +kernel
theorem dX10_begin_157 : decode cX10_begin 157 = .ok (.iastore, 1) := by decide +kernel
theorem dX10_begin_158 : decode cX10_begin 158 = .ok (.iinc 5 1, 3) := by decide +kernel
theorem dX10_begin_161 : decode cX10_begin 161 = .ok (.goto (-28), 3) := by decide +kernel
theorem dX10_begin_164 : decode cX10_begin 164 = .ok (.iconst 1, 1) := by decide +kernel
theorem dX10_begin_165 : decode cX10_begin 165 = .ok (.ireturn, 1) := by decide +kernel
theorem dX10_isColour_0 : decode cX10_isColour 0 = .ok (.iload_n 1, 1) := by decide +kernel
theorem dX10_isColour_1 : decode cX10_isColour 1 = .ok (.iconst (-1), 1) := by decide +kernel
theorem dX10_isColour_2 : decode cX10_isColour 2 = .ok (.if_icmp .eq 13, 3) := by decide +kernel
theorem dX10_isColour_5 : decode cX10_isColour 5 = .ok (.aload_n 0, 1) := by decide +kernel
theorem dX10_isColour_6 : decode cX10_isColour 6 = .ok (.iload_n 1, 1) := by decide +kernel
theorem dX10_isColour_7 : decode cX10_isColour 7 = .ok (.invokevirtual 229, 3) := by decide +kernel
theorem dX10_isColour_10 : decode cX10_isColour 10 = .ok (.ifCond .ne 5, 3) := by decide +kernel
theorem dX10_isColour_13 : decode cX10_isColour 13 = .ok (.iconst 0, 1) := by decide +kernel
theorem dX10_isColour_14 : decode cX10_isColour 14 = .ok (.ireturn, 1) := by decide +kernel
theorem dX10_isColour_15 : decode cX10_isColour 15 = .ok (.iload_n 2, 1) := by decide +kernel
theorem dX10_isColour_16 : decode cX10_isColour 16 = .ok (.ifCond .lt 43, 3) := by decide +kernel
theorem dX10_isColour_19 : decode cX10_isColour 19 = .ok (.iload_n 2, 1) := by decide +kernel
theorem dX10_isColour_20 : decode cX10_isColour 20 = .ok (.iload_n 1, 1) := by decide +kernel
theorem dX10_isColour_21 : decode cX10_isColour 21 = .ok (.iconst (-1), 1) := by decide +kernel
theorem dX10_isColour_22 : decode cX10_isColour 22 = .ok (.if_icmp .ne 20, 3) := by decide +kernel
theorem dX10_isColour_25 : decode cX10_isColour 25 = .ok (.aload_n 0, 1) := by decide +kernel
theorem dX10_isColour_26 : decode cX10_isColour 26 = .ok (.getfield 23, 3) := by decide +kernel
theorem dX10_isColour_29 : decode cX10_isColour 29 = .ok (.bipush 6, 2) := by decide +kernel
theorem dX10_isColour_31 : decode cX10_isColour 31 = .ok (.aload_n 0, 1) := by decide +kernel
theorem dX10_isColour_32 : decode cX10_isColour 32 = .ok (.getfield 66, 3) := by decide +kernel
theorem dX10_isColour_35 : decode cX10_isColour 35 = .ok (.imul, 1) := by decide +kernel
theorem dX10_isColour_36 : decode cX10_isColour 36 = .ok (.iconst 2, 1) := by decide +kernel
theorem dX10_isColour_37 : decode cX10_isColour 37 = .ok (.iadd, 1) := by decide +kernel
theorem dX10_isColour_38 : decode cX10_isColour 38 = .ok (.iaload, 1) := by decide +kernel
theorem dX10_isColour_39 : decode cX10_isColour 39 = .ok (.goto 13, 3) := by decide +kernel
theorem dX10_isColour_42 : decode cX10_isColour 42 = .ok (.aload_n 0, 1) := by decide +kernel
theorem dX10_isColour_43 : decode cX10_isColour 43 = .ok (.aload_n 0, 1) := by decide +kernel
theorem dX10_isColour_44 : decode cX10_isColour 44 = .ok (.getfield 66, 3) := by decide +kernel
theorem dX10_isColour_47 : decode cX10_isColour 47 = .ok (.iload_n 1, 1) := by decide +kernel
theorem dX10_isColour_48 : decode cX10_isColour 48 = .ok (.iconst 4, 1) := by decide +kernel
theorem dX10_isColour_49 : decode cX10_isColour 49 = .ok (.invokevirtual 73, 3) := by decide +kernel
theorem dX10_isColour_52 : decode cX10_isColour 52 = .ok (.if_icmp .ge 7, 3) := by decide +kernel
theorem dX10_isColour_55 : decode cX10_isColour 55 = .ok (.iconst 1, 1) := by decide +kernel
theorem dX10_isColour_56 : decode cX10_isColour 56 = .ok (.goto 4, 3) := by decide +kernel
theorem dX10_isColour_59 : decode cX10_isColour 59 = .ok (.iconst 0, 1) := by decide +kernel
theorem dX10_isColour_60 : decode cX10_isColour 60 = .ok (.ireturn, 1) := by decide +kernel
theorem dX10_colour_0 : decode cX10_colour 0 = .ok (.aload_n 0, 1) := by decide +kernel
theorem dX10_colour_1 : decode cX10_colour 1 = .ok (.iload_n 1, 1) := by decide +kernel
theorem dX10_colour_2 : decode cX10_colour 2 = .ok (.iload_n 2, 1) := by decide +kernel
theorem dX10_colour_3 : decode cX10_colour 3 = .ok (.invokevirtual 232, 3) := by decide +kernel
theorem dX10_colour_6 : decode cX10_colour 6 = .ok (.ifCond .eq 13, 3) := by decide +kernel
theorem dX10_colour_9 : decode cX10_colour 9 = .ok (.iload_n 3, 1) := by decide +kernel
theorem dX10_colour_10 : decode cX10_colour 10 = .ok (.iconst 0, 1) := by decide +kernel
theorem dX10_colour_11 : decode cX10_colour 11 = .ok (.ldc 235, 2) := by decide +kernel
theorem dX10_colour_13 : decode cX10_colour 13 = .ok (.invokestatic 221, 3) := by decide +kernel
theorem dX10_colour_16 : decode cX10_colour 16 = .ok (.ifCond .ne 5, 3) := by decide +kernel
theorem dX10_colour_19 : decode cX10_colour 19 = .ok (.iconst 0, 1) := by decide +kernel
theorem dX10_colour_20 : decode cX10_colour 20 = .ok (.ireturn, 1) := by decide +kernel
theorem dX10_colour_21 : decode cX10_colour 21 = .ok (.iload_n 1, 1) := by decide +kernel
theorem dX10_colour_22 : decode cX10_colour 22 = .ok (.iconst (-1), 1) := by decide +kernel
theorem dX10_colour_23 : decode cX10_colour 23 = .ok (.if_icmp .ne 22, 3) := by decide +kernel
theorem dX10_colour_26 : decode cX10_colour 26 = .ok (.aload_n 0, 1) := by decide +kernel
theorem dX10_colour_27 : decode cX10_colour 27 = .ok (.getfield 27, 3) := by decide +kernel
theorem dX10_colour_30 : decode cX10_colour 30 = .ok (.sipush 256, 3) := by decide +kernel
theorem dX10_colour_33 : decode cX10_colour 33 = .ok (.aload_n 0, 1) := by decide +kernel
theorem dX10_colour_34 : decode cX10_colour 34 = .ok (.getfield 66, 3) := by decide +kernel
theorem dX10_colour_37 : decode cX10_colour 37 = .ok (.imul, 1) := by decide +kernel
theorem dX10_colour_38 : decode cX10_colour 38 = .ok (.iload_n 2, 1) := by decide +kernel
theorem dX10_colour_39 : decode cX10_colour 39 = .ok (.iadd, 1) := by decide +kernel
theorem dX10_colour_40 : decode cX10_colour 40 = .ok (.iload_n 3, 1) := by decide +kernel
theorem dX10_colour_41 : decode cX10_colour 41 = .ok (.iastore, 1) := by decide +kernel
theorem dX10_colour_42 : decode cX10_colour 42 = .ok (.goto 18, 3) := by decide +kernel
theorem dX10_colour_45 : decode cX10_colour 45 = .ok (.aload_n 0, 1) := by decide +kernel
theorem dX10_colour_46 : decode cX10_colour 46 = .ok (.getfield 33, 3) := by decide +kernel
theorem dX10_colour_49 : decode cX10_colour 49 = .ok (.aload_n 0, 1) := by decide +kernel
theorem dX10_colour_50 : decode cX10_colour 50 = .ok (.getfield 66, 3) := by decide +kernel
theorem dX10_colour_53 : decode cX10_colour 53 = .ok (.iload_n 1, 1) := by decide +kernel
theorem dX10_colour_54 : decode cX10_colour 54 = .ok (.iload_n 2, 1) := by decide +kernel
theorem dX10_colour_55 : decode cX10_colour 55 = .ok (.invokestatic 160, 3) := by decide +kernel
theorem dX10_colour_58 : decode cX10_colour 58 = .ok (.iload_n 3, 1) := by decide +kernel
theorem dX10_colour_59 : decode cX10_colour 59 = .ok (.iastore, 1) := by decide +kernel
theorem dX10_colour_60 : decode cX10_colour 60 = .ok (.iconst 1, 1) := by decide +kernel
theorem dX10_colour_61 : decode cX10_colour 61 = .ok (.ireturn, 1) := by decide +kernel
theorem dX10_frame_0 : decode cX10_frame 0 = .ok (.aload_n 0, 1) := by decide +kernel
theorem dX10_frame_1 : decode cX10_frame 1 = .ok (.invokevirtual 69, 3) := by decide +kernel
theorem dX10_frame_4 : decode cX10_frame 4 = .ok (.istore 7, 2) := by decide +kernel
theorem dX10_frame_6 : decode cX10_frame 6 = .ok (.aload_n 0, 1) := by decide +kernel
theorem dX10_frame_7 : decode cX10_frame 7 = .ok (.getfield 23, 3) := by decide +kernel
theorem dX10_frame_10 : decode cX10_frame 10 = .ok (.bipush 6, 2) := by decide +kernel
theorem dX10_frame_12 : decode cX10_frame 12 = .ok (.aload_n 0, 1) := by decide +kernel
theorem dX10_frame_13 : decode cX10_frame 13 = .ok (.getfield 66, 3) := by decide +kernel
theorem dX10_frame_16 : decode cX10_frame 16 = .ok (.imul, 1) := by decide +kernel
theorem dX10_frame_17 : decode cX10_frame 17 = .ok (.iaload, 1) := by decide +kernel
theorem dX10_frame_18 : decode cX10_frame 18 = .ok (.istore 8, 2) := by decide +kernel
theorem dX10_frame_20 : decode cX10_frame 20 = .ok (.aload_n 0, 1) := by decide +kernel
theorem dX10_frame_21 : decode cX10_frame 21 = .ok (.getfield 23, 3) := by decide +kernel
theorem dX10_frame_24 : decode cX10_frame 24 = .ok (.bipush 6, 2) := by decide +kernel
theorem dX10_frame_26 : decode cX10_frame 26 = .ok (.aload_n 0, 1) := by decide +kernel
theorem dX10_frame_27 : decode cX10_frame 27 = .ok (.getfield 66, 3) := by decide +kernel
theorem dX10_frame_30 : decode cX10_frame 30 = .ok (.imul, 1) := by decide +kernel
theorem dX10_frame_31 : decode cX10_frame 31 = .ok (.iconst 1, 1) := by decide +kernel
theorem dX10_frame_32 : decode cX10_frame 32 = .ok (.iadd, 1) := by decide +kernel
theorem dX10_frame_33 : decode cX10_frame 33 = .ok (.iaload, 1) := by decide +kernel
theorem dX10_frame_34 : decode cX10_frame 34 = .ok (.istore 9, 2) := by decide +kernel
theorem dX10_frame_36 : decode cX10_frame 36 = .ok (.iload 7, 2) := by decide +kernel
theorem dX10_frame_38 : decode cX10_frame 38 = .ok (.bipush 24, 2) := by decide +kernel
theorem dX10_frame_40 : decode cX10_frame 40 = .ok (.if_icmp .eq 48, 3) := by decide +kernel
theorem dX10_frame_43 : decode cX10_frame 43 = .ok (.iload_n 1, 1) := by decide +kernel
theorem dX10_frame_44 : decode cX10_frame 44 = .ok (.iconst 0, 1) := by decide +kernel
theorem dX10_frame_45 : decode cX10_frame 45 = .ok (.iload 8, 2) := by decide +kernel
theorem dX10_frame_47 : decode cX10_frame 47 = .ok (.invokestatic 221, 3) := by decide +kernel
theorem dX10_frame_50 : decode cX10_frame 50 = .ok (.ifCond .eq 38, 3) := by decide +kernel
theorem dX10_frame_53 : decode cX10_frame 53 = .ok (.iload_n 2, 1) := by decide +kernel
theorem dX10_frame_54 : decode cX10_frame 54 = .ok (.iconst 0, 1) := by decide +kernel
theorem dX10_frame_55 : decode cX10_frame 55 = .ok (.iload 9, 2) := by decide +kernel
theorem dX10_frame_57 : decode cX10_frame 57 = .ok (.invokestatic 221, 3) := by decide +kernel
theorem dX10_frame_60 : decode cX10_frame 60 = .ok (.ifCond .eq 28, 3) := by decide +kernel
theorem dX10_frame_63 : decode cX10_frame 63 = .ok (.iload_n 3, 1) := by decide +kernel
theorem dX10_frame_64 : decode cX10_frame 64 = .ok (.iconst 1, 1) := by decide +kernel
theorem dX10_frame_65 : decode cX10_frame 65 = .ok (.iload 8, 2) := by decide +kernel
theorem dX10_frame_67 : decode cX10_frame 67 = .ok (.iload_n 1, 1) := by decide +kernel
theorem dX10_frame_68 : decode cX10_frame 68 = .ok (.isub, 1) := by decide +kernel
theorem dX10_frame_69 : decode cX10_frame 69 = .ok (.invokestatic 221, 3) := by decide +kernel
theorem dX10_frame_72 : decode cX10_frame 72 = .ok (.ifCond .eq 16, 3) := by decide +kernel
theorem dX10_frame_75 : decode cX10_frame 75 = .ok (.iload 4, 2) := by decide +kernel
theorem dX10_frame_77 : decode cX10_frame 77 = .ok (.iconst 1, 1) := by decide +kernel
theorem dX10_frame_78 : decode cX10_frame 78 = .ok (.iload 9, 2) := by decide +kernel
theorem dX10_frame_80 : decode cX10_frame 80 = .ok (.iload_n 2, 1) := by decide +kernel
theorem dX10_frame_81 : decode cX10_frame 81 = .ok (.isub, 1) := by decide +kernel
theorem dX10_frame_82 : decode cX10_frame 82 = .ok (.invokestatic 221, 3) := by decide +kernel
theorem dX10_frame_85 : decode cX10_frame 85 = .ok (.ifCond .ne 5, 3) := by decide +kernel
theorem dX10_frame_88 : decode cX10_frame 88 = .ok (.iconst (-1), 1) := by decide +kernel
theorem dX10_frame_89 : decode cX10_frame 89 = .ok (.ireturn, 1) := by decide +kernel
theorem dX10_frame_90 : decode cX10_frame 90 = .ok (.iload 5, 2) := by decide +kernel
theorem dX10_frame_92 : decode cX10_frame 92 = .ok (.invokestatic 225, 3) := by decide +kernel
theorem dX10_frame_95 : decode cX10_frame 95 = .ok (.ifCond .eq 25, 3) := by decide +kernel
theorem dX10_frame_98 : decode cX10_frame 98 = .ok (.iload 5, 2) := by decide +kernel
theorem dX10_frame_100 : decode cX10_frame 100 = .ok (.ifCond .ne 22, 3) := by decide +kernel
theorem dX10_frame_103 : decode cX10_frame 103 = .ok (.aload_n 0, 1) := by decide +kernel
theorem dX10_frame_104 : decode cX10_frame 104 = .ok (.getfield 23, 3) := by decide +kernel
theorem dX10_frame_107 : decode cX10_frame 107 = .ok (.bipush 6, 2) := by decide +kernel
theorem dX10_frame_109 : decode cX10_frame 109 = .ok (.aload_n 0, 1) := by decide +kernel
theorem dX10_frame_110 : decode cX10_frame 110 = .ok (.getfield 66, 3) := by decide +kernel
theorem dX10_frame_113 : decode cX10_frame 113 = .ok (.imul, 1) := by decide +kernel
theorem dX10_frame_114 : decode cX10_frame 114 = .ok (.iconst 2, 1) := by decide +kernel
theorem dX10_frame_115 : decode cX10_frame 115 = .ok (.iadd, 1) := by decide +kernel
theorem dX10_frame_116 : decode cX10_frame 116 = .ok (.iaload, 1) := by decide +kernel
theorem dX10_frame_117 : decode cX10_frame 117 = .ok (.ifCond .ne 5, 3) := by decide +kernel
theorem dX10_frame_120 : decode cX10_frame 120 = .ok (.iconst (-1), 1) := by decide +kernel
theorem dX10_frame_121 : decode cX10_frame 121 = .ok (.ireturn, 1) := by decide +kernel
theorem dX10_frame_122 : decode cX10_frame 122 = .ok (.aload_n 0, 1) := by decide +kernel
theorem dX10_frame_123 : decode cX10_frame 123 = .ok (.aload_n 0, 1) := by decide +kernel
theorem dX10_frame_124 : decode cX10_frame 124 = .ok (.getfield 66, 3) := by decide +kernel
theorem dX10_frame_127 : decode cX10_frame 127 = .ok (.iload 7, 2) := by decide +kernel
theorem dX10_frame_129 : decode cX10_frame 129 = .ok (.iconst 0, 1) := by decide +kernel
theorem dX10_frame_130 : decode cX10_frame 130 = .ok (.iload_n 1, 1) := by decide +kernel
theorem dX10_frame_131 : decode cX10_frame 131 = .ok (.invokevirtual 163, 3) := by decide +kernel
theorem dX10_frame_134 : decode cX10_frame 134 = .ok (.aload_n 0, 1) := by decide +kernel
theorem dX10_frame_135 : decode cX10_frame 135 = .ok (.aload_n 0, 1) := by decide +kernel
theorem dX10_frame_136 : decode cX10_frame 136 = .ok (.getfield 66, 3) := by decide +kernel
theorem dX10_frame_139 : decode cX10_frame 139 = .ok (.iload 7, 2) := by decide +kernel
theorem dX10_frame_141 : decode cX10_frame 141 = .ok (.iconst 1, 1) := by decide +kernel
theorem dX10_frame_142 : decode cX10_frame 142 = .ok (.iload_n 2, 1) := by decide +kernel
theorem dX10_frame_143 : decode cX10_frame 143 = .ok (.invokevirtual 163, 3) := by decide +kernel
theorem dX10_frame_146 : decode cX10_frame 146 = .ok (.aload_n 0, 1) := by decide +kernel
theorem dX10_frame_147 : decode cX10_frame 147 = .ok (.aload_n 0, 1) := by decide +kernel
theorem dX10_frame_148 : decode cX10_frame 148 = .ok (.getfield 66, 3) := by decide +kernel
theorem dX10_frame_151 : decode cX10_frame 151 = .ok (.iload 7, 2) := by decide +kernel
theorem dX10_frame_153 : decode cX10_frame 153 = .ok (.iconst 2, 1) := by decide +kernel
theorem dX10_frame_154 : decode cX10_frame 154 = .ok (.iload_n 3, 1) := by decide +kernel
theorem dX10_frame_155 : decode cX10_frame 155 = .ok (.invokevirtual 163, 3) := by decide +kernel
theorem dX10_frame_158 : decode cX10_frame 158 = .ok (.aload_n 0, 1) := by decide +kernel
theorem dX10_frame_159 : decode cX10_frame 159 = .ok (.aload_n 0, 1) := by decide +kernel
theorem dX10_frame_160 : decode cX10_frame 160 = .ok (.getfield 66, 3) := by decide +kernel
theorem dX10_frame_163 : decode cX10_frame 163 = .ok (.iload 7, 2) := by decide +kernel
theorem dX10_frame_165 : decode cX10_frame 165 = .ok (.iconst 3, 1) := by decide +kernel
theorem dX10_frame_166 : decode cX10_frame 166 = .ok (.iload 4, 2) := by decide +kernel
theorem dX10_frame_168 : decode cX10_frame 168 = .ok (.invokevirtual 163, 3) := by decide +kernel
theorem dX10_frame_171 : decode cX10_frame 171 = .ok (.aload_n 0, 1) := by decide +kernel
theorem dX10_frame_172 : decode cX10_frame 172 = .ok (.aload_n 0, 1) := by decide +kernel
theorem dX10_frame_173 : decode cX10_frame 173 = .ok (.getfield 66, 3) := by decide +kernel
theorem dX10_frame_176 : decode cX10_frame 176 = .ok (.iload 7, 2) := by decide +kernel
theorem dX10_frame_178 : decode cX10_frame 178 = .ok (.iconst 4, 1) := by decide +kernel
theorem dX10_frame_179 : decode cX10_frame 179 = .ok (.iload 5, 2) := by decide +kernel
theorem dX10_frame_181 : decode cX10_frame 181 = .ok (.invokevirtual 163, 3) := by decide +kernel
theorem dX10_frame_184 : decode cX10_frame 184 = .ok (.aload_n 0, 1) := by decide +kernel
theorem dX10_frame_185 : decode cX10_frame 185 = .ok (.aload_n 0, 1) := by decide +kernel
theorem dX10_frame_186 : decode cX10_frame 186 = .ok (.getfield 66, 3) := by decide +kernel
theorem dX10_frame_189 : decode cX10_frame 189 = .ok (.iload 7, 2) := by decide +kernel
theorem dX10_frame_191 : decode cX10_frame 191 = .ok (.iconst 5, 1) := by decide +kernel
theorem dX10_frame_192 : decode cX10_frame 192 = .ok (.iload 6, 2) := by decide +kernel
theorem dX10_frame_194 : decode cX10_frame 194 = .ok (.ifCond .eq 7, 3) := by decide +kernel
theorem dX10_frame_197 : decode cX10_frame 197 = .ok (.iconst 1, 1) := by decide +kernel
theorem dX10_frame_198 : decode cX10_frame 198 = .ok (.goto 4, 3) := by decide +kernel
theorem dX10_frame_201 : decode cX10_frame 201 = .ok (.iconst 0, 1) := by decide +kernel
theorem dX10_frame_202 : decode cX10_frame 202 = .ok (.invokevirtual 163, 3) := by decide +kernel
theorem dX10_frame_205 : decode cX10_frame 205 = .ok (.aload_n 0, 1) := by decide +kernel
theorem dX10_frame_206 : decode cX10_frame 206 = .ok (.aload_n 0, 1) := by decide +kernel
theorem dX10_frame_207 : decode cX10_frame 207 = .ok (.getfield 66, 3) := by decide +kernel
theorem dX10_frame_210 : decode cX10_frame 210 = .ok (.iload 7, 2) := by decide +kernel
theorem dX10_frame_212 : decode cX10_frame 212 = .ok (.bipush 6, 2) := by decide +kernel
theorem dX10_frame_214 : decode cX10_frame 214 = .ok (.iconst 0, 1) := by decide +kernel
theorem dX10_frame_215 : decode cX10_frame 215 = .ok (.invokevirtual 163, 3) := by decide +kernel
theorem dX10_frame_218 : decode cX10_frame 218 = .ok (.aload_n 0, 1) := by decide +kernel
theorem dX10_frame_219 : decode cX10_frame 219 = .ok (.aload_n 0, 1) := by decide +kernel
theorem dX10_frame_220 : decode cX10_frame 220 = .ok (.getfield 66, 3) := by decide +kernel
theorem dX10_frame_223 : decode cX10_frame 223 = .ok (.iload 7, 2) := by decide +kernel
theorem dX10_frame_225 : decode cX10_frame 225 = .ok (.bipush 7, 2) := by decide +kernel
theorem dX10_frame_227 : decode cX10_frame 227 = .ok (.iconst (-1), 1) := by decide +kernel
theorem dX10_frame_228 : decode cX10_frame 228 = .ok (.invokevirtual 163, 3) := by decide +kernel
theorem dX10_frame_231 : decode cX10_frame 231 = .ok (.aload_n 0, 1) := by decide +kernel
theorem dX10_frame_232 : decode cX10_frame 232 = .ok (.aload_n 0, 1) := by decide +kernel
theorem dX10_frame_233 : decode cX10_frame 233 = .ok (.getfield 66, 3) := by decide +kernel
theorem dX10_frame_236 : decode cX10_frame 236 = .ok (.iload 7, 2) := by decide +kernel
theorem dX10_frame_238 : decode cX10_frame 238 = .ok (.bipush 8, 2) := by decide +kernel
theorem dX10_frame_240 : decode cX10_frame 240 = .ok (.iconst 0, 1) := by decide +kernel
theorem dX10_frame_241 : decode cX10_frame 241 = .ok (.invokevirtual 163, 3) := by decide +kernel
theorem dX10_frame_244 : decode cX10_frame 244 = .ok (.aload_n 0, 1) := by decide +kernel
theorem dX10_frame_245 : decode cX10_frame 245 = .ok (.aload_n 0, 1) := by decide +kernel
theorem dX10_frame_246 : decode cX10_frame 246 = .ok (.getfield 66, 3) := by decide +kernel
theorem dX10_frame_249 : decode cX10_frame 249 = .ok (.iload 7, 2) := by decide +kernel
theorem dX10_frame_251 : decode cX10_frame 251 = .ok (.bipush 9, 2) := by decide +kernel
theorem dX10_frame_253 : decode cX10_frame 253 = .ok (.iconst 0, 1) := by decide +kernel
theorem dX10_frame_254 : decode cX10_frame 254 = .ok (.invokevirtual 163, 3) := by decide +kernel
theorem dX10_frame_257 : decode cX10_frame 257 = .ok (.iconst 0, 1) := by decide +kernel
theorem dX10_frame_258 : decode cX10_frame 258 = .ok (.istore 10, 2) := by decide +kernel
theorem dX10_frame_260 : decode cX10_frame 260 = .ok (.iload 10, 2) := by decide +kernel
theorem dX10_frame_262 : decode cX10_frame 262 = .ok (.iload 5, 2) := by decide +kernel
theorem dX10_frame_264 : decode cX10_frame 264 = .ok (.if_icmp .ge 26, 3) := by decide +kernel
theorem dX10_frame_267 : decode cX10_frame 267 = .ok (.aload_n 0, 1) := by decide +kernel
theorem dX10_frame_268 : decode cX10_frame 268 = .ok (.getfield 33, 3) := by decide +kernel
theorem dX10_frame_271 : decode cX10_frame 271 = .ok (.aload_n 0, 1) := by decide +kernel
theorem dX10_frame_272 : decode cX10_frame 272 = .ok (.getfield 66, 3) := by decide +kernel
theorem dX10_frame_275 : decode cX10_frame 275 = .ok (.iload 7, 2) := by decide +kernel
theorem dX10_frame_277 : decode cX10_frame 277 = .ok (.iload 10, 2) := by decide +kernel
theorem dX10_frame_279 : decode cX10_frame 279 = .ok (.invokestatic 160, 3) := by decide +kernel
theorem dX10_frame_282 : decode cX10_frame 282 = .ok (.iconst 0, 1) := by decide +kernel
theorem dX10_frame_283 : decode cX10_frame 283 = .ok (.iastore, 1) := by decide +kernel
theorem dX10_frame_284 : decode cX10_frame 284 = .ok (.iinc 10 1, 3) := by decide +kernel
theorem dX10_frame_287 : decode cX10_frame 287 = .ok (.goto (-27), 3) := by decide +kernel
theorem dX10_frame_290 : decode cX10_frame 290 = .ok (.iconst 0, 1) := by decide +kernel
theorem dX10_frame_291 : decode cX10_frame 291 = .ok (.istore 10, 2) := by decide +kernel
theorem dX10_frame_293 : decode cX10_frame 293 = .ok (.iload 10, 2) := by decide +kernel
theorem dX10_frame_295 : decode cX10_frame 295 = .ok (.iload_n 3, 1) := by decide +kernel
theorem dX10_frame_296 : decode cX10_frame 296 = .ok (.iload 4, 2) := by decide +kernel
theorem dX10_frame_298 : decode cX10_frame 298 = .ok (.imul, 1) := by decide +kernel
theorem dX10_frame_299 : decode cX10_frame 299 = .ok (.if_icmp .ge 22, 3) := by decide +kernel
theorem dX10_frame_302 : decode cX10_frame 302 = .ok (.aload_n 0, 1) := by decide +kernel
theorem dX10_frame_303 : decode cX10_frame 303 = .ok (.aload_n 0, 1) := by decide +kernel
theorem dX10_frame_304 : decode cX10_frame 304 = .ok (.getfield 66, 3) := by decide +kernel
theorem dX10_frame_307 : decode cX10_frame 307 = .ok (.iload 7, 2) := by decide +kernel
theorem dX10_frame_309 : decode cX10_frame 309 = .ok (.iload 10, 2) := by decide +kernel
theorem dX10_frame_311 : decode cX10_frame 311 = .ok (.iconst 0, 1) := by decide +kernel
theorem dX10_frame_312 : decode cX10_frame 312 = .ok (.invokevirtual 215, 3) := by decide +kernel
theorem dX10_frame_315 : decode cX10_frame 315 = .ok (.iinc 10 1, 3) := by decide +kernel
theorem dX10_frame_318 : decode cX10_frame 318 = .ok (.goto (-25), 3) := by decide +kernel
theorem dX10_frame_321 : decode cX10_frame 321 = .ok (.aload_n 0, 1) := by decide +kernel
theorem dX10_frame_322 : decode cX10_frame 322 = .ok (.getfield 23, 3) := by decide +kernel
theorem dX10_frame_325 : decode cX10_frame 325 = .ok (.bipush 6, 2) := by decide +kernel
theorem dX10_frame_327 : decode cX10_frame 327 = .ok (.aload_n 0, 1) := by decide +kernel
theorem dX10_frame_328 : decode cX10_frame 328 = .ok (.getfield 66, 3) := by decide +kernel
theorem dX10_frame_331 : decode cX10_frame 331 = .ok (.imul, 1) := by decide +kernel
theorem dX10_frame_332 : decode cX10_frame 332 = .ok (.iconst 5, 1) := by decide +kernel
theorem dX10_frame_333 : decode cX10_frame 333 = .ok (.iadd, 1) := by decide +kernel
theorem dX10_frame_334 : decode cX10_frame 334 = .ok (.dup2, 1) := by decide +kernel
theorem dX10_frame_335 : decode cX10_frame 335 = .ok (.iaload, 1) := by decide +kernel
theorem dX10_frame_336 : decode cX10_frame 336 = .ok (.iconst 1, 1) := by decide +kernel
theorem dX10_frame_337 : decode cX10_frame 337 = .ok (.iadd, 1) := by decide +kernel
theorem dX10_frame_338 : decode cX10_frame 338 = .ok (.iastore, 1) := by decide +kernel
theorem dX10_frame_339 : decode cX10_frame 339 = .ok (.iload 7, 2) := by decide +kernel
theorem dX10_frame_341 : decode cX10_frame 341 = .ok (.ireturn, 1) := by decide +kernel
theorem dX10_control_0 : decode cX10_control 0 = .ok (.aload_n 0, 1) := by decide +kernel
theorem dX10_control_1 : decode cX10_control 1 = .ok (.iload_n 1, 1) := by decide +kernel
theorem dX10_control_2 : decode cX10_control 2 = .ok (.invokevirtual 229, 3) := by decide +kernel
theorem dX10_control_5 : decode cX10_control 5 = .ok (.ifCond .eq 35, 3) := by decide +kernel
theorem dX10_control_8 : decode cX10_control 8 = .ok (.iload_n 2, 1) := by decide +kernel
theorem dX10_control_9 : decode cX10_control 9 = .ok (.iconst 0, 1) := by decide +kernel
theorem dX10_control_10 : decode cX10_control 10 = .ok (.bipush 7, 2) := by decide +kernel
theorem dX10_control_12 : decode cX10_control 12 = .ok (.invokestatic 221, 3) := by decide +kernel
theorem dX10_control_15 : decode cX10_control 15 = .ok (.ifCond .eq 25, 3) := by decide +kernel
theorem dX10_control_18 : decode cX10_control 18 = .ok (.iload_n 3, 1) := by decide +kernel
theorem dX10_control_19 : decode cX10_control 19 = .ok (.iconst (-1), 1) := by decide +kernel
theorem dX10_control_20 : decode cX10_control 20 = .ok (.sipush 255, 3) := by decide +kernel
theorem dX10_control_23 : decode cX10_control 23 = .ok (.invokestatic 221, 3) := by decide +kernel
theorem dX10_control_26 : decode cX10_control 26 = .ok (.ifCond .eq 14, 3) := by decide +kernel
theorem dX10_control_29 : decode cX10_control 29 = .ok (.iload 4, 2) := by decide +kernel
theorem dX10_control_31 : decode cX10_control 31 = .ok (.iconst 0, 1) := by decide +kernel
theorem dX10_control_32 : decode cX10_control 32 = .ok (.ldc 236, 2) := by decide +kernel
theorem dX10_control_34 : decode cX10_control 34 = .ok (.invokestatic 221, 3) := by decide +kernel
theorem dX10_control_37 : decode cX10_control 37 = .ok (.ifCond .ne 5, 3) := by decide +kernel
theorem dX10_control_40 : decode cX10_control 40 = .ok (.iconst 0, 1) := by decide +kernel
theorem dX10_control_41 : decode cX10_control 41 = .ok (.ireturn, 1) := by decide +kernel
theorem dX10_control_42 : decode cX10_control 42 = .ok (.aload_n 0, 1) := by decide +kernel
theorem dX10_control_43 : decode cX10_control 43 = .ok (.aload_n 0, 1) := by decide +kernel
theorem dX10_control_44 : decode cX10_control 44 = .ok (.getfield 66, 3) := by decide +kernel
theorem dX10_control_47 : decode cX10_control 47 = .ok (.iload_n 1, 1) := by decide +kernel
theorem dX10_control_48 : decode cX10_control 48 = .ok (.bipush 6, 2) := by decide +kernel
theorem dX10_control_50 : decode cX10_control 50 = .ok (.iload_n 2, 1) := by decide +kernel
theorem dX10_control_51 : decode cX10_control 51 = .ok (.invokevirtual 163, 3) := by decide +kernel
theorem dX10_control_54 : decode cX10_control 54 = .ok (.aload_n 0, 1) := by decide +kernel
theorem dX10_control_55 : decode cX10_control 55 = .ok (.aload_n 0, 1) := by decide +kernel
theorem dX10_control_56 : decode cX10_control 56 = .ok (.getfield 66, 3) := by decide +kernel
theorem dX10_control_59 : decode cX10_control 59 = .ok (.iload_n 1, 1) := by decide +kernel
theorem dX10_control_60 : decode cX10_control 60 = .ok (.bipush 7, 2) := by decide +kernel
theorem dX10_control_62 : decode cX10_control 62 = .ok (.iload_n 3, 1) := by decide +kernel
theorem dX10_control_63 : decode cX10_control 63 = .ok (.invokevirtual 163, 3) := by decide +kernel
theorem dX10_control_66 : decode cX10_control 66 = .ok (.aload_n 0, 1) := by decide +kernel
theorem dX10_control_67 : decode cX10_control 67 = .ok (.aload_n 0, 1) := by decide +kernel
theorem dX10_control_68 : decode cX10_control 68 = .ok (.getfield 66, 3) := by decide +kernel
theorem dX10_control_71 : decode cX10_control 71 = .ok (.iload_n 1, 1) := by decide +kernel
theorem dX10_control_72 : decode cX10_control 72 = .ok (.bipush 8, 2) := by decide +kernel
theorem dX10_control_74 : decode cX10_control 74 = .ok (.iload 4, 2) := by decide +kernel
theorem dX10_control_76 : decode cX10_control 76 = .ok (.invokevirtual 163, 3) := by decide +kernel
theorem dX10_control_79 : decode cX10_control 79 = .ok (.aload_n 0, 1) := by decide +kernel
theorem dX10_control_80 : decode cX10_control 80 = .ok (.aload_n 0, 1) := by decide +kernel
theorem dX10_control_81 : decode cX10_control 81 = .ok (.getfield 66, 3) := by decide +kernel
theorem dX10_control_84 : decode cX10_control 84 = .ok (.iload_n 1, 1) := by decide +kernel
theorem dX10_control_85 : decode cX10_control 85 = .ok (.bipush 9, 2) := by decide +kernel
theorem dX10_control_87 : decode cX10_control 87 = .ok (.iload 5, 2) := by decide +kernel
theorem dX10_control_89 : decode cX10_control 89 = .ok (.ifCond .eq 7, 3) := by decide +kernel
theorem dX10_control_92 : decode cX10_control 92 = .ok (.iconst 1, 1) := by decide +kernel
theorem dX10_control_93 : decode cX10_control 93 = .ok (.goto 4, 3) := by decide +kernel
theorem dX10_control_96 : decode cX10_control 96 = .ok (.iconst 0, 1) := by decide +kernel
theorem dX10_control_97 : decode cX10_control 97 = .ok (.invokevirtual 163, 3) := by decide +kernel
theorem dX10_control_100 : decode cX10_control 100 = .ok (.iconst 1, 1) := by decide +kernel
theorem dX10_control_101 : decode cX10_control 101 = .ok (.ireturn, 1) := by decide +kernel
theorem dX10_paint_0 : decode cX10_paint 0 = .ok (.aload_n 0, 1) := by decide +kernel
theorem dX10_paint_1 : decode cX10_paint 1 = .ok (.iload_n 1, 1) := by decide +kernel
theorem dX10_paint_2 : decode cX10_paint 2 = .ok (.invokevirtual 229, 3) := by decide +kernel
theorem dX10_paint_5 : decode cX10_paint 5 = .ok (.ifCond .eq 23, 3) := by decide +kernel
theorem dX10_paint_8 : decode cX10_paint 8 = .ok (.iload 4, 2) := by decide +kernel
theorem dX10_paint_10 : decode cX10_paint 10 = .ok (.iconst 0, 1) := by decide +kernel
theorem dX10_paint_11 : decode cX10_paint 11 = .ok (.aload_n 0, 1) := by decide +kernel
theorem dX10_paint_12 : decode cX10_paint 12 = .ok (.aload_n 0, 1) := by decide +kernel
theorem dX10_paint_13 : decode cX10_paint 13 = .ok (.getfield 66, 3) := by decide +kernel
theorem dX10_paint_16 : decode cX10_paint 16 = .ok (.iload_n 1, 1) := by decide +kernel
theorem dX10_paint_17 : decode cX10_paint 17 = .ok (.invokevirtual 193, 3) := by decide +kernel
theorem dX10_paint_20 : decode cX10_paint 20 = .ok (.iconst 1, 1) := by decide +kernel
theorem dX10_paint_21 : decode cX10_paint 21 = .ok (.isub, 1) := by decide +kernel
theorem dX10_paint_22 : decode cX10_paint 22 = .ok (.invokestatic 221, 3) := by decide +kernel
theorem dX10_paint_25 : decode cX10_paint 25 = .ok (.ifCond .ne 5, 3) := by decide +kernel
theorem dX10_paint_28 : decode cX10_paint 28 = .ok (.iconst 0, 1) := by decide +kernel
theorem dX10_paint_29 : decode cX10_paint 29 = .ok (.ireturn, 1) := by decide +kernel
theorem dX10_paint_30 : decode cX10_paint 30 = .ok (.aload_n 0, 1) := by decide +kernel
theorem dX10_paint_31 : decode cX10_paint 31 = .ok (.aload_n 0, 1) := by decide +kernel
theorem dX10_paint_32 : decode cX10_paint 32 = .ok (.getfield 66, 3) := by decide +kernel
theorem dX10_paint_35 : decode cX10_paint 35 = .ok (.iload_n 1, 1) := by decide +kernel
theorem dX10_paint_36 : decode cX10_paint 36 = .ok (.invokevirtual 189, 3) := by decide +kernel
theorem dX10_paint_39 : decode cX10_paint 39 = .ok (.istore 5, 2) := by decide +kernel
theorem dX10_paint_41 : decode cX10_paint 41 = .ok (.iload_n 2, 1) := by decide +kernel
theorem dX10_paint_42 : decode cX10_paint 42 = .ok (.iconst 0, 1) := by decide +kernel
theorem dX10_paint_43 : decode cX10_paint 43 = .ok (.iload 5, 2) := by decide +kernel
theorem dX10_paint_45 : decode cX10_paint 45 = .ok (.invokestatic 221, 3) := by decide +kernel
theorem dX10_paint_48 : decode cX10_paint 48 = .ok (.ifCond .eq 15, 3) := by decide +kernel
theorem dX10_paint_51 : decode cX10_paint 51 = .ok (.iload_n 3, 1) := by decide +kernel
theorem dX10_paint_52 : decode cX10_paint 52 = .ok (.iconst 0, 1) := by decide +kernel
theorem dX10_paint_53 : decode cX10_paint 53 = .ok (.iload 5, 2) := by decide +kernel
theorem dX10_paint_55 : decode cX10_paint 55 = .ok (.iload_n 2, 1) := by decide +kernel
theorem dX10_paint_56 : decode cX10_paint 56 = .ok (.isub, 1) := by decide +kernel
theorem dX10_paint_57 : decode cX10_paint 57 = .ok (.invokestatic 221, 3) := by decide +kernel
theorem dX10_paint_60 : decode cX10_paint 60 = .ok (.ifCond .ne 5, 3) := by decide +kernel
theorem dX10_paint_63 : decode cX10_paint 63 = .ok (.iconst 0, 1) := by decide +kernel
theorem dX10_paint_64 : decode cX10_paint 64 = .ok (.ireturn, 1) := by decide +kernel
theorem dX10_paint_65 : decode cX10_paint 65 = .ok (.iconst 0, 1) := by decide +kernel
theorem dX10_paint_66 : decode cX10_paint 66 = .ok (.istore 6, 2) := by decide +kernel
theorem dX10_paint_68 : decode cX10_paint 68 = .ok (.iload 6, 2) := by decide +kernel
theorem dX10_paint_70 : decode cX10_paint 70 = .ok (.iload_n 3, 1) := by decide +kernel
theorem dX10_paint_71 : decode cX10_paint 71 = .ok (.if_icmp .ge 24, 3) := by decide +kernel
theorem dX10_paint_74 : decode cX10_paint 74 = .ok (.aload_n 0, 1) := by decide +kernel
theorem dX10_paint_75 : decode cX10_paint 75 = .ok (.aload_n 0, 1) := by decide +kernel
theorem dX10_paint_76 : decode cX10_paint 76 = .ok (.getfield 66, 3) := by decide +kernel
theorem dX10_paint_79 : decode cX10_paint 79 = .ok (.iload_n 1, 1) := by decide +kernel
theorem dX10_paint_80 : decode cX10_paint 80 = .ok (.iload_n 2, 1) := by decide +kernel
theorem dX10_paint_81 : decode cX10_paint 81 = .ok (.iload 6, 2) := by decide +kernel
theorem dX10_paint_83 : decode cX10_paint 83 = .ok (.iadd, 1) := by decide +kernel
theorem dX10_paint_84 : decode cX10_paint 84 = .ok (.iload 4, 2) := by decide +kernel
theorem dX10_paint_86 : decode cX10_paint 86 = .ok (.invokevirtual 215, 3) := by decide +kernel
theorem dX10_paint_89 : decode cX10_paint 89 = .ok (.iinc 6 1, 3) := by decide +kernel
theorem dX10_paint_92 : decode cX10_paint 92 = .ok (.goto (-24), 3) := by decide +kernel
theorem dX10_paint_95 : decode cX10_paint 95 = .ok (.iconst 1, 1) := by decide +kernel
theorem dX10_paint_96 : decode cX10_paint 96 = .ok (.ireturn, 1) := by decide +kernel
theorem dX10_say_0 : decode cX10_say 0 = .ok (.aload_n 0, 1) := by decide +kernel
theorem dX10_say_1 : decode cX10_say 1 = .ok (.getfield 237, 3) := by decide +kernel
theorem dX10_say_4 : decode cX10_say 4 = .ok (.sipush 12000, 3) := by decide +kernel
theorem dX10_say_7 : decode cX10_say 7 = .ok (.if_icmp .ge 14, 3) := by decide +kernel
theorem dX10_say_10 : decode cX10_say 10 = .ok (.aload_n 0, 1) := by decide +kernel
theorem dX10_say_11 : decode cX10_say 11 = .ok (.getfield 41, 3) := by decide +kernel
theorem dX10_say_14 : decode cX10_say 14 = .ok (.aload_n 0, 1) := by decide +kernel
theorem dX10_say_15 : decode cX10_say 15 = .ok (.getfield 237, 3) := by decide +kernel
theorem dX10_say_18 : decode cX10_say 18 = .ok (.iload_n 1, 1) := by decide +kernel
theorem dX10_say_19 : decode cX10_say 19 = .ok (.i2b, 1) := by decide +kernel
theorem dX10_say_20 : decode cX10_say 20 = .ok (.bastore, 1) := by decide +kernel
theorem dX10_say_21 : decode cX10_say 21 = .ok (.aload_n 0, 1) := by decide +kernel
theorem dX10_say_22 : decode cX10_say 22 = .ok (.dup, 1) := by decide +kernel
theorem dX10_say_23 : decode cX10_say 23 = .ok (.getfield 237, 3) := by decide +kernel
theorem dX10_say_26 : decode cX10_say 26 = .ok (.iconst 1, 1) := by decide +kernel
theorem dX10_say_27 : decode cX10_say 27 = .ok (.iadd, 1) := by decide +kernel
theorem dX10_say_28 : decode cX10_say 28 = .ok (.putfield 237, 3) := by decide +kernel
theorem dX10_say_31 : decode cX10_say 31 = .ok (.return_, 1) := by decide +kernel
theorem dX10_sayTwo_0 : decode cX10_sayTwo 0 = .ok (.aload_n 0, 1) := by decide +kernel
theorem dX10_sayTwo_1 : decode cX10_sayTwo 1 = .ok (.iload_n 1, 1) := by decide +kernel
theorem dX10_sayTwo_2 : decode cX10_sayTwo 2 = .ok (.invokevirtual 240, 3) := by decide +kernel
theorem dX10_sayTwo_5 : decode cX10_sayTwo 5 = .ok (.aload_n 0, 1) := by decide +kernel
theorem dX10_sayTwo_6 : decode cX10_sayTwo 6 = .ok (.iload_n 1, 1) := by decide +kernel
theorem dX10_sayTwo_7 : decode cX10_sayTwo 7 = .ok (.bipush 8, 2) := by decide +kernel
theorem dX10_sayTwo_9 : decode cX10_sayTwo 9 = .ok (.ishr, 1) := by decide +kernel
theorem dX10_sayTwo_10 : decode cX10_sayTwo 10 = .ok (.invokevirtual 240, 3) := by decide +kernel
theorem dX10_sayTwo_13 : decode cX10_sayTwo 13 = .ok (.return_, 1) := by decide +kernel
theorem dX10_sayTable_0 : decode cX10_sayTable 0 = .ok (.iconst 0, 1) := by decide +kernel
theorem dX10_sayTable_1 : decode cX10_sayTable 1 = .ok (.istore 4, 2) := by decide +kernel
theorem dX10_sayTable_3 : decode cX10_sayTable 3 = .ok (.iload 4, 2) := by decide +kernel
theorem dX10_sayTable_5 : decode cX10_sayTable 5 = .ok (.iload_n 3, 1) := by decide +kernel
theorem dX10_sayTable_6 : decode cX10_sayTable 6 = .ok (.if_icmp .ge 45, 3) := by decide +kernel
theorem dX10_sayTable_9 : decode cX10_sayTable 9 = .ok (.aload_n 0, 1) := by decide +kernel
theorem dX10_sayTable_10 : decode cX10_sayTable 10 = .ok (.aload_n 1, 1) := by decide +kernel
theorem dX10_sayTable_11 : decode cX10_sayTable 11 = .ok (.iload_n 2, 1) := by decide +kernel
theorem dX10_sayTable_12 : decode cX10_sayTable 12 = .ok (.iload 4, 2) := by decide +kernel
theorem dX10_sayTable_14 : decode cX10_sayTable 14 = .ok (.iadd, 1) := by decide +kernel
theorem dX10_sayTable_15 : decode cX10_sayTable 15 = .ok (.iaload, 1) := by decide +kernel
theorem dX10_sayTable_16 : decode cX10_sayTable 16 = .ok (.bipush 16, 2) := by decide +kernel
theorem dX10_sayTable_18 : decode cX10_sayTable 18 = .ok (.ishr, 1) := by decide +kernel
theorem dX10_sayTable_19 : decode cX10_sayTable 19 = .ok (.invokevirtual 240, 3) := by decide +kernel
theorem dX10_sayTable_22 : decode cX10_sayTable 22 = .ok (.aload_n 0, 1) := by decide +kernel
theorem dX10_sayTable_23 : decode cX10_sayTable 23 = .ok (.aload_n 1, 1) := by decide +kernel
theorem dX10_sayTable_24 : decode cX10_sayTable 24 = .ok (.iload_n 2, 1) := by decide +kernel
theorem dX10_sayTable_25 : decode cX10_sayTable 25 = .ok (.iload 4, 2) := by decide +kernel
theorem dX10_sayTable_27 : decode cX10_sayTable 27 = .ok (.iadd, 1) := by decide +kernel
theorem dX10_sayTable_28 : decode cX10_sayTable 28 = .ok (.iaload, 1) := by decide +kernel
theorem dX10_sayTable_29 : decode cX10_sayTable 29 = .ok (.bipush 8, 2) := by decide +kernel
theorem dX10_sayTable_31 : decode cX10_sayTable 31 = .ok (.ishr, 1) := by decide +kernel
theorem dX10_sayTable_32 : decode cX10_sayTable 32 = .ok (.invokevirtual 240, 3) := by decide +kernel
theorem dX10_sayTable_35 : decode cX10_sayTable 35 = .ok (.aload_n 0, 1) := by decide +kernel
theorem dX10_sayTable_36 : decode cX10_sayTable 36 = .ok (.aload_n 1, 1) := by decide +kernel
theorem dX10_sayTable_37 : decode cX10_sayTable 37 = .ok (.iload_n 2, 1) := by decide +kernel
theorem dX10_sayTable_38 : decode cX10_sayTable 38 = .ok (.iload 4, 2) := by decide +kernel
theorem dX10_sayTable_40 : decode cX10_sayTable 40 = .ok (.iadd, 1) := by decide +kernel
theorem dX10_sayTable_41 : decode cX10_sayTable 41 = .ok (.iaload, 1) := by decide +kernel
theorem dX10_sayTable_42 : decode cX10_sayTable 42 = .ok (.invokevirtual 240, 3) := by decide +kernel
theorem dX10_sayTable_45 : decode cX10_sayTable 45 = .ok (.iinc 4 1, 3) := by decide +kernel
theorem dX10_sayTable_48 : decode cX10_sayTable 48 = .ok (.goto (-45), 3) := by decide +kernel
theorem dX10_sayTable_51 : decode cX10_sayTable 51 = .ok (.return_, 1) := by decide +kernel
theorem dX10_bitsOf_0 : decode cX10_bitsOf 0 = .ok (.iconst 0, 1) := by decide +kernel
theorem dX10_bitsOf_1 : decode cX10_bitsOf 1 = .ok (.istore_n 1, 1) := by decide +kernel
theorem dX10_bitsOf_2 : decode cX10_bitsOf 2 = .ok (.iconst 2, 1) := by decide +kernel
theorem dX10_bitsOf_3 : decode cX10_bitsOf 3 = .ok (.iload_n 1, 1) := by decide +kernel
theorem dX10_bitsOf_4 : decode cX10_bitsOf 4 = .ok (.ishl, 1) := by decide +kernel
theorem dX10_bitsOf_5 : decode cX10_bitsOf 5 = .ok (.iload_n 0, 1) := by decide +kernel
theorem dX10_bitsOf_6 : decode cX10_bitsOf 6 = .ok (.if_icmp .ge 9, 3) := by decide +kernel
theorem dX10_bitsOf_9 : decode cX10_bitsOf 9 = .ok (.iinc 1 1, 3) := by decide +kernel
theorem dX10_bitsOf_12 : decode cX10_bitsOf 12 = .ok (.goto (-10), 3) := by decide +kernel
theorem dX10_bitsOf_15 : decode cX10_bitsOf 15 = .ok (.iload_n 1, 1) := by decide +kernel
theorem dX10_bitsOf_16 : decode cX10_bitsOf 16 = .ok (.ireturn, 1) := by decide +kernel
theorem dX10_write_0 : decode cX10_write 0 = .ok (.aload_n 0, 1) := by decide +kernel
theorem dX10_write_1 : decode cX10_write 1 = .ok (.iconst 0, 1) := by decide +kernel
theorem dX10_write_2 : decode cX10_write 2 = .ok (.putfield 237, 3) := by decide +kernel
theorem dX10_write_5 : decode cX10_write 5 = .ok (.aload_n 0, 1) := by decide +kernel
theorem dX10_write_6 : decode cX10_write 6 = .ok (.bipush 71, 2) := by decide +kernel
theorem dX10_write_8 : decode cX10_write 8 = .ok (.invokevirtual 240, 3) := by decide +kernel
theorem dX10_write_11 : decode cX10_write 11 = .ok (.aload_n 0, 1) := by decide +kernel
theorem dX10_write_12 : decode cX10_write 12 = .ok (.bipush 73, 2) := by decide +kernel
theorem dX10_write_14 : decode cX10_write 14 = .ok (.invokevirtual 240, 3) := by decide +kernel
theorem dX10_write_17 : decode cX10_write 17 = .ok (.aload_n 0, 1) := by decide +kernel
theorem dX10_write_18 : decode cX10_write 18 = .ok (.bipush 70, 2) := by decide +kernel
theorem dX10_write_20 : decode cX10_write 20 = .ok (.invokevirtual 240, 3) := by decide +kernel
theorem dX10_write_23 : decode cX10_write 23 = .ok (.aload_n 0, 1) := by decide +kernel
theorem dX10_write_24 : decode cX10_write 24 = .ok (.bipush 56, 2) := by decide +kernel
theorem dX10_write_26 : decode cX10_write 26 = .ok (.invokevirtual 240, 3) := by decide +kernel
theorem dX10_write_29 : decode cX10_write 29 = .ok (.aload_n 0, 1) := by decide +kernel
theorem dX10_write_30 : decode cX10_write 30 = .ok (.bipush 57, 2) := by decide +kernel
theorem dX10_write_32 : decode cX10_write 32 = .ok (.invokevirtual 240, 3) := by decide +kernel
theorem dX10_write_35 : decode cX10_write 35 = .ok (.aload_n 0, 1) := by decide +kernel
theorem dX10_write_36 : decode cX10_write 36 = .ok (.bipush 97, 2) := by decide +kernel
theorem dX10_write_38 : decode cX10_write 38 = .ok (.invokevirtual 240, 3) := by decide +kernel
theorem dX10_write_41 : decode cX10_write 41 = .ok (.aload_n 0, 1) := by decide +kernel
theorem dX10_write_42 : decode cX10_write 42 = .ok (.aload_n 0, 1) := by decide +kernel
theorem dX10_write_43 : decode cX10_write 43 = .ok (.getfield 23, 3) := by decide +kernel
theorem dX10_write_46 : decode cX10_write 46 = .ok (.bipush 6, 2) := by decide +kernel
theorem dX10_write_48 : decode cX10_write 48 = .ok (.aload_n 0, 1) := by decide +kernel
theorem dX10_write_49 : decode cX10_write 49 = .ok (.getfield 66, 3) := by decide +kernel
theorem dX10_write_52 : decode cX10_write 52 = .ok (.imul, 1) := by decide +kernel
theorem dX10_write_53 : decode cX10_write 53 = .ok (.iaload, 1) := by decide +kernel
theorem dX10_write_54 : decode cX10_write 54 = .ok (.invokevirtual 243, 3) := by decide +kernel
theorem dX10_write_57 : decode cX10_write 57 = .ok (.aload_n 0, 1) := by decide +kernel
theorem dX10_write_58 : decode cX10_write 58 = .ok (.aload_n 0, 1) := by decide +kernel
theorem dX10_write_59 : decode cX10_write 59 = .ok (.getfield 23, 3) := by decide +kernel
theorem dX10_write_62 : decode cX10_write 62 = .ok (.bipush 6, 2) := by decide +kernel
theorem dX10_write_64 : decode cX10_write 64 = .ok (.aload_n 0, 1) := by decide +kernel
theorem dX10_write_65 : decode cX10_write 65 = .ok (.getfield 66, 3) := by decide +kernel
theorem dX10_write_68 : decode cX10_write 68 = .ok (.imul, 1) := by decide +kernel
theorem dX10_write_69 : decode cX10_write 69 = .ok (.iconst 1, 1) := by decide +kernel
theorem dX10_write_70 : decode cX10_write 70 = .ok (.iadd, 1) := by decide +kernel
theorem dX10_write_71 : decode cX10_write 71 = .ok (.iaload, 1) := by decide +kernel
theorem dX10_write_72 : decode cX10_write 72 = .ok (.invokevirtual 243, 3) := by decide +kernel
theorem dX10_write_75 : decode cX10_write 75 = .ok (.aload_n 0, 1) := by decide +kernel
theorem dX10_write_76 : decode cX10_write 76 = .ok (.getfield 23, 3) := by decide +kernel
theorem dX10_write_79 : decode cX10_write 79 = .ok (.bipush 6, 2) := by decide +kernel
theorem dX10_write_81 : decode cX10_write 81 = .ok (.aload_n 0, 1) := by decide +kernel
theorem dX10_write_82 : decode cX10_write 82 = .ok (.getfield 66, 3) := by decide +kernel
theorem dX10_write_85 : decode cX10_write 85 = .ok (.imul, 1) := by decide +kernel
theorem dX10_write_86 : decode cX10_write 86 = .ok (.iconst 2, 1) := by decide +kernel
theorem dX10_write_87 : decode cX10_write 87 = .ok (.iadd, 1) := by decide +kernel
theorem dX10_write_88 : decode cX10_write 88 = .ok (.iaload, 1) := by decide +kernel
theorem dX10_write_89 : decode cX10_write 89 = .ok (.istore_n 1, 1) := by decide +kernel
theorem dX10_write_90 : decode cX10_write 90 = .ok (.aload_n 0, 1) := by decide +kernel
theorem dX10_write_91 : decode cX10_write 91 = .ok (.bipush 112, 2) := by decide +kernel
theorem dX10_write_93 : decode cX10_write 93 = .ok (.iload_n 1, 1) := by decide +kernel
theorem dX10_write_94 : decode cX10_write 94 = .ok (.ifCond .le 9, 3) := by decide +kernel
theorem dX10_write_97 : decode cX10_write 97 = .ok (.sipush 128, 3) := by decide +kernel
theorem dX10_write_100 : decode cX10_write 100 = .ok (.goto 4, 3) := by decide +kernel
theorem dX10_write_103 : decode cX10_write 103 = .ok (.iconst 0, 1) := by decide +kernel
theorem dX10_write_104 : decode cX10_write 104 = .ok (.iadd, 1) := by decide +kernel
theorem dX10_write_105 : decode cX10_write 105 = .ok (.iload_n 1, 1) := by decide +kernel
theorem dX10_write_106 : decode cX10_write 106 = .ok (.invokestatic 246, 3) := by decide +kernel
theorem dX10_write_109 : decode cX10_write 109 = .ok (.iadd, 1) := by decide +kernel
theorem dX10_write_110 : decode cX10_write 110 = .ok (.invokevirtual 240, 3) := by decide +kernel
theorem dX10_write_113 : decode cX10_write 113 = .ok (.aload_n 0, 1) := by decide +kernel
theorem dX10_write_114 : decode cX10_write 114 = .ok (.aload_n 0, 1) := by decide +kernel
theorem dX10_write_115 : decode cX10_write 115 = .ok (.getfield 23, 3) := by decide +kernel
theorem dX10_write_118 : decode cX10_write 118 = .ok (.bipush 6, 2) := by decide +kernel
theorem dX10_write_120 : decode cX10_write 120 = .ok (.aload_n 0, 1) := by decide +kernel
theorem dX10_write_121 : decode cX10_write 121 = .ok (.getfield 66, 3) := by decide +kernel
theorem dX10_write_124 : decode cX10_write 124 = .ok (.imul, 1) := by decide +kernel
theorem dX10_write_125 : decode cX10_write 125 = .ok (.iconst 3, 1) := by decide +kernel
theorem dX10_write_126 : decode cX10_write 126 = .ok (.iadd, 1) := by decide +kernel
theorem dX10_write_127 : decode cX10_write 127 = .ok (.iaload, 1) := by decide +kernel
theorem dX10_write_128 : decode cX10_write 128 = .ok (.invokevirtual 240, 3) := by decide +kernel
theorem dX10_write_131 : decode cX10_write 131 = .ok (.aload_n 0, 1) := by decide +kernel
theorem dX10_write_132 : decode cX10_write 132 = .ok (.aload_n 0, 1) := by decide +kernel
theorem dX10_write_133 : decode cX10_write 133 = .ok (.getfield 23, 3) := by decide +kernel
theorem dX10_write_136 : decode cX10_write 136 = .ok (.bipush 6, 2) := by decide +kernel
theorem dX10_write_138 : decode cX10_write 138 = .ok (.aload_n 0, 1) := by decide +kernel
theorem dX10_write_139 : decode cX10_write 139 = .ok (.getfield 66, 3) := by decide +kernel
theorem dX10_write_142 : decode cX10_write 142 = .ok (.imul, 1) := by decide +kernel
theorem dX10_write_143 : decode cX10_write 143 = .ok (.iconst 4, 1) := by decide +kernel
theorem dX10_write_144 : decode cX10_write 144 = .ok (.iadd, 1) := by decide +kernel
theorem dX10_write_145 : decode cX10_write 145 = .ok (.iaload, 1) := by decide +kernel
theorem dX10_write_146 : decode cX10_write 146 = .ok (.invokevirtual 240, 3) := by decide +kernel
theorem dX10_write_149 : decode cX10_write 149 = .ok (.aload_n 0, 1) := by decide +kernel
theorem dX10_write_150 : decode cX10_write 150 = .ok (.aload_n 0, 1) := by decide +kernel
theorem dX10_write_151 : decode cX10_write 151 = .ok (.getfield 27, 3) := by decide +kernel
theorem dX10_write_154 : decode cX10_write 154 = .ok (.sipush 256, 3) := by decide +kernel
theorem dX10_write_157 : decode cX10_write 157 = .ok (.aload_n 0, 1) := by decide +kernel
theorem dX10_write_158 : decode cX10_write 158 = .ok (.getfield 66, 3) := by decide +kernel
theorem dX10_write_161 : decode cX10_write 161 = .ok (.imul, 1) := by decide +kernel
theorem dX10_write_162 : decode cX10_write 162 = .ok (.iload_n 1, 1) := by decide +kernel
theorem dX10_write_163 : decode cX10_write 163 = .ok (.invokevirtual 250, 3) := by decide +kernel
theorem dX10_write_166 : decode cX10_write 166 = .ok (.iconst 0, 1) := by decide +kernel
theorem dX10_write_167 : decode cX10_write 167 = .ok (.istore_n 2, 1) := by decide +kernel
theorem dX10_write_168 : decode cX10_write 168 = .ok (.iload_n 2, 1) := by decide +kernel
theorem dX10_write_169 : decode cX10_write 169 = .ok (.aload_n 0, 1) := by decide +kernel
theorem dX10_write_170 : decode cX10_write 170 = .ok (.invokevirtual 69, 3) := by decide +kernel
theorem dX10_write_173 : decode cX10_write 173 = .ok (.if_icmp .ge 14, 3) := by decide +kernel
theorem dX10_write_176 : decode cX10_write 176 = .ok (.aload_n 0, 1) := by decide +kernel
theorem dX10_write_177 : decode cX10_write 177 = .ok (.iload_n 2, 1) := by decide +kernel
theorem dX10_write_178 : decode cX10_write 178 = .ok (.invokevirtual 253, 3) := by decide +kernel
theorem dX10_write_181 : decode cX10_write 181 = .ok (.iinc 2 1, 3) := by decide +kernel
theorem dX10_write_184 : decode cX10_write 184 = .ok (.goto (-16), 3) := by decide +kernel
theorem dX10_write_187 : decode cX10_write 187 = .ok (.aload_n 0, 1) := by decide +kernel
theorem dX10_write_188 : decode cX10_write 188 = .ok (.bipush 59, 2) := by decide +kernel
theorem dX10_write_190 : decode cX10_write 190 = .ok (.invokevirtual 240, 3) := by decide +kernel
theorem dX10_write_193 : decode cX10_write 193 = .ok (.aload_n 0, 1) := by decide +kernel
theorem dX10_write_194 : decode cX10_write 194 = .ok (.getfield 237, 3) := by decide +kernel
theorem dX10_write_197 : decode cX10_write 197 = .ok (.sipush 12000, 3) := by decide +kernel
theorem dX10_write_200 : decode cX10_write 200 = .ok (.if_icmp .le 5, 3) := by decide +kernel
theorem dX10_write_203 : decode cX10_write 203 = .ok (.iconst (-1), 1) := by decide +kernel
theorem dX10_write_204 : decode cX10_write 204 = .ok (.ireturn, 1) := by decide +kernel
theorem dX10_write_205 : decode cX10_write 205 = .ok (.iconst 0, 1) := by decide +kernel
theorem dX10_write_206 : decode cX10_write 206 = .ok (.istore_n 2, 1) := by decide +kernel
theorem dX10_write_207 : decode cX10_write 207 = .ok (.iload_n 2, 1) := by decide +kernel
theorem dX10_write_208 : decode cX10_write 208 = .ok (.aload_n 0, 1) := by decide +kernel
theorem dX10_write_209 : decode cX10_write 209 = .ok (.getfield 237, 3) := by decide +kernel
theorem dX10_write_212 : decode cX10_write 212 = .ok (.if_icmp .ge 21, 3) := by decide +kernel
theorem dX10_write_215 : decode cX10_write 215 = .ok (.aload_n 0, 1) := by decide +kernel
theorem dX10_write_216 : decode cX10_write 216 = .ok (.getfield 13, 3) := by decide +kernel
theorem dX10_write_219 : decode cX10_write 219 = .ok (.iload_n 2, 1) := by decide +kernel
theorem dX10_write_220 : decode cX10_write 220 = .ok (.aload_n 0, 1) := by decide +kernel
theorem dX10_write_221 : decode cX10_write 221 = .ok (.getfield 41, 3) := by decide +kernel
theorem dX10_write_224 : decode cX10_write 224 = .ok (.iload_n 2, 1) := by decide +kernel
theorem dX10_write_225 : decode cX10_write 225 = .ok (.baload, 1) := by decide +kernel
theorem dX10_write_226 : decode cX10_write 226 = .ok (.bastore, 1) := by decide +kernel
theorem dX10_write_227 : decode cX10_write 227 = .ok (.iinc 2 1, 3) := by decide +kernel
theorem dX10_write_230 : decode cX10_write 230 = .ok (.goto (-23), 3) := by decide +kernel
theorem dX10_write_233 : decode cX10_write 233 = .ok (.aload_n 0, 1) := by decide +kernel
theorem dX10_write_234 : decode cX10_write 234 = .ok (.aload_n 0, 1) := by decide +kernel
theorem dX10_write_235 : decode cX10_write 235 = .ok (.getfield 237, 3) := by decide +kernel
theorem dX10_write_238 : decode cX10_write 238 = .ok (.putfield 83, 3) := by decide +kernel
theorem dX10_write_241 : decode cX10_write 241 = .ok (.aload_n 0, 1) := by decide +kernel
theorem dX10_write_242 : decode cX10_write 242 = .ok (.getfield 83, 3) := by decide +kernel
theorem dX10_write_245 : decode cX10_write 245 = .ok (.ireturn, 1) := by decide +kernel
theorem dX10_sayFrame_0 : decode cX10_sayFrame 0 = .ok (.aload_n 0, 1) := by decide +kernel
theorem dX10_sayFrame_1 : decode cX10_sayFrame 1 = .ok (.aload_n 0, 1) := by decide +kernel
theorem dX10_sayFrame_2 : decode cX10_sayFrame 2 = .ok (.getfield 66, 3) := by decide +kernel
theorem dX10_sayFrame_5 : decode cX10_sayFrame 5 = .ok (.iload_n 1, 1) := by decide +kernel
theorem dX10_sayFrame_6 : decode cX10_sayFrame 6 = .ok (.bipush 7, 2) := by decide +kernel
theorem dX10_sayFrame_8 : decode cX10_sayFrame 8 = .ok (.invokevirtual 73, 3) := by decide +kernel
theorem dX10_sayFrame_11 : decode cX10_sayFrame 11 = .ok (.istore_n 2, 1) := by decide +kernel
theorem dX10_sayFrame_12 : decode cX10_sayFrame 12 = .ok (.aload_n 0, 1) := by decide +kernel
theorem dX10_sayFrame_13 : decode cX10_sayFrame 13 = .ok (.bipush 33, 2) := by decide +kernel
theorem dX10_sayFrame_15 : decode cX10_sayFrame 15 = .ok (.invokevirtual 240, 3) := by decide +kernel
theorem dX10_sayFrame_18 : decode cX10_sayFrame 18 = .ok (.aload_n 0, 1) := by decide +kernel
theorem dX10_sayFrame_19 : decode cX10_sayFrame 19 = .ok (.sipush 249, 3) := by decide +kernel
theorem dX10_sayFrame_22 : decode cX10_sayFrame 22 = .ok (.invokevirtual 240, 3) := by decide +kernel
theorem dX10_sayFrame_25 : decode cX10_sayFrame 25 = .ok (.aload_n 0, 1) := by decide +kernel
theorem dX10_sayFrame_26 : decode cX10_sayFrame 26 = .ok (.iconst 4, 1) := by decide +kernel
theorem dX10_sayFrame_27 : decode cX10_sayFrame 27 = .ok (.invokevirtual 240, 3) := by decide +kernel
theorem dX10_sayFrame_30 : decode cX10_sayFrame 30 = .ok (.aload_n 0, 1) := by decide +kernel
theorem dX10_sayFrame_31 : decode cX10_sayFrame 31 = .ok (.aload_n 0, 1) := by decide +kernel
theorem dX10_sayFrame_32 : decode cX10_sayFrame 32 = .ok (.aload_n 0, 1) := by decide +kernel
theorem dX10_sayFrame_33 : decode cX10_sayFrame 33 = .ok (.getfield 66, 3) := by decide +kernel
theorem dX10_sayFrame_36 : decode cX10_sayFrame 36 = .ok (.iload_n 1, 1) := by decide +kernel
theorem dX10_sayFrame_37 : decode cX10_sayFrame 37 = .ok (.bipush 6, 2) := by decide +kernel
theorem dX10_sayFrame_39 : decode cX10_sayFrame 39 = .ok (.invokevirtual 73, 3) := by decide +kernel
theorem dX10_sayFrame_42 : decode cX10_sayFrame 42 = .ok (.iconst 2, 1) := by decide +kernel
theorem dX10_sayFrame_43 : decode cX10_sayFrame 43 = .ok (.ishl, 1) := by decide +kernel
theorem dX10_sayFrame_44 : decode cX10_sayFrame 44 = .ok (.aload_n 0, 1) := by decide +kernel
theorem dX10_sayFrame_45 : decode cX10_sayFrame 45 = .ok (.aload_n 0, 1) := by decide +kernel
theorem dX10_sayFrame_46 : decode cX10_sayFrame 46 = .ok (.getfield 66, 3) := by decide +kernel
theorem dX10_sayFrame_49 : decode cX10_sayFrame 49 = .ok (.iload_n 1, 1) := by decide +kernel
theorem dX10_sayFrame_50 : decode cX10_sayFrame 50 = .ok (.bipush 9, 2) := by decide +kernel
theorem dX10_sayFrame_52 : decode cX10_sayFrame 52 = .ok (.invokevirtual 73, 3) := by decide +kernel
theorem dX10_sayFrame_55 : decode cX10_sayFrame 55 = .ok (.iconst 1, 1) := by decide +kernel
theorem dX10_sayFrame_56 : decode cX10_sayFrame 56 = .ok (.ishl, 1) := by decide +kernel
theorem dX10_sayFrame_57 : decode cX10_sayFrame 57 = .ok (.ior, 1) := by decide +kernel
theorem dX10_sayFrame_58 : decode cX10_sayFrame 58 = .ok (.iload_n 2, 1) := by decide +kernel
theorem dX10_sayFrame_59 : decode cX10_sayFrame 59 = .ok (.ifCond .ge 7, 3) := by decide +kernel
theorem dX10_sayFrame_62 : decode cX10_sayFrame 62 = .ok (.iconst 0, 1) := by decide +kernel
theorem dX10_sayFrame_63 : decode cX10_sayFrame 63 = .ok (.goto 4, 3) := by decide +kernel
theorem dX10_sayFrame_66 : decode cX10_sayFrame 66 = .ok (.iconst 1, 1) := by decide +kernel
theorem dX10_sayFrame_67 : decode cX10_sayFrame 67 = .ok (.ior, 1) := by decide +kernel
theorem dX10_sayFrame_68 : decode cX10_sayFrame 68 = .ok (.invokevirtual 240, 3) := by decide +kernel
theorem dX10_sayFrame_71 : decode cX10_sayFrame 71 = .ok (.aload_n 0, 1) := by decide +kernel
theorem dX10_sayFrame_72 : decode cX10_sayFrame 72 = .ok (.aload_n 0, 1) := by decide +kernel
theorem dX10_sayFrame_73 : decode cX10_sayFrame 73 = .ok (.aload_n 0, 1) := by decide +kernel
theorem dX10_sayFrame_74 : decode cX10_sayFrame 74 = .ok (.getfield 66, 3) := by decide +kernel
theorem dX10_sayFrame_77 : decode cX10_sayFrame 77 = .ok (.iload_n 1, 1) := by decide +kernel
theorem dX10_sayFrame_78 : decode cX10_sayFrame 78 = .ok (.bipush 8, 2) := by decide +kernel
theorem dX10_sayFrame_80 : decode cX10_sayFrame 80 = .ok (.invokevirtual 73, 3) := by decide +kernel
theorem dX10_sayFrame_83 : decode cX10_sayFrame 83 = .ok (.invokevirtual 243, 3) := by decide +kernel
theorem dX10_sayFrame_86 : decode cX10_sayFrame 86 = .ok (.aload_n 0, 1) := by decide +kernel
theorem dX10_sayFrame_87 : decode cX10_sayFrame 87 = .ok (.iload_n 2, 1) := by decide +kernel
theorem dX10_sayFrame_88 : decode cX10_sayFrame 88 = .ok (.ifCond .ge 7, 3) := by decide +kernel
theorem dX10_sayFrame_91 : decode cX10_sayFrame 91 = .ok (.iconst 0, 1) := by decide +kernel
theorem dX10_sayFrame_92 : decode cX10_sayFrame 92 = .ok (.goto 4, 3) := by decide +kernel
theorem dX10_sayFrame_95 : decode cX10_sayFrame 95 = .ok (.iload_n 2, 1) := by decide +kernel
theorem dX10_sayFrame_96 : decode cX10_sayFrame 96 = .ok (.invokevirtual 240, 3) := by decide +kernel
theorem dX10_sayFrame_99 : decode cX10_sayFrame 99 = .ok (.aload_n 0, 1) := by decide +kernel
theorem dX10_sayFrame_100 : decode cX10_sayFrame 100 = .ok (.iconst 0, 1) := by decide +kernel
theorem dX10_sayFrame_101 : decode cX10_sayFrame 101 = .ok (.invokevirtual 240, 3) := by decide +kernel
theorem dX10_sayFrame_104 : decode cX10_sayFrame 104 = .ok (.aload_n 0, 1) := by decide +kernel
theorem dX10_sayFrame_105 : decode cX10_sayFrame 105 = .ok (.bipush 44, 2) := by decide +kernel
theorem dX10_sayFrame_107 : decode cX10_sayFrame 107 = .ok (.invokevirtual 240, 3) := by decide +kernel
theorem dX10_sayFrame_110 : decode cX10_sayFrame 110 = .ok (.iconst 0, 1) := by decide +kernel
theorem dX10_sayFrame_111 : decode cX10_sayFrame 111 = .ok (.istore_n 3, 1) := by decide +kernel
theorem dX10_sayFrame_112 : decode cX10_sayFrame 112 = .ok (.iload_n 3, 1) := by decide +kernel
theorem dX10_sayFrame_113 : decode cX10_sayFrame 113 = .ok (.iconst 4, 1) := by decide +kernel
theorem dX10_sayFrame_114 : decode cX10_sayFrame 114 = .ok (.if_icmp .ge 23, 3) := by decide +kernel
theorem dX10_sayFrame_117 : decode cX10_sayFrame 117 = .ok (.aload_n 0, 1) := by decide +kernel
theorem dX10_sayFrame_118 : decode cX10_sayFrame 118 = .ok (.aload_n 0, 1) := by decide +kernel
theorem dX10_sayFrame_119 : decode cX10_sayFrame 119 = .ok (.aload_n 0, 1) := by decide +kernel
theorem dX10_sayFrame_120 : decode cX10_sayFrame 120 = .ok (.getfield 66, 3) := by decide +kernel
theorem dX10_sayFrame_123 : decode cX10_sayFrame 123 = .ok (.iload_n 1, 1) := by decide +kernel
theorem dX10_sayFrame_124 : decode cX10_sayFrame 124 = .ok (.iload_n 3, 1) := by decide +kernel
theorem dX10_sayFrame_125 : decode cX10_sayFrame 125 = .ok (.invokevirtual 73, 3) := by decide +kernel
theorem dX10_sayFrame_128 : decode cX10_sayFrame 128 = .ok (.invokevirtual 243, 3) := by decide +kernel
theorem dX10_sayFrame_131 : decode cX10_sayFrame 131 = .ok (.iinc 3 1, 3) := by decide +kernel
theorem dX10_sayFrame_134 : decode cX10_sayFrame 134 = .ok (.goto (-22), 3) := by decide +kernel
theorem dX10_sayFrame_137 : decode cX10_sayFrame 137 = .ok (.aload_n 0, 1) := by decide +kernel
theorem dX10_sayFrame_138 : decode cX10_sayFrame 138 = .ok (.aload_n 0, 1) := by decide +kernel
theorem dX10_sayFrame_139 : decode cX10_sayFrame 139 = .ok (.getfield 66, 3) := by decide +kernel
theorem dX10_sayFrame_142 : decode cX10_sayFrame 142 = .ok (.iload_n 1, 1) := by decide +kernel
theorem dX10_sayFrame_143 : decode cX10_sayFrame 143 = .ok (.iconst 4, 1) := by decide +kernel
theorem dX10_sayFrame_144 : decode cX10_sayFrame 144 = .ok (.invokevirtual 73, 3) := by decide +kernel
theorem dX10_sayFrame_147 : decode cX10_sayFrame 147 = .ok (.istore_n 3, 1) := by decide +kernel
theorem dX10_sayFrame_148 : decode cX10_sayFrame 148 = .ok (.aload_n 0, 1) := by decide +kernel
theorem dX10_sayFrame_149 : decode cX10_sayFrame 149 = .ok (.iload_n 3, 1) := by decide +kernel
theorem dX10_sayFrame_150 : decode cX10_sayFrame 150 = .ok (.ifCond .le 9, 3) := by decide +kernel
theorem dX10_sayFrame_153 : decode cX10_sayFrame 153 = .ok (.sipush 128, 3) := by decide +kernel
theorem dX10_sayFrame_156 : decode cX10_sayFrame 156 = .ok (.goto 4, 3) := by decide +kernel
theorem dX10_sayFrame_159 : decode cX10_sayFrame 159 = .ok (.iconst 0, 1) := by decide +kernel
theorem dX10_sayFrame_160 : decode cX10_sayFrame 160 = .ok (.aload_n 0, 1) := by decide +kernel
theorem dX10_sayFrame_161 : decode cX10_sayFrame 161 = .ok (.aload_n 0, 1) := by decide +kernel
theorem dX10_sayFrame_162 : decode cX10_sayFrame 162 = .ok (.getfield 66, 3) := by decide +kernel
theorem dX10_sayFrame_165 : decode cX10_sayFrame 165 = .ok (.iload_n 1, 1) := by decide +kernel
theorem dX10_sayFrame_166 : decode cX10_sayFrame 166 = .ok (.iconst 5, 1) := by decide +kernel
theorem dX10_sayFrame_167 : decode cX10_sayFrame 167 = .ok (.invokevirtual 73, 3) := by decide +kernel
theorem dX10_sayFrame_170 : decode cX10_sayFrame 170 = .ok (.bipush 6, 2) := by decide +kernel
theorem dX10_sayFrame_172 : decode cX10_sayFrame 172 = .ok (.ishl, 1) := by decide +kernel
theorem dX10_sayFrame_173 : decode cX10_sayFrame 173 = .ok (.ior, 1) := by decide +kernel
theorem dX10_sayFrame_174 : decode cX10_sayFrame 174 = .ok (.iload_n 3, 1) := by decide +kernel
theorem dX10_sayFrame_175 : decode cX10_sayFrame 175 = .ok (.invokestatic 246, 3) := by decide +kernel
theorem dX10_sayFrame_178 : decode cX10_sayFrame 178 = .ok (.ior, 1) := by decide +kernel
theorem dX10_sayFrame_179 : decode cX10_sayFrame 179 = .ok (.invokevirtual 240, 3) := by decide +kernel
theorem dX10_sayFrame_182 : decode cX10_sayFrame 182 = .ok (.aload_n 0, 1) := by decide +kernel
theorem dX10_sayFrame_183 : decode cX10_sayFrame 183 = .ok (.aload_n 0, 1) := by decide +kernel
theorem dX10_sayFrame_184 : decode cX10_sayFrame 184 = .ok (.getfield 33, 3) := by decide +kernel
theorem dX10_sayFrame_187 : decode cX10_sayFrame 187 = .ok (.aload_n 0, 1) := by decide +kernel
theorem dX10_sayFrame_188 : decode cX10_sayFrame 188 = .ok (.getfield 66, 3) := by decide +kernel
theorem dX10_sayFrame_191 : decode cX10_sayFrame 191 = .ok (.iload_n 1, 1) := by decide +kernel
theorem dX10_sayFrame_192 : decode cX10_sayFrame 192 = .ok (.iconst 0, 1) := by decide +kernel
theorem dX10_sayFrame_193 : decode cX10_sayFrame 193 = .ok (.invokestatic 160, 3) := by decide +kernel
theorem dX10_sayFrame_196 : decode cX10_sayFrame 196 = .ok (.iload_n 3, 1) := by decide +kernel
theorem dX10_sayFrame_197 : decode cX10_sayFrame 197 = .ok (.invokevirtual 250, 3) := by decide +kernel
theorem dX10_sayFrame_200 : decode cX10_sayFrame 200 = .ok (.aload_n 0, 1) := by decide +kernel
theorem dX10_sayFrame_201 : decode cX10_sayFrame 201 = .ok (.aload_n 0, 1) := by decide +kernel
theorem dX10_sayFrame_202 : decode cX10_sayFrame 202 = .ok (.getfield 66, 3) := by decide +kernel
theorem dX10_sayFrame_205 : decode cX10_sayFrame 205 = .ok (.iload_n 1, 1) := by decide +kernel
theorem dX10_sayFrame_206 : decode cX10_sayFrame 206 = .ok (.invokevirtual 193, 3) := by decide +kernel
theorem dX10_sayFrame_209 : decode cX10_sayFrame 209 = .ok (.invokestatic 246, 3) := by decide +kernel
theorem dX10_sayFrame_212 : decode cX10_sayFrame 212 = .ok (.iconst 1, 1) := by decide +kernel
theorem dX10_sayFrame_213 : decode cX10_sayFrame 213 = .ok (.iadd, 1) := by decide +kernel
theorem dX10_sayFrame_214 : decode cX10_sayFrame 214 = .ok (.istore 4, 2) := by decide +kernel
theorem dX10_sayFrame_216 : decode cX10_sayFrame 216 = .ok (.iload 4, 2) := by decide +kernel
theorem dX10_sayFrame_218 : decode cX10_sayFrame 218 = .ok (.iconst 2, 1) := by decide +kernel
theorem dX10_sayFrame_219 : decode cX10_sayFrame 219 = .ok (.if_icmp .ge 6, 3) := by decide +kernel
theorem dX10_sayFrame_222 : decode cX10_sayFrame 222 = .ok (.iconst 2, 1) := by decide +kernel
theorem dX10_sayFrame_223 : decode cX10_sayFrame 223 = .ok (.istore 4, 2) := by decide +kernel
theorem dX10_sayFrame_225 : decode cX10_sayFrame 225 = .ok (.aload_n 0, 1) := by decide +kernel
theorem dX10_sayFrame_226 : decode cX10_sayFrame 226 = .ok (.iload 4, 2) := by decide +kernel
theorem dX10_sayFrame_228 : decode cX10_sayFrame 228 = .ok (.invokevirtual 240, 3) := by decide +kernel
theorem dX10_sayFrame_231 : decode cX10_sayFrame 231 = .ok (.aload_n 0, 1) := by decide +kernel
theorem dX10_sayFrame_232 : decode cX10_sayFrame 232 = .ok (.iload 4, 2) := by decide +kernel
theorem dX10_sayFrame_234 : decode cX10_sayFrame 234 = .ok (.iload_n 1, 1) := by decide +kernel
theorem dX10_sayFrame_235 : decode cX10_sayFrame 235 = .ok (.invokevirtual 256, 3) := by decide +kernel
theorem dX10_sayFrame_238 : decode cX10_sayFrame 238 = .ok (.aload_n 0, 1) := by decide +kernel
theorem dX10_sayFrame_239 : decode cX10_sayFrame 239 = .ok (.getfield 259, 3) := by decide +kernel
theorem dX10_sayFrame_242 : decode cX10_sayFrame 242 = .ok (.ifCond .le 7, 3) := by decide +kernel
theorem dX10_sayFrame_245 : decode cX10_sayFrame 245 = .ok (.aload_n 0, 1) := by decide +kernel
theorem dX10_sayFrame_246 : decode cX10_sayFrame 246 = .ok (.invokevirtual 262, 3) := by decide +kernel
theorem dX10_sayFrame_249 : decode cX10_sayFrame 249 = .ok (.aload_n 0, 1) := by decide +kernel
theorem dX10_sayFrame_250 : decode cX10_sayFrame 250 = .ok (.iconst 0, 1) := by decide +kernel
theorem dX10_sayFrame_251 : decode cX10_sayFrame 251 = .ok (.invokevirtual 240, 3) := by decide +kernel
theorem dX10_sayFrame_254 : decode cX10_sayFrame 254 = .ok (.return_, 1) := by decide +kernel
theorem dX10_sayRow_0 : decode cX10_sayRow 0 = .ok (.aload_n 0, 1) := by decide +kernel
theorem dX10_sayRow_1 : decode cX10_sayRow 1 = .ok (.aload_n 0, 1) := by decide +kernel
theorem dX10_sayRow_2 : decode cX10_sayRow 2 = .ok (.getfield 259, 3) := by decide +kernel
theorem dX10_sayRow_5 : decode cX10_sayRow 5 = .ok (.invokevirtual 240, 3) := by decide +kernel
theorem dX10_sayRow_8 : decode cX10_sayRow 8 = .ok (.iconst 0, 1) := by decide +kernel
theorem dX10_sayRow_9 : decode cX10_sayRow 9 = .ok (.istore_n 1, 1) := by decide +kernel
theorem dX10_sayRow_10 : decode cX10_sayRow 10 = .ok (.iload_n 1, 1) := by decide +kernel
theorem dX10_sayRow_11 : decode cX10_sayRow 11 = .ok (.aload_n 0, 1) := by decide +kernel
theorem dX10_sayRow_12 : decode cX10_sayRow 12 = .ok (.getfield 259, 3) := by decide +kernel
theorem dX10_sayRow_15 : decode cX10_sayRow 15 = .ok (.if_icmp .ge 19, 3) := by decide +kernel
theorem dX10_sayRow_18 : decode cX10_sayRow 18 = .ok (.aload_n 0, 1) := by decide +kernel
theorem dX10_sayRow_19 : decode cX10_sayRow 19 = .ok (.aload_n 0, 1) := by decide +kernel
theorem dX10_sayRow_20 : decode cX10_sayRow 20 = .ok (.getfield 56, 3) := by decide +kernel
theorem dX10_sayRow_23 : decode cX10_sayRow 23 = .ok (.iload_n 1, 1) := by decide +kernel
theorem dX10_sayRow_24 : decode cX10_sayRow 24 = .ok (.baload, 1) := by decide +kernel
theorem dX10_sayRow_25 : decode cX10_sayRow 25 = .ok (.invokevirtual 240, 3) := by decide +kernel
theorem dX10_sayRow_28 : decode cX10_sayRow 28 = .ok (.iinc 1 1, 3) := by decide +kernel
theorem dX10_sayRow_31 : decode cX10_sayRow 31 = .ok (.goto (-21), 3) := by decide +kernel
theorem dX10_sayRow_34 : decode cX10_sayRow 34 = .ok (.aload_n 0, 1) := by decide +kernel
theorem dX10_sayRow_35 : decode cX10_sayRow 35 = .ok (.iconst 0, 1) := by decide +kernel
theorem dX10_sayRow_36 : decode cX10_sayRow 36 = .ok (.putfield 259, 3) := by decide +kernel
theorem dX10_sayRow_39 : decode cX10_sayRow 39 = .ok (.return_, 1) := by decide +kernel
theorem dX10_sayBits_0 : decode cX10_sayBits 0 = .ok (.aload_n 0, 1) := by decide +kernel
theorem dX10_sayBits_1 : decode cX10_sayBits 1 = .ok (.dup, 1) := by decide +kernel
theorem dX10_sayBits_2 : decode cX10_sayBits 2 = .ok (.getfield 265, 3) := by decide +kernel
theorem dX10_sayBits_5 : decode cX10_sayBits 5 = .ok (.iload_n 1, 1) := by decide +kernel
theorem dX10_sayBits_6 : decode cX10_sayBits 6 = .ok (.aload_n 0, 1) := by decide +kernel
theorem dX10_sayBits_7 : decode cX10_sayBits 7 = .ok (.getfield 268, 3) := by decide +kernel
theorem dX10_sayBits_10 : decode cX10_sayBits 10 = .ok (.ishl, 1) := by decide +kernel
theorem dX10_sayBits_11 : decode cX10_sayBits 11 = .ok (.ior, 1) := by decide +kernel
theorem dX10_sayBits_12 : decode cX10_sayBits 12 = .ok (.putfield 265, 3) := by decide +kernel
theorem dX10_sayBits_15 : decode cX10_sayBits 15 = .ok (.aload_n 0, 1) := by decide +kernel
theorem dX10_sayBits_16 : decode cX10_sayBits 16 = .ok (.dup, 1) := by decide +kernel
theorem dX10_sayBits_17 : decode cX10_sayBits 17 = .ok (.getfield 268, 3) := by decide +kernel
theorem dX10_sayBits_20 : decode cX10_sayBits 20 = .ok (.iload_n 2, 1) := by decide +kernel
theorem dX10_sayBits_21 : decode cX10_sayBits 21 = .ok (.iadd, 1) := by decide +kernel
theorem dX10_sayBits_22 : decode cX10_sayBits 22 = .ok (.putfield 268, 3) := by decide +kernel
theorem dX10_sayBits_25 : decode cX10_sayBits 25 = .ok (.aload_n 0, 1) := by decide +kernel
theorem dX10_sayBits_26 : decode cX10_sayBits 26 = .ok (.getfield 268, 3) := by decide +kernel
theorem dX10_sayBits_29 : decode cX10_sayBits 29 = .ok (.bipush 8, 2) := by decide +kernel
theorem dX10_sayBits_31 : decode cX10_sayBits 31 = .ok (.if_icmp .lt 66, 3) := by decide +kernel
theorem dX10_sayBits_34 : decode cX10_sayBits 34 = .ok (.aload_n 0, 1) := by decide +kernel
theorem dX10_sayBits_35 : decode cX10_sayBits 35 = .ok (.getfield 56, 3) := by decide +kernel
theorem dX10_sayBits_38 : decode cX10_sayBits 38 = .ok (.aload_n 0, 1) := by decide +kernel
theorem dX10_sayBits_39 : decode cX10_sayBits 39 = .ok (.getfield 259, 3) := by decide +kernel
theorem dX10_sayBits_42 : decode cX10_sayBits 42 = .ok (.aload_n 0, 1) := by decide +kernel
theorem dX10_sayBits_43 : decode cX10_sayBits 43 = .ok (.getfield 265, 3) := by decide +kernel
theorem dX10_sayBits_46 : decode cX10_sayBits 46 = .ok (.i2b, 1) := by decide +kernel
theorem dX10_sayBits_47 : decode cX10_sayBits 47 = .ok (.bastore, 1) := by decide +kernel
theorem dX10_sayBits_48 : decode cX10_sayBits 48 = .ok (.aload_n 0, 1) := by decide +kernel
theorem dX10_sayBits_49 : decode cX10_sayBits 49 = .ok (.dup, 1) := by decide +kernel
theorem dX10_sayBits_50 : decode cX10_sayBits 50 = .ok (.getfield 259, 3) := by decide +kernel
theorem dX10_sayBits_53 : decode cX10_sayBits 53 = .ok (.iconst 1, 1) := by decide +kernel
theorem dX10_sayBits_54 : decode cX10_sayBits 54 = .ok (.iadd, 1) := by decide +kernel
theorem dX10_sayBits_55 : decode cX10_sayBits 55 = .ok (.putfield 259, 3) := by decide +kernel
theorem dX10_sayBits_58 : decode cX10_sayBits 58 = .ok (.aload_n 0, 1) := by decide +kernel
theorem dX10_sayBits_59 : decode cX10_sayBits 59 = .ok (.getfield 259, 3) := by decide +kernel
theorem dX10_sayBits_62 : decode cX10_sayBits 62 = .ok (.sipush 255, 3) := by decide +kernel
theorem dX10_sayBits_65 : decode cX10_sayBits 65 = .ok (.if_icmp .ne 7, 3) := by decide +kernel
theorem dX10_sayBits_68 : decode cX10_sayBits 68 = .ok (.aload_n 0, 1) := by decide +kernel
theorem dX10_sayBits_69 : decode cX10_sayBits 69 = .ok (.invokevirtual 262, 3) := by decide +kernel
theorem dX10_sayBits_72 : decode cX10_sayBits 72 = .ok (.aload_n 0, 1) := by decide +kernel
theorem dX10_sayBits_73 : decode cX10_sayBits 73 = .ok (.dup, 1) := by decide +kernel
theorem dX10_sayBits_74 : decode cX10_sayBits 74 = .ok (.getfield 265, 3) := by decide +kernel
theorem dX10_sayBits_77 : decode cX10_sayBits 77 = .ok (.bipush 8, 2) := by decide +kernel
theorem dX10_sayBits_79 : decode cX10_sayBits 79 = .ok (.iushr, 1) := by decide +kernel
theorem dX10_sayBits_80 : decode cX10_sayBits 80 = .ok (.putfield 265, 3) := by decide +kernel
theorem dX10_sayBits_83 : decode cX10_sayBits 83 = .ok (.aload_n 0, 1) := by decide +kernel
theorem dX10_sayBits_84 : decode cX10_sayBits 84 = .ok (.dup, 1) := by decide +kernel
theorem dX10_sayBits_85 : decode cX10_sayBits 85 = .ok (.getfield 268, 3) := by decide +kernel
theorem dX10_sayBits_88 : decode cX10_sayBits 88 = .ok (.bipush 8, 2) := by decide +kernel
theorem dX10_sayBits_90 : decode cX10_sayBits 90 = .ok (.isub, 1) := by decide +kernel
theorem dX10_sayBits_91 : decode cX10_sayBits 91 = .ok (.putfield 268, 3) := by decide +kernel
theorem dX10_sayBits_94 : decode cX10_sayBits 94 = .ok (.goto (-69), 3) := by decide +kernel
theorem dX10_sayBits_97 : decode cX10_sayBits 97 = .ok (.return_, 1) := by decide +kernel
theorem dX10_indexOf_0 : decode cX10_indexOf 0 = .ok (.aload_n 0, 1) := by decide +kernel
theorem dX10_indexOf_1 : decode cX10_indexOf 1 = .ok (.aload_n 0, 1) := by decide +kernel
theorem dX10_indexOf_2 : decode cX10_indexOf 2 = .ok (.getfield 66, 3) := by decide +kernel
theorem dX10_indexOf_5 : decode cX10_indexOf 5 = .ok (.iload_n 1, 1) := by decide +kernel
theorem dX10_indexOf_6 : decode cX10_indexOf 6 = .ok (.aload_n 0, 1) := by decide +kernel
theorem dX10_indexOf_7 : decode cX10_indexOf 7 = .ok (.aload_n 0, 1) := by decide +kernel
theorem dX10_indexOf_8 : decode cX10_indexOf 8 = .ok (.getfield 66, 3) := by decide +kernel
theorem dX10_indexOf_11 : decode cX10_indexOf 11 = .ok (.iload_n 1, 1) := by decide +kernel
theorem dX10_indexOf_12 : decode cX10_indexOf 12 = .ok (.iload_n 2, 1) := by decide +kernel
theorem dX10_indexOf_13 : decode cX10_indexOf 13 = .ok (.invokevirtual 212, 3) := by decide +kernel
theorem dX10_indexOf_16 : decode cX10_indexOf 16 = .ok (.invokevirtual 271, 3) := by decide +kernel
theorem dX10_indexOf_19 : decode cX10_indexOf 19 = .ok (.ireturn, 1) := by decide +kernel
theorem dX10_stands_0 : decode cX10_stands 0 = .ok (.iload_n 3, 1) := by decide +kernel
theorem dX10_stands_1 : decode cX10_stands 1 = .ok (.aload_n 0, 1) := by decide +kernel
theorem dX10_stands_2 : decode cX10_stands 2 = .ok (.getfield 53, 3) := by decide +kernel
theorem dX10_stands_5 : decode cX10_stands 5 = .ok (.iload_n 1, 1) := by decide +kernel
theorem dX10_stands_6 : decode cX10_stands 6 = .ok (.saload, 1) := by decide +kernel
theorem dX10_stands_7 : decode cX10_stands 7 = .ok (.iadd, 1) := by decide +kernel
theorem dX10_stands_8 : decode cX10_stands 8 = .ok (.iload 4, 2) := by decide +kernel
theorem dX10_stands_10 : decode cX10_stands 10 = .ok (.if_icmp .le 5, 3) := by decide +kernel
theorem dX10_stands_13 : decode cX10_stands 13 = .ok (.iconst 0, 1) := by decide +kernel
theorem dX10_stands_14 : decode cX10_stands 14 = .ok (.ireturn, 1) := by decide +kernel
theorem dX10_stands_15 : decode cX10_stands 15 = .ok (.iload_n 3, 1) := by decide +kernel
theorem dX10_stands_16 : decode cX10_stands 16 = .ok (.aload_n 0, 1) := by decide +kernel
theorem dX10_stands_17 : decode cX10_stands 17 = .ok (.getfield 53, 3) := by decide +kernel
theorem dX10_stands_20 : decode cX10_stands 20 = .ok (.iload_n 1, 1) := by decide +kernel
theorem dX10_stands_21 : decode cX10_stands 21 = .ok (.saload, 1) := by decide +kernel
theorem dX10_stands_22 : decode cX10_stands 22 = .ok (.iadd, 1) := by decide +kernel
theorem dX10_stands_23 : decode cX10_stands 23 = .ok (.iconst 1, 1) := by decide +kernel
theorem dX10_stands_24 : decode cX10_stands 24 = .ok (.isub, 1) := by decide +kernel
theorem dX10_stands_25 : decode cX10_stands 25 = .ok (.istore 5, 2) := by decide +kernel
theorem dX10_stands_27 : decode cX10_stands 27 = .ok (.iload_n 1, 1) := by decide +kernel
theorem dX10_stands_28 : decode cX10_stands 28 = .ok (.istore 6, 2) := by decide +kernel
theorem dX10_stands_30 : decode cX10_stands 30 = .ok (.iload 6, 2) := by decide +kernel
theorem dX10_stands_32 : decode cX10_stands 32 = .ok (.ifCond .lt 35, 3) := by decide +kernel
theorem dX10_stands_35 : decode cX10_stands 35 = .ok (.aload_n 0, 1) := by decide +kernel
theorem dX10_stands_36 : decode cX10_stands 36 = .ok (.getfield 47, 3) := by decide +kernel
theorem dX10_stands_39 : decode cX10_stands 39 = .ok (.iload 6, 2) := by decide +kernel
theorem dX10_stands_41 : decode cX10_stands 41 = .ok (.saload, 1) := by decide +kernel
theorem dX10_stands_42 : decode cX10_stands 42 = .ok (.aload_n 0, 1) := by decide +kernel
theorem dX10_stands_43 : decode cX10_stands 43 = .ok (.iload_n 2, 1) := by decide +kernel
theorem dX10_stands_44 : decode cX10_stands 44 = .ok (.iload 5, 2) := by decide +kernel
theorem dX10_stands_46 : decode cX10_stands 46 = .ok (.invokevirtual 274, 3) := by decide +kernel
theorem dX10_stands_49 : decode cX10_stands 49 = .ok (.if_icmp .ne 18, 3) := by decide +kernel
theorem dX10_stands_52 : decode cX10_stands 52 = .ok (.iinc 5 (-1), 3) := by decide +kernel
theorem dX10_stands_55 : decode cX10_stands 55 = .ok (.aload_n 0, 1) := by decide +kernel
theorem dX10_stands_56 : decode cX10_stands 56 = .ok (.getfield 44, 3) := by decide +kernel
theorem dX10_stands_59 : decode cX10_stands 59 = .ok (.iload 6, 2) := by decide +kernel
theorem dX10_stands_61 : decode cX10_stands 61 = .ok (.saload, 1) := by decide +kernel
theorem dX10_stands_62 : decode cX10_stands 62 = .ok (.istore 6, 2) := by decide +kernel
theorem dX10_stands_64 : decode cX10_stands 64 = .ok (.goto (-34), 3) := by decide +kernel
theorem dX10_stands_67 : decode cX10_stands 67 = .ok (.iload 6, 2) := by decide +kernel
theorem dX10_stands_69 : decode cX10_stands 69 = .ok (.ifCond .ge 7, 3) := by decide +kernel
theorem dX10_stands_72 : decode cX10_stands 72 = .ok (.iconst 1, 1) := by decide +kernel
theorem dX10_stands_73 : decode cX10_stands 73 = .ok (.goto 4, 3) := by decide +kernel
theorem dX10_stands_76 : decode cX10_stands 76 = .ok (.iconst 0, 1) := by decide +kernel
theorem dX10_stands_77 : decode cX10_stands 77 = .ok (.ireturn, 1) := by decide +kernel
theorem dX10_sayCodes_0 : decode cX10_sayCodes 0 = .ok (.aload_n 0, 1) := by decide +kernel
theorem dX10_sayCodes_1 : decode cX10_sayCodes 1 = .ok (.aload_n 0, 1) := by decide +kernel
theorem dX10_sayCodes_2 : decode cX10_sayCodes 2 = .ok (.getfield 66, 3) := by decide +kernel
theorem dX10_sayCodes_5 : decode cX10_sayCodes 5 = .ok (.iload_n 2, 1) := by decide +kernel
theorem dX10_sayCodes_6 : decode cX10_sayCodes 6 = .ok (.invokevirtual 189, 3) := by decide +kernel
theorem dX10_sayCodes_9 : decode cX10_sayCodes 9 = .ok (.istore_n 3, 1) := by decide +kernel
theorem dX10_sayCodes_10 : decode cX10_sayCodes 10 = .ok (.aload_n 0, 1) := by decide +kernel
theorem dX10_sayCodes_11 : decode cX10_sayCodes 11 = .ok (.iload_n 1, 1) := by decide +kernel
theorem dX10_sayCodes_12 : decode cX10_sayCodes 12 = .ok (.invokevirtual 196, 3) := by decide +kernel
theorem dX10_sayCodes_15 : decode cX10_sayCodes 15 = .ok (.aload_n 0, 1) := by decide +kernel
theorem dX10_sayCodes_16 : decode cX10_sayCodes 16 = .ok (.iload_n 1, 1) := by decide +kernel
theorem dX10_sayCodes_17 : decode cX10_sayCodes 17 = .ok (.invokevirtual 199, 3) := by decide +kernel
theorem dX10_sayCodes_20 : decode cX10_sayCodes 20 = .ok (.aload_n 0, 1) := by decide +kernel
theorem dX10_sayCodes_21 : decode cX10_sayCodes 21 = .ok (.iconst 0, 1) := by decide +kernel
theorem dX10_sayCodes_22 : decode cX10_sayCodes 22 = .ok (.putfield 265, 3) := by decide +kernel
theorem dX10_sayCodes_25 : decode cX10_sayCodes 25 = .ok (.aload_n 0, 1) := by decide +kernel
theorem dX10_sayCodes_26 : decode cX10_sayCodes 26 = .ok (.iconst 0, 1) := by decide +kernel
theorem dX10_sayCodes_27 : decode cX10_sayCodes 27 = .ok (.putfield 268, 3) := by decide +kernel
theorem dX10_sayCodes_30 : decode cX10_sayCodes 30 = .ok (.aload_n 0, 1) := by decide +kernel
theorem dX10_sayCodes_31 : decode cX10_sayCodes 31 = .ok (.iconst 0, 1) := by decide +kernel
theorem dX10_sayCodes_32 : decode cX10_sayCodes 32 = .ok (.putfield 259, 3) := by decide +kernel
theorem dX10_sayCodes_35 : decode cX10_sayCodes 35 = .ok (.aload_n 0, 1) := by decide +kernel
theorem dX10_sayCodes_36 : decode cX10_sayCodes 36 = .ok (.iconst 1, 1) := by decide +kernel
theorem dX10_sayCodes_37 : decode cX10_sayCodes 37 = .ok (.iload_n 1, 1) := by decide +kernel
theorem dX10_sayCodes_38 : decode cX10_sayCodes 38 = .ok (.ishl, 1) := by decide +kernel
theorem dX10_sayCodes_39 : decode cX10_sayCodes 39 = .ok (.aload_n 0, 1) := by decide +kernel
theorem dX10_sayCodes_40 : decode cX10_sayCodes 40 = .ok (.getfield 177, 3) := by decide +kernel
theorem dX10_sayCodes_43 : decode cX10_sayCodes 43 = .ok (.invokevirtual 277, 3) := by decide +kernel
theorem dX10_sayCodes_46 : decode cX10_sayCodes 46 = .ok (.iconst 0, 1) := by decide +kernel
theorem dX10_sayCodes_47 : decode cX10_sayCodes 47 = .ok (.istore 4, 2) := by decide +kernel
theorem dX10_sayCodes_49 : decode cX10_sayCodes 49 = .ok (.iload 4, 2) := by decide +kernel
theorem dX10_sayCodes_51 : decode cX10_sayCodes 51 = .ok (.iconst 1, 1) := by decide +kernel
theorem dX10_sayCodes_52 : decode cX10_sayCodes 52 = .ok (.iload_n 1, 1) := by decide +kernel
theorem dX10_sayCodes_53 : decode cX10_sayCodes 53 = .ok (.ishl, 1) := by decide +kernel
theorem dX10_sayCodes_54 : decode cX10_sayCodes 54 = .ok (.if_icmp .ge 17, 3) := by decide +kernel
theorem dX10_sayCodes_57 : decode cX10_sayCodes 57 = .ok (.aload_n 0, 1) := by decide +kernel
theorem dX10_sayCodes_58 : decode cX10_sayCodes 58 = .ok (.getfield 59, 3) := by decide +kernel
theorem dX10_sayCodes_61 : decode cX10_sayCodes 61 = .ok (.iload 4, 2) := by decide +kernel
theorem dX10_sayCodes_63 : decode cX10_sayCodes 63 = .ok (.iconst (-1), 1) := by decide +kernel
theorem dX10_sayCodes_64 : decode cX10_sayCodes 64 = .ok (.sastore, 1) := by decide +kernel
theorem dX10_sayCodes_65 : decode cX10_sayCodes 65 = .ok (.iinc 4 1, 3) := by decide +kernel
theorem dX10_sayCodes_68 : decode cX10_sayCodes 68 = .ok (.goto (-19), 3) := by decide +kernel
theorem dX10_sayCodes_71 : decode cX10_sayCodes 71 = .ok (.iconst 0, 1) := by decide +kernel
theorem dX10_sayCodes_72 : decode cX10_sayCodes 72 = .ok (.istore 4, 2) := by decide +kernel
theorem dX10_sayCodes_74 : decode cX10_sayCodes 74 = .ok (.iload 4, 2) := by decide +kernel
theorem dX10_sayCodes_76 : decode cX10_sayCodes 76 = .ok (.iload_n 3, 1) := by decide +kernel
theorem dX10_sayCodes_77 : decode cX10_sayCodes 77 = .ok (.if_icmp .ge 67, 3) := by decide +kernel
theorem dX10_sayCodes_80 : decode cX10_sayCodes 80 = .ok (.aload_n 0, 1) := by decide +kernel
theorem dX10_sayCodes_81 : decode cX10_sayCodes 81 = .ok (.getfield 180, 3) := by decide +kernel
theorem dX10_sayCodes_84 : decode cX10_sayCodes 84 = .ok (.sipush 4096, 3) := by decide +kernel
theorem dX10_sayCodes_87 : decode cX10_sayCodes 87 = .ok (.if_icmp .ne 44, 3) := by decide +kernel
theorem dX10_sayCodes_90 : decode cX10_sayCodes 90 = .ok (.aload_n 0, 1) := by decide +kernel
theorem dX10_sayCodes_91 : decode cX10_sayCodes 91 = .ok (.iconst 1, 1) := by decide +kernel
theorem dX10_sayCodes_92 : decode cX10_sayCodes 92 = .ok (.iload_n 1, 1) := by decide +kernel
theorem dX10_sayCodes_93 : decode cX10_sayCodes 93 = .ok (.ishl, 1) := by decide +kernel
theorem dX10_sayCodes_94 : decode cX10_sayCodes 94 = .ok (.aload_n 0, 1) := by decide +kernel
theorem dX10_sayCodes_95 : decode cX10_sayCodes 95 = .ok (.getfield 177, 3) := by decide +kernel
theorem dX10_sayCodes_98 : decode cX10_sayCodes 98 = .ok (.invokevirtual 277, 3) := by decide +kernel
theorem dX10_sayCodes_101 : decode cX10_sayCodes 101 = .ok (.aload_n 0, 1) := by decide +kernel
theorem dX10_sayCodes_102 : decode cX10_sayCodes 102 = .ok (.iload_n 1, 1) := by decide +kernel
theorem dX10_sayCodes_103 : decode cX10_sayCodes 103 = .ok (.invokevirtual 199, 3) := by decide +kernel
theorem dX10_sayCodes_106 : decode cX10_sayCodes 106 = .ok (.iconst 0, 1) := by decide +kernel
theorem dX10_sayCodes_107 : decode cX10_sayCodes 107 = .ok (.istore 5, 2) := by decide +kernel
theorem dX10_sayCodes_109 : decode cX10_sayCodes 109 = .ok (.iload 5, 2) := by decide +kernel
theorem dX10_sayCodes_111 : decode cX10_sayCodes 111 = .ok (.iconst 1, 1) := by decide +kernel
theorem dX10_sayCodes_112 : decode cX10_sayCodes 112 = .ok (.iload_n 1, 1) := by decide +kernel
theorem dX10_sayCodes_113 : decode cX10_sayCodes 113 = .ok (.ishl, 1) := by decide +kernel
theorem dX10_sayCodes_114 : decode cX10_sayCodes 114 = .ok (.if_icmp .ge 17, 3) := by decide +kernel
theorem dX10_sayCodes_117 : decode cX10_sayCodes 117 = .ok (.aload_n 0, 1) := by decide +kernel
theorem dX10_sayCodes_118 : decode cX10_sayCodes 118 = .ok (.getfield 59, 3) := by decide +kernel
theorem dX10_sayCodes_121 : decode cX10_sayCodes 121 = .ok (.iload 5, 2) := by decide +kernel
theorem dX10_sayCodes_123 : decode cX10_sayCodes 123 = .ok (.iconst (-1), 1) := by decide +kernel
theorem dX10_sayCodes_124 : decode cX10_sayCodes 124 = .ok (.sastore, 1) := by decide +kernel
theorem dX10_sayCodes_125 : decode cX10_sayCodes 125 = .ok (.iinc 5 1, 3) := by decide +kernel
theorem dX10_sayCodes_128 : decode cX10_sayCodes 128 = .ok (.goto (-19), 3) := by decide +kernel
theorem dX10_sayCodes_131 : decode cX10_sayCodes 131 = .ok (.aload_n 0, 1) := by decide +kernel
theorem dX10_sayCodes_132 : decode cX10_sayCodes 132 = .ok (.iload_n 2, 1) := by decide +kernel
theorem dX10_sayCodes_133 : decode cX10_sayCodes 133 = .ok (.iload 4, 2) := by decide +kernel
theorem dX10_sayCodes_135 : decode cX10_sayCodes 135 = .ok (.iload_n 3, 1) := by decide +kernel
theorem dX10_sayCodes_136 : decode cX10_sayCodes 136 = .ok (.invokevirtual 280, 3) := by decide +kernel
theorem dX10_sayCodes_139 : decode cX10_sayCodes 139 = .ok (.istore 4, 2) := by decide +kernel
theorem dX10_sayCodes_141 : decode cX10_sayCodes 141 = .ok (.goto (-67), 3) := by decide +kernel
theorem dX10_sayCodes_144 : decode cX10_sayCodes 144 = .ok (.aload_n 0, 1) := by decide +kernel
theorem dX10_sayCodes_145 : decode cX10_sayCodes 145 = .ok (.iconst 1, 1) := by decide +kernel
theorem dX10_sayCodes_146 : decode cX10_sayCodes 146 = .ok (.iload_n 1, 1) := by decide +kernel
theorem dX10_sayCodes_147 : decode cX10_sayCodes 147 = .ok (.ishl, 1) := by decide +kernel
theorem dX10_sayCodes_148 : decode cX10_sayCodes 148 = .ok (.iconst 1, 1) := by decide +kernel
theorem dX10_sayCodes_149 : decode cX10_sayCodes 149 = .ok (.iadd, 1) := by decide +kernel
theorem dX10_sayCodes_150 : decode cX10_sayCodes 150 = .ok (.aload_n 0, 1) := by decide +kernel
theorem dX10_sayCodes_151 : decode cX10_sayCodes 151 = .ok (.getfield 177, 3) := by decide +kernel
theorem dX10_sayCodes_154 : decode cX10_sayCodes 154 = .ok (.invokevirtual 277, 3) := by decide +kernel
theorem dX10_sayCodes_157 : decode cX10_sayCodes 157 = .ok (.aload_n 0, 1) := by decide +kernel
theorem dX10_sayCodes_158 : decode cX10_sayCodes 158 = .ok (.getfield 268, 3) := by decide +kernel
theorem dX10_sayCodes_161 : decode cX10_sayCodes 161 = .ok (.ifCond .le 15, 3) := by decide +kernel
theorem dX10_sayCodes_164 : decode cX10_sayCodes 164 = .ok (.aload_n 0, 1) := by decide +kernel
theorem dX10_sayCodes_165 : decode cX10_sayCodes 165 = .ok (.iconst 0, 1) := by decide +kernel
theorem dX10_sayCodes_166 : decode cX10_sayCodes 166 = .ok (.bipush 8, 2) := by decide +kernel
theorem dX10_sayCodes_168 : decode cX10_sayCodes 168 = .ok (.aload_n 0, 1) := by decide +kernel
theorem dX10_sayCodes_169 : decode cX10_sayCodes 169 = .ok (.getfield 268, 3) := by decide +kernel
theorem dX10_sayCodes_172 : decode cX10_sayCodes 172 = .ok (.isub, 1) := by decide +kernel
theorem dX10_sayCodes_173 : decode cX10_sayCodes 173 = .ok (.invokevirtual 277, 3) := by decide +kernel
theorem dX10_sayCodes_176 : decode cX10_sayCodes 176 = .ok (.return_, 1) := by decide +kernel
theorem dX10_sayLongest_0 : decode cX10_sayLongest 0 = .ok (.aload_n 0, 1) := by decide +kernel
theorem dX10_sayLongest_1 : decode cX10_sayLongest 1 = .ok (.iload_n 1, 1) := by decide +kernel
theorem dX10_sayLongest_2 : decode cX10_sayLongest 2 = .ok (.iload_n 2, 1) := by decide +kernel
theorem dX10_sayLongest_3 : decode cX10_sayLongest 3 = .ok (.invokevirtual 274, 3) := by decide +kernel
theorem dX10_sayLongest_6 : decode cX10_sayLongest 6 = .ok (.istore 4, 2) := by decide +kernel
theorem dX10_sayLongest_8 : decode cX10_sayLongest 8 = .ok (.iload_n 2, 1) := by decide +kernel
theorem dX10_sayLongest_9 : decode cX10_sayLongest 9 = .ok (.iconst 1, 1) := by decide +kernel
theorem dX10_sayLongest_10 : decode cX10_sayLongest 10 = .ok (.iadd, 1) := by decide +kernel
theorem dX10_sayLongest_11 : decode cX10_sayLongest 11 = .ok (.istore 5, 2) := by decide +kernel
theorem dX10_sayLongest_13 : decode cX10_sayLongest 13 = .ok (.iload 4, 2) := by decide +kernel
theorem dX10_sayLongest_15 : decode cX10_sayLongest 15 = .ok (.istore 6, 2) := by decide +kernel
theorem dX10_sayLongest_17 : decode cX10_sayLongest 17 = .ok (.iload 6, 2) := by decide +kernel
theorem dX10_sayLongest_19 : decode cX10_sayLongest 19 = .ok (.ifCond .lt 67, 3) := by decide +kernel
theorem dX10_sayLongest_22 : decode cX10_sayLongest 22 = .ok (.iload 5, 2) := by decide +kernel
theorem dX10_sayLongest_24 : decode cX10_sayLongest 24 = .ok (.iload_n 3, 1) := by decide +kernel
theorem dX10_sayLongest_25 : decode cX10_sayLongest 25 = .ok (.if_icmp .ge 61, 3) := by decide +kernel
theorem dX10_sayLongest_28 : decode cX10_sayLongest 28 = .ok (.aload_n 0, 1) := by decide +kernel
theorem dX10_sayLongest_29 : decode cX10_sayLongest 29 = .ok (.getfield 59, 3) := by decide +kernel
theorem dX10_sayLongest_32 : decode cX10_sayLongest 32 = .ok (.iload 4, 2) := by decide +kernel
theorem dX10_sayLongest_34 : decode cX10_sayLongest 34 = .ok (.saload, 1) := by decide +kernel
theorem dX10_sayLongest_35 : decode cX10_sayLongest 35 = .ok (.istore 6, 2) := by decide +kernel
theorem dX10_sayLongest_37 : decode cX10_sayLongest 37 = .ok (.iload 6, 2) := by decide +kernel
theorem dX10_sayLongest_39 : decode cX10_sayLongest 39 = .ok (.ifCond .lt 32, 3) := by decide +kernel
theorem dX10_sayLongest_42 : decode cX10_sayLongest 42 = .ok (.aload_n 0, 1) := by decide +kernel
theorem dX10_sayLongest_43 : decode cX10_sayLongest 43 = .ok (.getfield 47, 3) := by decide +kernel
theorem dX10_sayLongest_46 : decode cX10_sayLongest 46 = .ok (.iload 6, 2) := by decide +kernel
theorem dX10_sayLongest_48 : decode cX10_sayLongest 48 = .ok (.saload, 1) := by decide +kernel
theorem dX10_sayLongest_49 : decode cX10_sayLongest 49 = .ok (.aload_n 0, 1) := by decide +kernel
theorem dX10_sayLongest_50 : decode cX10_sayLongest 50 = .ok (.iload_n 1, 1) := by decide +kernel
end
section
theorem dX10_sayLongest_51 : decode cX10_sayLongest 51 = .ok (.iload 5, 2) := by decide +kernel
theorem dX10_sayLongest_53 : decode cX10_sayLongest 53 = .ok (.invokevirtual 274, 3) := by decide +kernel
theorem dX10_sayLongest_56 : decode cX10_sayLongest 56 = .ok (.if_icmp .eq 15, 3) := by decide +kernel
theorem dX10_sayLongest_59 : decode cX10_sayLongest 59 = .ok (.aload_n 0, 1) := by decide +kernel
theorem dX10_sayLongest_60 : decode cX10_sayLongest 60 = .ok (.getfield 62, 3) := by decide +kernel
theorem dX10_sayLongest_63 : decode cX10_sayLongest 63 = .ok (.iload 6, 2) := by decide +kernel
theorem dX10_sayLongest_65 : decode cX10_sayLongest 65 = .ok (.saload, 1) := by decide +kernel
theorem dX10_sayLongest_66 : decode cX10_sayLongest 66 = .ok (.istore 6, 2) := by decide +kernel
theorem dX10_sayLongest_68 : decode cX10_sayLongest 68 = .ok (.goto (-31), 3) := by decide +kernel
theorem dX10_sayLongest_71 : decode cX10_sayLongest 71 = .ok (.iload 6, 2) := by decide +kernel
theorem dX10_sayLongest_73 : decode cX10_sayLongest 73 = .ok (.ifCond .lt (-56), 3) := by decide +kernel
theorem dX10_sayLongest_76 : decode cX10_sayLongest 76 = .ok (.iload 6, 2) := by decide +kernel
theorem dX10_sayLongest_78 : decode cX10_sayLongest 78 = .ok (.istore 4, 2) := by decide +kernel
theorem dX10_sayLongest_80 : decode cX10_sayLongest 80 = .ok (.iinc 5 1, 3) := by decide +kernel
theorem dX10_sayLongest_83 : decode cX10_sayLongest 83 = .ok (.goto (-66), 3) := by decide +kernel
theorem dX10_sayLongest_86 : decode cX10_sayLongest 86 = .ok (.aload_n 0, 1) := by decide +kernel
theorem dX10_sayLongest_87 : decode cX10_sayLongest 87 = .ok (.getfield 183, 3) := by decide +kernel
theorem dX10_sayLongest_90 : decode cX10_sayLongest 90 = .ok (.ifCond .lt 92, 3) := by decide +kernel
theorem dX10_sayLongest_93 : decode cX10_sayLongest 93 = .ok (.aload_n 0, 1) := by decide +kernel
theorem dX10_sayLongest_94 : decode cX10_sayLongest 94 = .ok (.getfield 180, 3) := by decide +kernel
theorem dX10_sayLongest_97 : decode cX10_sayLongest 97 = .ok (.sipush 4096, 3) := by decide +kernel
theorem dX10_sayLongest_100 : decode cX10_sayLongest 100 = .ok (.if_icmp .ge 82, 3) := by decide +kernel
theorem dX10_sayLongest_103 : decode cX10_sayLongest 103 = .ok (.aload_n 0, 1) := by decide +kernel
theorem dX10_sayLongest_104 : decode cX10_sayLongest 104 = .ok (.getfield 53, 3) := by decide +kernel
theorem dX10_sayLongest_107 : decode cX10_sayLongest 107 = .ok (.aload_n 0, 1) := by decide +kernel
theorem dX10_sayLongest_108 : decode cX10_sayLongest 108 = .ok (.getfield 183, 3) := by decide +kernel
theorem dX10_sayLongest_111 : decode cX10_sayLongest 111 = .ok (.saload, 1) := by decide +kernel
theorem dX10_sayLongest_112 : decode cX10_sayLongest 112 = .ok (.iconst 1, 1) := by decide +kernel
theorem dX10_sayLongest_113 : decode cX10_sayLongest 113 = .ok (.iadd, 1) := by decide +kernel
theorem dX10_sayLongest_114 : decode cX10_sayLongest 114 = .ok (.iload 5, 2) := by decide +kernel
theorem dX10_sayLongest_116 : decode cX10_sayLongest 116 = .ok (.iload_n 2, 1) := by decide +kernel
theorem dX10_sayLongest_117 : decode cX10_sayLongest 117 = .ok (.isub, 1) := by decide +kernel
theorem dX10_sayLongest_118 : decode cX10_sayLongest 118 = .ok (.if_icmp .le 64, 3) := by decide +kernel
theorem dX10_sayLongest_121 : decode cX10_sayLongest 121 = .ok (.iload_n 2, 1) := by decide +kernel
theorem dX10_sayLongest_122 : decode cX10_sayLongest 122 = .ok (.aload_n 0, 1) := by decide +kernel
theorem dX10_sayLongest_123 : decode cX10_sayLongest 123 = .ok (.getfield 53, 3) := by decide +kernel
theorem dX10_sayLongest_126 : decode cX10_sayLongest 126 = .ok (.aload_n 0, 1) := by decide +kernel
theorem dX10_sayLongest_127 : decode cX10_sayLongest 127 = .ok (.getfield 183, 3) := by decide +kernel
theorem dX10_sayLongest_130 : decode cX10_sayLongest 130 = .ok (.saload, 1) := by decide +kernel
theorem dX10_sayLongest_131 : decode cX10_sayLongest 131 = .ok (.iadd, 1) := by decide +kernel
theorem dX10_sayLongest_132 : decode cX10_sayLongest 132 = .ok (.iload_n 3, 1) := by decide +kernel
theorem dX10_sayLongest_133 : decode cX10_sayLongest 133 = .ok (.if_icmp .ge 49, 3) := by decide +kernel
theorem dX10_sayLongest_136 : decode cX10_sayLongest 136 = .ok (.aload_n 0, 1) := by decide +kernel
theorem dX10_sayLongest_137 : decode cX10_sayLongest 137 = .ok (.aload_n 0, 1) := by decide +kernel
theorem dX10_sayLongest_138 : decode cX10_sayLongest 138 = .ok (.getfield 183, 3) := by decide +kernel
theorem dX10_sayLongest_141 : decode cX10_sayLongest 141 = .ok (.iload_n 1, 1) := by decide +kernel
theorem dX10_sayLongest_142 : decode cX10_sayLongest 142 = .ok (.iload_n 2, 1) := by decide +kernel
theorem dX10_sayLongest_143 : decode cX10_sayLongest 143 = .ok (.iload_n 3, 1) := by decide +kernel
theorem dX10_sayLongest_144 : decode cX10_sayLongest 144 = .ok (.invokevirtual 283, 3) := by decide +kernel
theorem dX10_sayLongest_147 : decode cX10_sayLongest 147 = .ok (.ifCond .eq 35, 3) := by decide +kernel
theorem dX10_sayLongest_150 : decode cX10_sayLongest 150 = .ok (.aload_n 0, 1) := by decide +kernel
theorem dX10_sayLongest_151 : decode cX10_sayLongest 151 = .ok (.iload_n 1, 1) := by decide +kernel
theorem dX10_sayLongest_152 : decode cX10_sayLongest 152 = .ok (.iload_n 2, 1) := by decide +kernel
theorem dX10_sayLongest_153 : decode cX10_sayLongest 153 = .ok (.aload_n 0, 1) := by decide +kernel
theorem dX10_sayLongest_154 : decode cX10_sayLongest 154 = .ok (.getfield 53, 3) := by decide +kernel
theorem dX10_sayLongest_157 : decode cX10_sayLongest 157 = .ok (.aload_n 0, 1) := by decide +kernel
theorem dX10_sayLongest_158 : decode cX10_sayLongest 158 = .ok (.getfield 183, 3) := by decide +kernel
theorem dX10_sayLongest_161 : decode cX10_sayLongest 161 = .ok (.saload, 1) := by decide +kernel
theorem dX10_sayLongest_162 : decode cX10_sayLongest 162 = .ok (.iadd, 1) := by decide +kernel
theorem dX10_sayLongest_163 : decode cX10_sayLongest 163 = .ok (.invokevirtual 274, 3) := by decide +kernel
theorem dX10_sayLongest_166 : decode cX10_sayLongest 166 = .ok (.aload_n 0, 1) := by decide +kernel
theorem dX10_sayLongest_167 : decode cX10_sayLongest 167 = .ok (.getfield 50, 3) := by decide +kernel
theorem dX10_sayLongest_170 : decode cX10_sayLongest 170 = .ok (.aload_n 0, 1) := by decide +kernel
theorem dX10_sayLongest_171 : decode cX10_sayLongest 171 = .ok (.getfield 183, 3) := by decide +kernel
theorem dX10_sayLongest_174 : decode cX10_sayLongest 174 = .ok (.saload, 1) := by decide +kernel
theorem dX10_sayLongest_175 : decode cX10_sayLongest 175 = .ok (.if_icmp .ne 7, 3) := by decide +kernel
theorem dX10_sayLongest_178 : decode cX10_sayLongest 178 = .ok (.iconst 1, 1) := by decide +kernel
theorem dX10_sayLongest_179 : decode cX10_sayLongest 179 = .ok (.goto 4, 3) := by decide +kernel
theorem dX10_sayLongest_182 : decode cX10_sayLongest 182 = .ok (.iconst 0, 1) := by decide +kernel
theorem dX10_sayLongest_183 : decode cX10_sayLongest 183 = .ok (.istore 7, 2) := by decide +kernel
theorem dX10_sayLongest_185 : decode cX10_sayLongest 185 = .ok (.iload 7, 2) := by decide +kernel
theorem dX10_sayLongest_187 : decode cX10_sayLongest 187 = .ok (.ifCond .eq 17, 3) := by decide +kernel
theorem dX10_sayLongest_190 : decode cX10_sayLongest 190 = .ok (.aload_n 0, 1) := by decide +kernel
theorem dX10_sayLongest_191 : decode cX10_sayLongest 191 = .ok (.getfield 53, 3) := by decide +kernel
theorem dX10_sayLongest_194 : decode cX10_sayLongest 194 = .ok (.aload_n 0, 1) := by decide +kernel
theorem dX10_sayLongest_195 : decode cX10_sayLongest 195 = .ok (.getfield 183, 3) := by decide +kernel
theorem dX10_sayLongest_198 : decode cX10_sayLongest 198 = .ok (.saload, 1) := by decide +kernel
theorem dX10_sayLongest_199 : decode cX10_sayLongest 199 = .ok (.iconst 1, 1) := by decide +kernel
theorem dX10_sayLongest_200 : decode cX10_sayLongest 200 = .ok (.iadd, 1) := by decide +kernel
theorem dX10_sayLongest_201 : decode cX10_sayLongest 201 = .ok (.goto 10, 3) := by decide +kernel
theorem dX10_sayLongest_204 : decode cX10_sayLongest 204 = .ok (.aload_n 0, 1) := by decide +kernel
theorem dX10_sayLongest_205 : decode cX10_sayLongest 205 = .ok (.getfield 53, 3) := by decide +kernel
theorem dX10_sayLongest_208 : decode cX10_sayLongest 208 = .ok (.iload 4, 2) := by decide +kernel
theorem dX10_sayLongest_210 : decode cX10_sayLongest 210 = .ok (.saload, 1) := by decide +kernel
theorem dX10_sayLongest_211 : decode cX10_sayLongest 211 = .ok (.istore 8, 2) := by decide +kernel
theorem dX10_sayLongest_213 : decode cX10_sayLongest 213 = .ok (.iload 7, 2) := by decide +kernel
theorem dX10_sayLongest_215 : decode cX10_sayLongest 215 = .ok (.ifCond .eq 15, 3) := by decide +kernel
theorem dX10_sayLongest_218 : decode cX10_sayLongest 218 = .ok (.aload_n 0, 1) := by decide +kernel
theorem dX10_sayLongest_219 : decode cX10_sayLongest 219 = .ok (.getfield 50, 3) := by decide +kernel
theorem dX10_sayLongest_222 : decode cX10_sayLongest 222 = .ok (.aload_n 0, 1) := by decide +kernel
theorem dX10_sayLongest_223 : decode cX10_sayLongest 223 = .ok (.getfield 183, 3) := by decide +kernel
theorem dX10_sayLongest_226 : decode cX10_sayLongest 226 = .ok (.saload, 1) := by decide +kernel
theorem dX10_sayLongest_227 : decode cX10_sayLongest 227 = .ok (.goto 10, 3) := by decide +kernel
theorem dX10_sayLongest_230 : decode cX10_sayLongest 230 = .ok (.aload_n 0, 1) := by decide +kernel
theorem dX10_sayLongest_231 : decode cX10_sayLongest 231 = .ok (.getfield 50, 3) := by decide +kernel
theorem dX10_sayLongest_234 : decode cX10_sayLongest 234 = .ok (.iload 4, 2) := by decide +kernel
theorem dX10_sayLongest_236 : decode cX10_sayLongest 236 = .ok (.saload, 1) := by decide +kernel
theorem dX10_sayLongest_237 : decode cX10_sayLongest 237 = .ok (.istore 9, 2) := by decide +kernel
theorem dX10_sayLongest_239 : decode cX10_sayLongest 239 = .ok (.iload 7, 2) := by decide +kernel
theorem dX10_sayLongest_241 : decode cX10_sayLongest 241 = .ok (.ifCond .eq 10, 3) := by decide +kernel
theorem dX10_sayLongest_244 : decode cX10_sayLongest 244 = .ok (.aload_n 0, 1) := by decide +kernel
theorem dX10_sayLongest_245 : decode cX10_sayLongest 245 = .ok (.getfield 180, 3) := by decide +kernel
theorem dX10_sayLongest_248 : decode cX10_sayLongest 248 = .ok (.goto 5, 3) := by decide +kernel
theorem dX10_sayLongest_251 : decode cX10_sayLongest 251 = .ok (.iload 4, 2) := by decide +kernel
theorem dX10_sayLongest_253 : decode cX10_sayLongest 253 = .ok (.istore 10, 2) := by decide +kernel
theorem dX10_sayLongest_255 : decode cX10_sayLongest 255 = .ok (.aload_n 0, 1) := by decide +kernel
theorem dX10_sayLongest_256 : decode cX10_sayLongest 256 = .ok (.iload 10, 2) := by decide +kernel
theorem dX10_sayLongest_258 : decode cX10_sayLongest 258 = .ok (.aload_n 0, 1) := by decide +kernel
theorem dX10_sayLongest_259 : decode cX10_sayLongest 259 = .ok (.getfield 177, 3) := by decide +kernel
theorem dX10_sayLongest_262 : decode cX10_sayLongest 262 = .ok (.invokevirtual 277, 3) := by decide +kernel
theorem dX10_sayLongest_265 : decode cX10_sayLongest 265 = .ok (.aload_n 0, 1) := by decide +kernel
theorem dX10_sayLongest_266 : decode cX10_sayLongest 266 = .ok (.getfield 183, 3) := by decide +kernel
theorem dX10_sayLongest_269 : decode cX10_sayLongest 269 = .ok (.ifCond .lt 61, 3) := by decide +kernel
theorem dX10_sayLongest_272 : decode cX10_sayLongest 272 = .ok (.aload_n 0, 1) := by decide +kernel
theorem dX10_sayLongest_273 : decode cX10_sayLongest 273 = .ok (.getfield 180, 3) := by decide +kernel
theorem dX10_sayLongest_276 : decode cX10_sayLongest 276 = .ok (.sipush 4096, 3) := by decide +kernel
theorem dX10_sayLongest_279 : decode cX10_sayLongest 279 = .ok (.if_icmp .ge 51, 3) := by decide +kernel
theorem dX10_sayLongest_282 : decode cX10_sayLongest 282 = .ok (.aload_n 0, 1) := by decide +kernel
theorem dX10_sayLongest_283 : decode cX10_sayLongest 283 = .ok (.getfield 59, 3) := by decide +kernel
theorem dX10_sayLongest_286 : decode cX10_sayLongest 286 = .ok (.aload_n 0, 1) := by decide +kernel
theorem dX10_sayLongest_287 : decode cX10_sayLongest 287 = .ok (.getfield 180, 3) := by decide +kernel
theorem dX10_sayLongest_290 : decode cX10_sayLongest 290 = .ok (.iconst (-1), 1) := by decide +kernel
theorem dX10_sayLongest_291 : decode cX10_sayLongest 291 = .ok (.sastore, 1) := by decide +kernel
theorem dX10_sayLongest_292 : decode cX10_sayLongest 292 = .ok (.aload_n 0, 1) := by decide +kernel
theorem dX10_sayLongest_293 : decode cX10_sayLongest 293 = .ok (.getfield 62, 3) := by decide +kernel
theorem dX10_sayLongest_296 : decode cX10_sayLongest 296 = .ok (.aload_n 0, 1) := by decide +kernel
theorem dX10_sayLongest_297 : decode cX10_sayLongest 297 = .ok (.getfield 180, 3) := by decide +kernel
theorem dX10_sayLongest_300 : decode cX10_sayLongest 300 = .ok (.aload_n 0, 1) := by decide +kernel
theorem dX10_sayLongest_301 : decode cX10_sayLongest 301 = .ok (.getfield 59, 3) := by decide +kernel
theorem dX10_sayLongest_304 : decode cX10_sayLongest 304 = .ok (.aload_n 0, 1) := by decide +kernel
theorem dX10_sayLongest_305 : decode cX10_sayLongest 305 = .ok (.getfield 183, 3) := by decide +kernel
theorem dX10_sayLongest_308 : decode cX10_sayLongest 308 = .ok (.saload, 1) := by decide +kernel
theorem dX10_sayLongest_309 : decode cX10_sayLongest 309 = .ok (.sastore, 1) := by decide +kernel
theorem dX10_sayLongest_310 : decode cX10_sayLongest 310 = .ok (.aload_n 0, 1) := by decide +kernel
theorem dX10_sayLongest_311 : decode cX10_sayLongest 311 = .ok (.getfield 59, 3) := by decide +kernel
theorem dX10_sayLongest_314 : decode cX10_sayLongest 314 = .ok (.aload_n 0, 1) := by decide +kernel
theorem dX10_sayLongest_315 : decode cX10_sayLongest 315 = .ok (.getfield 183, 3) := by decide +kernel
theorem dX10_sayLongest_318 : decode cX10_sayLongest 318 = .ok (.aload_n 0, 1) := by decide +kernel
theorem dX10_sayLongest_319 : decode cX10_sayLongest 319 = .ok (.getfield 180, 3) := by decide +kernel
theorem dX10_sayLongest_322 : decode cX10_sayLongest 322 = .ok (.i2s, 1) := by decide +kernel
theorem dX10_sayLongest_323 : decode cX10_sayLongest 323 = .ok (.sastore, 1) := by decide +kernel
theorem dX10_sayLongest_324 : decode cX10_sayLongest 324 = .ok (.aload_n 0, 1) := by decide +kernel
theorem dX10_sayLongest_325 : decode cX10_sayLongest 325 = .ok (.iload 9, 2) := by decide +kernel
theorem dX10_sayLongest_327 : decode cX10_sayLongest 327 = .ok (.invokevirtual 209, 3) := by decide +kernel
theorem dX10_sayLongest_330 : decode cX10_sayLongest 330 = .ok (.aload_n 0, 1) := by decide +kernel
theorem dX10_sayLongest_331 : decode cX10_sayLongest 331 = .ok (.iload 10, 2) := by decide +kernel
theorem dX10_sayLongest_333 : decode cX10_sayLongest 333 = .ok (.putfield 183, 3) := by decide +kernel
theorem dX10_sayLongest_336 : decode cX10_sayLongest 336 = .ok (.iload_n 2, 1) := by decide +kernel
theorem dX10_sayLongest_337 : decode cX10_sayLongest 337 = .ok (.iload 8, 2) := by decide +kernel
theorem dX10_sayLongest_339 : decode cX10_sayLongest 339 = .ok (.iadd, 1) := by decide +kernel
theorem dX10_sayLongest_340 : decode cX10_sayLongest 340 = .ok (.ireturn, 1) := by decide +kernel
theorem dX10_out_0 : decode cX10_out 0 = .ok (.iload_n 1, 1) := by decide +kernel
theorem dX10_out_1 : decode cX10_out 1 = .ok (.ifCond .lt 24, 3) := by decide +kernel
theorem dX10_out_4 : decode cX10_out 4 = .ok (.iload_n 1, 1) := by decide +kernel
theorem dX10_out_5 : decode cX10_out 5 = .ok (.aload_n 0, 1) := by decide +kernel
theorem dX10_out_6 : decode cX10_out 6 = .ok (.getfield 83, 3) := by decide +kernel
theorem dX10_out_9 : decode cX10_out 9 = .ok (.if_icmp .ge 16, 3) := by decide +kernel
theorem dX10_out_12 : decode cX10_out 12 = .ok (.aload_n 0, 1) := by decide +kernel
theorem dX10_out_13 : decode cX10_out 13 = .ok (.getfield 13, 3) := by decide +kernel
theorem dX10_out_16 : decode cX10_out 16 = .ok (.iload_n 1, 1) := by decide +kernel
theorem dX10_out_17 : decode cX10_out 17 = .ok (.baload, 1) := by decide +kernel
theorem dX10_out_18 : decode cX10_out 18 = .ok (.sipush 255, 3) := by decide +kernel
theorem dX10_out_21 : decode cX10_out 21 = .ok (.iand, 1) := by decide +kernel
theorem dX10_out_22 : decode cX10_out 22 = .ok (.goto 4, 3) := by decide +kernel
theorem dX10_out_25 : decode cX10_out 25 = .ok (.iconst (-1), 1) := by decide +kernel
theorem dX10_out_26 : decode cX10_out 26 = .ok (.ireturn, 1) := by decide +kernel
theorem dX10_about_0 : decode cX10_about 0 = .ok (.iload_n 1, 1) := by decide +kernel
theorem dX10_about_1 : decode cX10_about 1 = .ok (.bipush 6, 2) := by decide +kernel
theorem dX10_about_3 : decode cX10_about 3 = .ok (.if_icmp .ne 8, 3) := by decide +kernel
theorem dX10_about_6 : decode cX10_about 6 = .ok (.aload_n 0, 1) := by decide +kernel
theorem dX10_about_7 : decode cX10_about 7 = .ok (.getfield 76, 3) := by decide +kernel
theorem dX10_about_10 : decode cX10_about 10 = .ok (.ireturn, 1) := by decide +kernel
theorem dX10_about_11 : decode cX10_about 11 = .ok (.iload_n 1, 1) := by decide +kernel
theorem dX10_about_12 : decode cX10_about 12 = .ok (.bipush 7, 2) := by decide +kernel
theorem dX10_about_14 : decode cX10_about 14 = .ok (.if_icmp .ne 8, 3) := by decide +kernel
theorem dX10_about_17 : decode cX10_about 17 = .ok (.aload_n 0, 1) := by decide +kernel
theorem dX10_about_18 : decode cX10_about 18 = .ok (.getfield 83, 3) := by decide +kernel
theorem dX10_about_21 : decode cX10_about 21 = .ok (.ireturn, 1) := by decide +kernel
theorem dX10_about_22 : decode cX10_about 22 = .ok (.iload_n 1, 1) := by decide +kernel
theorem dX10_about_23 : decode cX10_about 23 = .ok (.ifCond .lt 26, 3) := by decide +kernel
theorem dX10_about_26 : decode cX10_about 26 = .ok (.iload_n 1, 1) := by decide +kernel
theorem dX10_about_27 : decode cX10_about 27 = .ok (.bipush 6, 2) := by decide +kernel
theorem dX10_about_29 : decode cX10_about 29 = .ok (.if_icmp .ge 20, 3) := by decide +kernel
theorem dX10_about_32 : decode cX10_about 32 = .ok (.aload_n 0, 1) := by decide +kernel
theorem dX10_about_33 : decode cX10_about 33 = .ok (.getfield 23, 3) := by decide +kernel
theorem dX10_about_36 : decode cX10_about 36 = .ok (.bipush 6, 2) := by decide +kernel
theorem dX10_about_38 : decode cX10_about 38 = .ok (.aload_n 0, 1) := by decide +kernel
theorem dX10_about_39 : decode cX10_about 39 = .ok (.getfield 66, 3) := by decide +kernel
theorem dX10_about_42 : decode cX10_about 42 = .ok (.imul, 1) := by decide +kernel
theorem dX10_about_43 : decode cX10_about 43 = .ok (.iload_n 1, 1) := by decide +kernel
theorem dX10_about_44 : decode cX10_about 44 = .ok (.iadd, 1) := by decide +kernel
theorem dX10_about_45 : decode cX10_about 45 = .ok (.iaload, 1) := by decide +kernel
theorem dX10_about_46 : decode cX10_about 46 = .ok (.goto 4, 3) := by decide +kernel
theorem dX10_about_49 : decode cX10_about 49 = .ok (.iconst (-1), 1) := by decide +kernel
theorem dX10_about_50 : decode cX10_about 50 = .ok (.ireturn, 1) := by decide +kernel
theorem dX10_frameOf_0 : decode cX10_frameOf 0 = .ok (.aload_n 0, 1) := by decide +kernel
theorem dX10_frameOf_1 : decode cX10_frameOf 1 = .ok (.iload_n 1, 1) := by decide +kernel
theorem dX10_frameOf_2 : decode cX10_frameOf 2 = .ok (.invokevirtual 229, 3) := by decide +kernel
theorem dX10_frameOf_5 : decode cX10_frameOf 5 = .ok (.ifCond .eq 26, 3) := by decide +kernel
theorem dX10_frameOf_8 : decode cX10_frameOf 8 = .ok (.iload_n 2, 1) := by decide +kernel
theorem dX10_frameOf_9 : decode cX10_frameOf 9 = .ok (.ifCond .lt 22, 3) := by decide +kernel
theorem dX10_frameOf_12 : decode cX10_frameOf 12 = .ok (.iload_n 2, 1) := by decide +kernel
theorem dX10_frameOf_13 : decode cX10_frameOf 13 = .ok (.bipush 10, 2) := by decide +kernel
theorem dX10_frameOf_15 : decode cX10_frameOf 15 = .ok (.if_icmp .ge 16, 3) := by decide +kernel
theorem dX10_frameOf_18 : decode cX10_frameOf 18 = .ok (.aload_n 0, 1) := by decide +kernel
theorem dX10_frameOf_19 : decode cX10_frameOf 19 = .ok (.aload_n 0, 1) := by decide +kernel
theorem dX10_frameOf_20 : decode cX10_frameOf 20 = .ok (.getfield 66, 3) := by decide +kernel
theorem dX10_frameOf_23 : decode cX10_frameOf 23 = .ok (.iload_n 1, 1) := by decide +kernel
theorem dX10_frameOf_24 : decode cX10_frameOf 24 = .ok (.iload_n 2, 1) := by decide +kernel
theorem dX10_frameOf_25 : decode cX10_frameOf 25 = .ok (.invokevirtual 73, 3) := by decide +kernel
theorem dX10_frameOf_28 : decode cX10_frameOf 28 = .ok (.goto 4, 3) := by decide +kernel
theorem dX10_frameOf_31 : decode cX10_frameOf 31 = .ok (.iconst (-1), 1) := by decide +kernel
theorem dX10_frameOf_32 : decode cX10_frameOf 32 = .ok (.ireturn, 1) := by decide +kernel
theorem dX10_colourOf_0 : decode cX10_colourOf 0 = .ok (.aload_n 0, 1) := by decide +kernel
theorem dX10_colourOf_1 : decode cX10_colourOf 1 = .ok (.iload_n 1, 1) := by decide +kernel
theorem dX10_colourOf_2 : decode cX10_colourOf 2 = .ok (.iload_n 2, 1) := by decide +kernel
theorem dX10_colourOf_3 : decode cX10_colourOf 3 = .ok (.invokevirtual 232, 3) := by decide +kernel
theorem dX10_colourOf_6 : decode cX10_colourOf 6 = .ok (.ifCond .ne 5, 3) := by decide +kernel
theorem dX10_colourOf_9 : decode cX10_colourOf 9 = .ok (.iconst (-1), 1) := by decide +kernel
theorem dX10_colourOf_10 : decode cX10_colourOf 10 = .ok (.ireturn, 1) := by decide +kernel
theorem dX10_colourOf_11 : decode cX10_colourOf 11 = .ok (.iload_n 1, 1) := by decide +kernel
theorem dX10_colourOf_12 : decode cX10_colourOf 12 = .ok (.iconst (-1), 1) := by decide +kernel
theorem dX10_colourOf_13 : decode cX10_colourOf 13 = .ok (.if_icmp .ne 21, 3) := by decide +kernel
theorem dX10_colourOf_16 : decode cX10_colourOf 16 = .ok (.aload_n 0, 1) := by decide +kernel
theorem dX10_colourOf_17 : decode cX10_colourOf 17 = .ok (.getfield 27, 3) := by decide +kernel
theorem dX10_colourOf_20 : decode cX10_colourOf 20 = .ok (.sipush 256, 3) := by decide +kernel
theorem dX10_colourOf_23 : decode cX10_colourOf 23 = .ok (.aload_n 0, 1) := by decide +kernel
theorem dX10_colourOf_24 : decode cX10_colourOf 24 = .ok (.getfield 66, 3) := by decide +kernel
theorem dX10_colourOf_27 : decode cX10_colourOf 27 = .ok (.imul, 1) := by decide +kernel
theorem dX10_colourOf_28 : decode cX10_colourOf 28 = .ok (.iload_n 2, 1) := by decide +kernel
theorem dX10_colourOf_29 : decode cX10_colourOf 29 = .ok (.iadd, 1) := by decide +kernel
theorem dX10_colourOf_30 : decode cX10_colourOf 30 = .ok (.iaload, 1) := by decide +kernel
theorem dX10_colourOf_31 : decode cX10_colourOf 31 = .ok (.goto 17, 3) := by decide +kernel
theorem dX10_colourOf_34 : decode cX10_colourOf 34 = .ok (.aload_n 0, 1) := by decide +kernel
theorem dX10_colourOf_35 : decode cX10_colourOf 35 = .ok (.getfield 33, 3) := by decide +kernel
theorem dX10_colourOf_38 : decode cX10_colourOf 38 = .ok (.aload_n 0, 1) := by decide +kernel
theorem dX10_colourOf_39 : decode cX10_colourOf 39 = .ok (.getfield 66, 3) := by decide +kernel
theorem dX10_colourOf_42 : decode cX10_colourOf 42 = .ok (.iload_n 1, 1) := by decide +kernel
theorem dX10_colourOf_43 : decode cX10_colourOf 43 = .ok (.iload_n 2, 1) := by decide +kernel
theorem dX10_colourOf_44 : decode cX10_colourOf 44 = .ok (.invokestatic 160, 3) := by decide +kernel
theorem dX10_colourOf_47 : decode cX10_colourOf 47 = .ok (.iaload, 1) := by decide +kernel
theorem dX10_colourOf_48 : decode cX10_colourOf 48 = .ok (.ireturn, 1) := by decide +kernel
theorem dX10_index_0 : decode cX10_index 0 = .ok (.aload_n 0, 1) := by decide +kernel
theorem dX10_index_1 : decode cX10_index 1 = .ok (.iload_n 1, 1) := by decide +kernel
theorem dX10_index_2 : decode cX10_index 2 = .ok (.invokevirtual 229, 3) := by decide +kernel
theorem dX10_index_5 : decode cX10_index 5 = .ok (.ifCond .eq 33, 3) := by decide +kernel
theorem dX10_index_8 : decode cX10_index 8 = .ok (.iload_n 2, 1) := by decide +kernel
theorem dX10_index_9 : decode cX10_index 9 = .ok (.ifCond .lt 29, 3) := by decide +kernel
theorem dX10_index_12 : decode cX10_index 12 = .ok (.iload_n 2, 1) := by decide +kernel
theorem dX10_index_13 : decode cX10_index 13 = .ok (.aload_n 0, 1) := by decide +kernel
theorem dX10_index_14 : decode cX10_index 14 = .ok (.aload_n 0, 1) := by decide +kernel
theorem dX10_index_15 : decode cX10_index 15 = .ok (.getfield 66, 3) := by decide +kernel
theorem dX10_index_18 : decode cX10_index 18 = .ok (.iload_n 1, 1) := by decide +kernel
theorem dX10_index_19 : decode cX10_index 19 = .ok (.invokevirtual 189, 3) := by decide +kernel
theorem dX10_index_22 : decode cX10_index 22 = .ok (.if_icmp .ge 16, 3) := by decide +kernel
theorem dX10_index_25 : decode cX10_index 25 = .ok (.aload_n 0, 1) := by decide +kernel
theorem dX10_index_26 : decode cX10_index 26 = .ok (.aload_n 0, 1) := by decide +kernel
theorem dX10_index_27 : decode cX10_index 27 = .ok (.getfield 66, 3) := by decide +kernel
theorem dX10_index_30 : decode cX10_index 30 = .ok (.iload_n 1, 1) := by decide +kernel
theorem dX10_index_31 : decode cX10_index 31 = .ok (.iload_n 2, 1) := by decide +kernel
theorem dX10_index_32 : decode cX10_index 32 = .ok (.invokevirtual 271, 3) := by decide +kernel
theorem dX10_index_35 : decode cX10_index 35 = .ok (.goto 4, 3) := by decide +kernel
theorem dX10_index_38 : decode cX10_index 38 = .ok (.iconst (-1), 1) := by decide +kernel
theorem dX10_index_39 : decode cX10_index 39 = .ok (.ireturn, 1) := by decide +kernel
theorem dX10_covers_0 : decode cX10_covers 0 = .ok (.iload_n 2, 1) := by decide +kernel
theorem dX10_covers_1 : decode cX10_covers 1 = .ok (.aload_n 0, 1) := by decide +kernel
theorem dX10_covers_2 : decode cX10_covers 2 = .ok (.aload_n 0, 1) := by decide +kernel
theorem dX10_covers_3 : decode cX10_covers 3 = .ok (.getfield 66, 3) := by decide +kernel
theorem dX10_covers_6 : decode cX10_covers 6 = .ok (.iload_n 1, 1) := by decide +kernel
theorem dX10_covers_7 : decode cX10_covers 7 = .ok (.iconst 0, 1) := by decide +kernel
theorem dX10_covers_8 : decode cX10_covers 8 = .ok (.invokevirtual 73, 3) := by decide +kernel
theorem dX10_covers_11 : decode cX10_covers 11 = .ok (.isub, 1) := by decide +kernel
theorem dX10_covers_12 : decode cX10_covers 12 = .ok (.istore 4, 2) := by decide +kernel
theorem dX10_covers_14 : decode cX10_covers 14 = .ok (.iload_n 3, 1) := by decide +kernel
theorem dX10_covers_15 : decode cX10_covers 15 = .ok (.aload_n 0, 1) := by decide +kernel
theorem dX10_covers_16 : decode cX10_covers 16 = .ok (.aload_n 0, 1) := by decide +kernel
theorem dX10_covers_17 : decode cX10_covers 17 = .ok (.getfield 66, 3) := by decide +kernel
theorem dX10_covers_20 : decode cX10_covers 20 = .ok (.iload_n 1, 1) := by decide +kernel
theorem dX10_covers_21 : decode cX10_covers 21 = .ok (.iconst 1, 1) := by decide +kernel
theorem dX10_covers_22 : decode cX10_covers 22 = .ok (.invokevirtual 73, 3) := by decide +kernel
theorem dX10_covers_25 : decode cX10_covers 25 = .ok (.isub, 1) := by decide +kernel
theorem dX10_covers_26 : decode cX10_covers 26 = .ok (.istore 5, 2) := by decide +kernel
theorem dX10_covers_28 : decode cX10_covers 28 = .ok (.aload_n 0, 1) := by decide +kernel
theorem dX10_covers_29 : decode cX10_covers 29 = .ok (.aload_n 0, 1) := by decide +kernel
theorem dX10_covers_30 : decode cX10_covers 30 = .ok (.getfield 66, 3) := by decide +kernel
theorem dX10_covers_33 : decode cX10_covers 33 = .ok (.iload_n 1, 1) := by decide +kernel
theorem dX10_covers_34 : decode cX10_covers 34 = .ok (.iconst 2, 1) := by decide +kernel
theorem dX10_covers_35 : decode cX10_covers 35 = .ok (.invokevirtual 73, 3) := by decide +kernel
theorem dX10_covers_38 : decode cX10_covers 38 = .ok (.istore 6, 2) := by decide +kernel
theorem dX10_covers_40 : decode cX10_covers 40 = .ok (.iload 4, 2) := by decide +kernel
theorem dX10_covers_42 : decode cX10_covers 42 = .ok (.ifCond .lt 30, 3) := by decide +kernel
theorem dX10_covers_45 : decode cX10_covers 45 = .ok (.iload 5, 2) := by decide +kernel
theorem dX10_covers_47 : decode cX10_covers 47 = .ok (.ifCond .lt 25, 3) := by decide +kernel
theorem dX10_covers_50 : decode cX10_covers 50 = .ok (.iload 4, 2) := by decide +kernel
theorem dX10_covers_52 : decode cX10_covers 52 = .ok (.iload 6, 2) := by decide +kernel
theorem dX10_covers_54 : decode cX10_covers 54 = .ok (.if_icmp .ge 18, 3) := by decide +kernel
theorem dX10_covers_57 : decode cX10_covers 57 = .ok (.iload 5, 2) := by decide +kernel
theorem dX10_covers_59 : decode cX10_covers 59 = .ok (.aload_n 0, 1) := by decide +kernel
theorem dX10_covers_60 : decode cX10_covers 60 = .ok (.aload_n 0, 1) := by decide +kernel
theorem dX10_covers_61 : decode cX10_covers 61 = .ok (.getfield 66, 3) := by decide +kernel
theorem dX10_covers_64 : decode cX10_covers 64 = .ok (.iload_n 1, 1) := by decide +kernel
theorem dX10_covers_65 : decode cX10_covers 65 = .ok (.iconst 3, 1) := by decide +kernel
theorem dX10_covers_66 : decode cX10_covers 66 = .ok (.invokevirtual 73, 3) := by decide +kernel
theorem dX10_covers_69 : decode cX10_covers 69 = .ok (.if_icmp .lt 5, 3) := by decide +kernel
theorem dX10_covers_72 : decode cX10_covers 72 = .ok (.iconst (-1), 1) := by decide +kernel
theorem dX10_covers_73 : decode cX10_covers 73 = .ok (.ireturn, 1) := by decide +kernel
theorem dX10_covers_74 : decode cX10_covers 74 = .ok (.aload_n 0, 1) := by decide +kernel
theorem dX10_covers_75 : decode cX10_covers 75 = .ok (.aload_n 0, 1) := by decide +kernel
theorem dX10_covers_76 : decode cX10_covers 76 = .ok (.getfield 66, 3) := by decide +kernel
theorem dX10_covers_79 : decode cX10_covers 79 = .ok (.iload_n 1, 1) := by decide +kernel
theorem dX10_covers_80 : decode cX10_covers 80 = .ok (.iload 6, 2) := by decide +kernel
theorem dX10_covers_82 : decode cX10_covers 82 = .ok (.iload 5, 2) := by decide +kernel
theorem dX10_covers_84 : decode cX10_covers 84 = .ok (.imul, 1) := by decide +kernel
theorem dX10_covers_85 : decode cX10_covers 85 = .ok (.iload 4, 2) := by decide +kernel
theorem dX10_covers_87 : decode cX10_covers 87 = .ok (.iadd, 1) := by decide +kernel
theorem dX10_covers_88 : decode cX10_covers 88 = .ok (.invokevirtual 271, 3) := by decide +kernel
theorem dX10_covers_91 : decode cX10_covers 91 = .ok (.ireturn, 1) := by decide +kernel
theorem dX10_canvas_0 : decode cX10_canvas 0 = .ok (.aload_n 0, 1) := by decide +kernel
theorem dX10_canvas_1 : decode cX10_canvas 1 = .ok (.iload_n 1, 1) := by decide +kernel
theorem dX10_canvas_2 : decode cX10_canvas 2 = .ok (.invokevirtual 229, 3) := by decide +kernel
theorem dX10_canvas_5 : decode cX10_canvas 5 = .ok (.ifCond .eq 49, 3) := by decide +kernel
theorem dX10_canvas_8 : decode cX10_canvas 8 = .ok (.iload_n 2, 1) := by decide +kernel
theorem dX10_canvas_9 : decode cX10_canvas 9 = .ok (.iconst 0, 1) := by decide +kernel
theorem dX10_canvas_10 : decode cX10_canvas 10 = .ok (.aload_n 0, 1) := by decide +kernel
theorem dX10_canvas_11 : decode cX10_canvas 11 = .ok (.getfield 23, 3) := by decide +kernel
theorem dX10_canvas_14 : decode cX10_canvas 14 = .ok (.bipush 6, 2) := by decide +kernel
theorem dX10_canvas_16 : decode cX10_canvas 16 = .ok (.aload_n 0, 1) := by decide +kernel
theorem dX10_canvas_17 : decode cX10_canvas 17 = .ok (.getfield 66, 3) := by decide +kernel
theorem dX10_canvas_20 : decode cX10_canvas 20 = .ok (.imul, 1) := by decide +kernel
theorem dX10_canvas_21 : decode cX10_canvas 21 = .ok (.iaload, 1) := by decide +kernel
theorem dX10_canvas_22 : decode cX10_canvas 22 = .ok (.iconst 1, 1) := by decide +kernel
theorem dX10_canvas_23 : decode cX10_canvas 23 = .ok (.isub, 1) := by decide +kernel
theorem dX10_canvas_24 : decode cX10_canvas 24 = .ok (.invokestatic 221, 3) := by decide +kernel
theorem dX10_canvas_27 : decode cX10_canvas 27 = .ok (.ifCond .eq 27, 3) := by decide +kernel
theorem dX10_canvas_30 : decode cX10_canvas 30 = .ok (.iload_n 3, 1) := by decide +kernel
theorem dX10_canvas_31 : decode cX10_canvas 31 = .ok (.iconst 0, 1) := by decide +kernel
theorem dX10_canvas_32 : decode cX10_canvas 32 = .ok (.aload_n 0, 1) := by decide +kernel
theorem dX10_canvas_33 : decode cX10_canvas 33 = .ok (.getfield 23, 3) := by decide +kernel
theorem dX10_canvas_36 : decode cX10_canvas 36 = .ok (.bipush 6, 2) := by decide +kernel
theorem dX10_canvas_38 : decode cX10_canvas 38 = .ok (.aload_n 0, 1) := by decide +kernel
theorem dX10_canvas_39 : decode cX10_canvas 39 = .ok (.getfield 66, 3) := by decide +kernel
theorem dX10_canvas_42 : decode cX10_canvas 42 = .ok (.imul, 1) := by decide +kernel
theorem dX10_canvas_43 : decode cX10_canvas 43 = .ok (.iconst 1, 1) := by decide +kernel
theorem dX10_canvas_44 : decode cX10_canvas 44 = .ok (.iadd, 1) := by decide +kernel
theorem dX10_canvas_45 : decode cX10_canvas 45 = .ok (.iaload, 1) := by decide +kernel
theorem dX10_canvas_46 : decode cX10_canvas 46 = .ok (.iconst 1, 1) := by decide +kernel
theorem dX10_canvas_47 : decode cX10_canvas 47 = .ok (.isub, 1) := by decide +kernel
theorem dX10_canvas_48 : decode cX10_canvas 48 = .ok (.invokestatic 221, 3) := by decide +kernel
theorem dX10_canvas_51 : decode cX10_canvas 51 = .ok (.ifCond .ne 6, 3) := by decide +kernel
theorem dX10_canvas_54 : decode cX10_canvas 54 = .ok (.bipush (-2), 2) := by decide +kernel
theorem dX10_canvas_56 : decode cX10_canvas 56 = .ok (.ireturn, 1) := by decide +kernel
theorem dX10_canvas_57 : decode cX10_canvas 57 = .ok (.aload_n 0, 1) := by decide +kernel
theorem dX10_canvas_58 : decode cX10_canvas 58 = .ok (.getfield 23, 3) := by decide +kernel
theorem dX10_canvas_61 : decode cX10_canvas 61 = .ok (.bipush 6, 2) := by decide +kernel
theorem dX10_canvas_63 : decode cX10_canvas 63 = .ok (.aload_n 0, 1) := by decide +kernel
theorem dX10_canvas_64 : decode cX10_canvas 64 = .ok (.getfield 66, 3) := by decide +kernel
theorem dX10_canvas_67 : decode cX10_canvas 67 = .ok (.imul, 1) := by decide +kernel
theorem dX10_canvas_68 : decode cX10_canvas 68 = .ok (.iconst 3, 1) := by decide +kernel
theorem dX10_canvas_69 : decode cX10_canvas 69 = .ok (.iadd, 1) := by decide +kernel
theorem dX10_canvas_70 : decode cX10_canvas 70 = .ok (.iaload, 1) := by decide +kernel
theorem dX10_canvas_71 : decode cX10_canvas 71 = .ok (.aload_n 0, 1) := by decide +kernel
theorem dX10_canvas_72 : decode cX10_canvas 72 = .ok (.getfield 23, 3) := by decide +kernel
theorem dX10_canvas_75 : decode cX10_canvas 75 = .ok (.bipush 6, 2) := by decide +kernel
theorem dX10_canvas_77 : decode cX10_canvas 77 = .ok (.aload_n 0, 1) := by decide +kernel
theorem dX10_canvas_78 : decode cX10_canvas 78 = .ok (.getfield 66, 3) := by decide +kernel
theorem dX10_canvas_81 : decode cX10_canvas 81 = .ok (.imul, 1) := by decide +kernel
theorem dX10_canvas_82 : decode cX10_canvas 82 = .ok (.iconst 2, 1) := by decide +kernel
theorem dX10_canvas_83 : decode cX10_canvas 83 = .ok (.iadd, 1) := by decide +kernel
theorem dX10_canvas_84 : decode cX10_canvas 84 = .ok (.iaload, 1) := by decide +kernel
theorem dX10_canvas_85 : decode cX10_canvas 85 = .ok (.if_icmp .ge 34, 3) := by decide +kernel
theorem dX10_canvas_88 : decode cX10_canvas 88 = .ok (.aload_n 0, 1) := by decide +kernel
theorem dX10_canvas_89 : decode cX10_canvas 89 = .ok (.getfield 27, 3) := by decide +kernel
theorem dX10_canvas_92 : decode cX10_canvas 92 = .ok (.sipush 256, 3) := by decide +kernel
theorem dX10_canvas_95 : decode cX10_canvas 95 = .ok (.aload_n 0, 1) := by decide +kernel
theorem dX10_canvas_96 : decode cX10_canvas 96 = .ok (.getfield 66, 3) := by decide +kernel
theorem dX10_canvas_99 : decode cX10_canvas 99 = .ok (.imul, 1) := by decide +kernel
theorem dX10_canvas_100 : decode cX10_canvas 100 = .ok (.aload_n 0, 1) := by decide +kernel
theorem dX10_canvas_101 : decode cX10_canvas 101 = .ok (.getfield 23, 3) := by decide +kernel
theorem dX10_canvas_104 : decode cX10_canvas 104 = .ok (.bipush 6, 2) := by decide +kernel
theorem dX10_canvas_106 : decode cX10_canvas 106 = .ok (.aload_n 0, 1) := by decide +kernel
theorem dX10_canvas_107 : decode cX10_canvas 107 = .ok (.getfield 66, 3) := by decide +kernel
theorem dX10_canvas_110 : decode cX10_canvas 110 = .ok (.imul, 1) := by decide +kernel
theorem dX10_canvas_111 : decode cX10_canvas 111 = .ok (.iconst 3, 1) := by decide +kernel
theorem dX10_canvas_112 : decode cX10_canvas 112 = .ok (.iadd, 1) := by decide +kernel
theorem dX10_canvas_113 : decode cX10_canvas 113 = .ok (.iaload, 1) := by decide +kernel
theorem dX10_canvas_114 : decode cX10_canvas 114 = .ok (.iadd, 1) := by decide +kernel
theorem dX10_canvas_115 : decode cX10_canvas 115 = .ok (.iaload, 1) := by decide +kernel
theorem dX10_canvas_116 : decode cX10_canvas 116 = .ok (.goto 4, 3) := by decide +kernel
theorem dX10_canvas_119 : decode cX10_canvas 119 = .ok (.iconst (-1), 1) := by decide +kernel
theorem dX10_canvas_120 : decode cX10_canvas 120 = .ok (.istore 4, 2) := by decide +kernel
theorem dX10_canvas_122 : decode cX10_canvas 122 = .ok (.iload 4, 2) := by decide +kernel
theorem dX10_canvas_124 : decode cX10_canvas 124 = .ok (.istore 5, 2) := by decide +kernel
theorem dX10_canvas_126 : decode cX10_canvas 126 = .ok (.iload 4, 2) := by decide +kernel
theorem dX10_canvas_128 : decode cX10_canvas 128 = .ok (.istore 6, 2) := by decide +kernel
theorem dX10_canvas_130 : decode cX10_canvas 130 = .ok (.iconst 0, 1) := by decide +kernel
theorem dX10_canvas_131 : decode cX10_canvas 131 = .ok (.istore 7, 2) := by decide +kernel
theorem dX10_canvas_133 : decode cX10_canvas 133 = .ok (.iload 7, 2) := by decide +kernel
theorem dX10_canvas_135 : decode cX10_canvas 135 = .ok (.iload_n 1, 1) := by decide +kernel
theorem dX10_canvas_136 : decode cX10_canvas 136 = .ok (.if_icmp .gt 138, 3) := by decide +kernel
theorem dX10_canvas_139 : decode cX10_canvas 139 = .ok (.aload_n 0, 1) := by decide +kernel
theorem dX10_canvas_140 : decode cX10_canvas 140 = .ok (.iload 7, 2) := by decide +kernel
theorem dX10_canvas_142 : decode cX10_canvas 142 = .ok (.iload_n 2, 1) := by decide +kernel
theorem dX10_canvas_143 : decode cX10_canvas 143 = .ok (.iload_n 3, 1) := by decide +kernel
theorem dX10_canvas_144 : decode cX10_canvas 144 = .ok (.invokevirtual 287, 3) := by decide +kernel
theorem dX10_canvas_147 : decode cX10_canvas 147 = .ok (.istore 8, 2) := by decide +kernel
theorem dX10_canvas_149 : decode cX10_canvas 149 = .ok (.iload 5, 2) := by decide +kernel
theorem dX10_canvas_151 : decode cX10_canvas 151 = .ok (.istore 6, 2) := by decide +kernel
theorem dX10_canvas_153 : decode cX10_canvas 153 = .ok (.iload 8, 2) := by decide +kernel
theorem dX10_canvas_155 : decode cX10_canvas 155 = .ok (.ifCond .lt 71, 3) := by decide +kernel
theorem dX10_canvas_158 : decode cX10_canvas 158 = .ok (.iload 8, 2) := by decide +kernel
theorem dX10_canvas_160 : decode cX10_canvas 160 = .ok (.aload_n 0, 1) := by decide +kernel
theorem dX10_canvas_161 : decode cX10_canvas 161 = .ok (.aload_n 0, 1) := by decide +kernel
theorem dX10_canvas_162 : decode cX10_canvas 162 = .ok (.getfield 66, 3) := by decide +kernel
theorem dX10_canvas_165 : decode cX10_canvas 165 = .ok (.iload 7, 2) := by decide +kernel
theorem dX10_canvas_167 : decode cX10_canvas 167 = .ok (.bipush 7, 2) := by decide +kernel
theorem dX10_canvas_169 : decode cX10_canvas 169 = .ok (.invokevirtual 73, 3) := by decide +kernel
theorem dX10_canvas_172 : decode cX10_canvas 172 = .ok (.if_icmp .eq 54, 3) := by decide +kernel
theorem dX10_canvas_175 : decode cX10_canvas 175 = .ok (.aload_n 0, 1) := by decide +kernel
theorem dX10_canvas_176 : decode cX10_canvas 176 = .ok (.aload_n 0, 1) := by decide +kernel
theorem dX10_canvas_177 : decode cX10_canvas 177 = .ok (.getfield 66, 3) := by decide +kernel
theorem dX10_canvas_180 : decode cX10_canvas 180 = .ok (.iload 7, 2) := by decide +kernel
theorem dX10_canvas_182 : decode cX10_canvas 182 = .ok (.iconst 4, 1) := by decide +kernel
theorem dX10_canvas_183 : decode cX10_canvas 183 = .ok (.invokevirtual 73, 3) := by decide +kernel
theorem dX10_canvas_186 : decode cX10_canvas 186 = .ok (.ifCond .le 22, 3) := by decide +kernel
theorem dX10_canvas_189 : decode cX10_canvas 189 = .ok (.aload_n 0, 1) := by decide +kernel
theorem dX10_canvas_190 : decode cX10_canvas 190 = .ok (.getfield 33, 3) := by decide +kernel
theorem dX10_canvas_193 : decode cX10_canvas 193 = .ok (.aload_n 0, 1) := by decide +kernel
theorem dX10_canvas_194 : decode cX10_canvas 194 = .ok (.getfield 66, 3) := by decide +kernel
theorem dX10_canvas_197 : decode cX10_canvas 197 = .ok (.iload 7, 2) := by decide +kernel
theorem dX10_canvas_199 : decode cX10_canvas 199 = .ok (.iload 8, 2) := by decide +kernel
theorem dX10_canvas_201 : decode cX10_canvas 201 = .ok (.invokestatic 160, 3) := by decide +kernel
theorem dX10_canvas_204 : decode cX10_canvas 204 = .ok (.iaload, 1) := by decide +kernel
theorem dX10_canvas_205 : decode cX10_canvas 205 = .ok (.goto 19, 3) := by decide +kernel
theorem dX10_canvas_208 : decode cX10_canvas 208 = .ok (.aload_n 0, 1) := by decide +kernel
theorem dX10_canvas_209 : decode cX10_canvas 209 = .ok (.getfield 27, 3) := by decide +kernel
theorem dX10_canvas_212 : decode cX10_canvas 212 = .ok (.sipush 256, 3) := by decide +kernel
theorem dX10_canvas_215 : decode cX10_canvas 215 = .ok (.aload_n 0, 1) := by decide +kernel
theorem dX10_canvas_216 : decode cX10_canvas 216 = .ok (.getfield 66, 3) := by decide +kernel
theorem dX10_canvas_219 : decode cX10_canvas 219 = .ok (.imul, 1) := by decide +kernel
theorem dX10_canvas_220 : decode cX10_canvas 220 = .ok (.iload 8, 2) := by decide +kernel
theorem dX10_canvas_222 : decode cX10_canvas 222 = .ok (.iadd, 1) := by decide +kernel
theorem dX10_canvas_223 : decode cX10_canvas 223 = .ok (.iaload, 1) := by decide +kernel
theorem dX10_canvas_224 : decode cX10_canvas 224 = .ok (.istore 6, 2) := by decide +kernel
theorem dX10_canvas_226 : decode cX10_canvas 226 = .ok (.aload_n 0, 1) := by decide +kernel
theorem dX10_canvas_227 : decode cX10_canvas 227 = .ok (.aload_n 0, 1) := by decide +kernel
theorem dX10_canvas_228 : decode cX10_canvas 228 = .ok (.getfield 66, 3) := by decide +kernel
theorem dX10_canvas_231 : decode cX10_canvas 231 = .ok (.iload 7, 2) := by decide +kernel
theorem dX10_canvas_233 : decode cX10_canvas 233 = .ok (.bipush 6, 2) := by decide +kernel
theorem dX10_canvas_235 : decode cX10_canvas 235 = .ok (.invokevirtual 73, 3) := by decide +kernel
theorem dX10_canvas_238 : decode cX10_canvas 238 = .ok (.istore 9, 2) := by decide +kernel
theorem dX10_canvas_240 : decode cX10_canvas 240 = .ok (.iload 9, 2) := by decide +kernel
theorem dX10_canvas_242 : decode cX10_canvas 242 = .ok (.iconst 2, 1) := by decide +kernel
theorem dX10_canvas_243 : decode cX10_canvas 243 = .ok (.if_icmp .ne 15, 3) := by decide +kernel
theorem dX10_canvas_246 : decode cX10_canvas 246 = .ok (.iload 8, 2) := by decide +kernel
theorem dX10_canvas_248 : decode cX10_canvas 248 = .ok (.ifCond .lt 10, 3) := by decide +kernel
theorem dX10_canvas_251 : decode cX10_canvas 251 = .ok (.iload 4, 2) := by decide +kernel
theorem dX10_canvas_253 : decode cX10_canvas 253 = .ok (.istore 5, 2) := by decide +kernel
theorem dX10_canvas_255 : decode cX10_canvas 255 = .ok (.goto 13, 3) := by decide +kernel
theorem dX10_canvas_258 : decode cX10_canvas 258 = .ok (.iload 9, 2) := by decide +kernel
theorem dX10_canvas_260 : decode cX10_canvas 260 = .ok (.iconst 3, 1) := by decide +kernel
theorem dX10_canvas_261 : decode cX10_canvas 261 = .ok (.if_icmp .eq 7, 3) := by decide +kernel
theorem dX10_canvas_264 : decode cX10_canvas 264 = .ok (.iload 6, 2) := by decide +kernel
theorem dX10_canvas_266 : decode cX10_canvas 266 = .ok (.istore 5, 2) := by decide +kernel
theorem dX10_canvas_268 : decode cX10_canvas 268 = .ok (.iinc 7 1, 3) := by decide +kernel
theorem dX10_canvas_271 : decode cX10_canvas 271 = .ok (.goto (-138), 3) := by decide +kernel
theorem dX10_canvas_274 : decode cX10_canvas 274 = .ok (.iload 6, 2) := by decide +kernel
theorem dX10_canvas_276 : decode cX10_canvas 276 = .ok (.ireturn, 1) := by decide +kernel
theorem dL_law_0 : decode cL_law 0 = .ok (.new 7, 3) := by decide +kernel
theorem dL_law_3 : decode cL_law 3 = .ok (.dup, 1) := by decide +kernel
theorem dL_law_4 : decode cL_law 4 = .ok (.invokespecial 9, 3) := by decide +kernel
theorem dL_law_7 : decode cL_law 7 = .ok (.astore_n 1, 1) := by decide +kernel
theorem dL_law_8 : decode cL_law 8 = .ok (.new 10, 3) := by decide +kernel
theorem dL_law_11 : decode cL_law 11 = .ok (.dup, 1) := by decide +kernel
theorem dL_law_12 : decode cL_law 12 = .ok (.invokespecial 12, 3) := by decide +kernel
theorem dL_law_15 : decode cL_law 15 = .ok (.astore_n 2, 1) := by decide +kernel
theorem dL_law_16 : decode cL_law 16 = .ok (.iconst 0, 1) := by decide +kernel
theorem dL_law_17 : decode cL_law 17 = .ok (.istore_n 3, 1) := by decide +kernel
theorem dL_law_18 : decode cL_law 18 = .ok (.iload_n 3, 1) := by decide +kernel
theorem dL_law_19 : decode cL_law 19 = .ok (.aload_n 0, 1) := by decide +kernel
theorem dL_law_20 : decode cL_law 20 = .ok (.arraylength, 1) := by decide +kernel
theorem dL_law_21 : decode cL_law 21 = .ok (.bipush 7, 2) := by decide +kernel
theorem dL_law_23 : decode cL_law 23 = .ok (.isub, 1) := by decide +kernel
theorem dL_law_24 : decode cL_law 24 = .ok (.if_icmp .gt 736, 3) := by decide +kernel
theorem dL_law_27 : decode cL_law 27 = .ok (.aload_n 0, 1) := by decide +kernel
theorem dL_law_28 : decode cL_law 28 = .ok (.iload_n 3, 1) := by decide +kernel
theorem dL_law_29 : decode cL_law 29 = .ok (.iaload, 1) := by decide +kernel
theorem dL_law_30 : decode cL_law 30 = .ok (.bipush 15, 2) := by decide +kernel
theorem dL_law_32 : decode cL_law 32 = .ok (.iand, 1) := by decide +kernel
theorem dL_law_33 : decode cL_law 33 = .ok (.tableswitch 721 0 15 #[79, 142, 155, 178, 201, 254, 297, 388, 467, 520, 533, 556, 579, 612, 645, 678], 79) := by decide +kernel
theorem dL_law_112 : decode cL_law 112 = .ok (.aload_n 1, 1) := by decide +kernel
theorem dL_law_113 : decode cL_law 113 = .ok (.aload_n 0, 1) := by decide +kernel
theorem dL_law_114 : decode cL_law 114 = .ok (.iload_n 3, 1) := by decide +kernel
theorem dL_law_115 : decode cL_law 115 = .ok (.iconst 1, 1) := by decide +kernel
theorem dL_law_116 : decode cL_law 116 = .ok (.iadd, 1) := by decide +kernel
theorem dL_law_117 : decode cL_law 117 = .ok (.iaload, 1) := by decide +kernel
theorem dL_law_118 : decode cL_law 118 = .ok (.aload_n 0, 1) := by decide +kernel
theorem dL_law_119 : decode cL_law 119 = .ok (.iload_n 3, 1) := by decide +kernel
theorem dL_law_120 : decode cL_law 120 = .ok (.iconst 2, 1) := by decide +kernel
theorem dL_law_121 : decode cL_law 121 = .ok (.iadd, 1) := by decide +kernel
theorem dL_law_122 : decode cL_law 122 = .ok (.iaload, 1) := by decide +kernel
theorem dL_law_123 : decode cL_law 123 = .ok (.aload_n 0, 1) := by decide +kernel
theorem dL_law_124 : decode cL_law 124 = .ok (.iload_n 3, 1) := by decide +kernel
theorem dL_law_125 : decode cL_law 125 = .ok (.iconst 3, 1) := by decide +kernel
theorem dL_law_126 : decode cL_law 126 = .ok (.iadd, 1) := by decide +kernel
theorem dL_law_127 : decode cL_law 127 = .ok (.iaload, 1) := by decide +kernel
theorem dL_law_128 : decode cL_law 128 = .ok (.aload_n 0, 1) := by decide +kernel
theorem dL_law_129 : decode cL_law 129 = .ok (.iload_n 3, 1) := by decide +kernel
theorem dL_law_130 : decode cL_law 130 = .ok (.iconst 4, 1) := by decide +kernel
theorem dL_law_131 : decode cL_law 131 = .ok (.iadd, 1) := by decide +kernel
theorem dL_law_132 : decode cL_law 132 = .ok (.iaload, 1) := by decide +kernel
theorem dL_law_133 : decode cL_law 133 = .ok (.aload_n 0, 1) := by decide +kernel
theorem dL_law_134 : decode cL_law 134 = .ok (.iload_n 3, 1) := by decide +kernel
theorem dL_law_135 : decode cL_law 135 = .ok (.iconst 5, 1) := by decide +kernel
theorem dL_law_136 : decode cL_law 136 = .ok (.iadd, 1) := by decide +kernel
theorem dL_law_137 : decode cL_law 137 = .ok (.iaload, 1) := by decide +kernel
theorem dL_law_138 : decode cL_law 138 = .ok (.invokevirtual 13, 3) := by decide +kernel
theorem dL_law_141 : decode cL_law 141 = .ok (.aload_n 2, 1) := by decide +kernel
theorem dL_law_142 : decode cL_law 142 = .ok (.aload_n 0, 1) := by decide +kernel
theorem dL_law_143 : decode cL_law 143 = .ok (.iload_n 3, 1) := by decide +kernel
theorem dL_law_144 : decode cL_law 144 = .ok (.iconst 1, 1) := by decide +kernel
theorem dL_law_145 : decode cL_law 145 = .ok (.iadd, 1) := by decide +kernel
theorem dL_law_146 : decode cL_law 146 = .ok (.iaload, 1) := by decide +kernel
theorem dL_law_147 : decode cL_law 147 = .ok (.aload_n 0, 1) := by decide +kernel
theorem dL_law_148 : decode cL_law 148 = .ok (.iload_n 3, 1) := by decide +kernel
theorem dL_law_149 : decode cL_law 149 = .ok (.iconst 2, 1) := by decide +kernel
theorem dL_law_150 : decode cL_law 150 = .ok (.iadd, 1) := by decide +kernel
theorem dL_law_151 : decode cL_law 151 = .ok (.iaload, 1) := by decide +kernel
theorem dL_law_152 : decode cL_law 152 = .ok (.aload_n 0, 1) := by decide +kernel
theorem dL_law_153 : decode cL_law 153 = .ok (.iload_n 3, 1) := by decide +kernel
theorem dL_law_154 : decode cL_law 154 = .ok (.iconst 3, 1) := by decide +kernel
theorem dL_law_155 : decode cL_law 155 = .ok (.iadd, 1) := by decide +kernel
theorem dL_law_156 : decode cL_law 156 = .ok (.iaload, 1) := by decide +kernel
theorem dL_law_157 : decode cL_law 157 = .ok (.aload_n 0, 1) := by decide +kernel
theorem dL_law_158 : decode cL_law 158 = .ok (.iload_n 3, 1) := by decide +kernel
theorem dL_law_159 : decode cL_law 159 = .ok (.iconst 4, 1) := by decide +kernel
theorem dL_law_160 : decode cL_law 160 = .ok (.iadd, 1) := by decide +kernel
theorem dL_law_161 : decode cL_law 161 = .ok (.iaload, 1) := by decide +kernel
theorem dL_law_162 : decode cL_law 162 = .ok (.aload_n 0, 1) := by decide +kernel
theorem dL_law_163 : decode cL_law 163 = .ok (.iload_n 3, 1) := by decide +kernel
theorem dL_law_164 : decode cL_law 164 = .ok (.iconst 5, 1) := by decide +kernel
theorem dL_law_165 : decode cL_law 165 = .ok (.iadd, 1) := by decide +kernel
theorem dL_law_166 : decode cL_law 166 = .ok (.iaload, 1) := by decide +kernel
theorem dL_law_167 : decode cL_law 167 = .ok (.invokevirtual 17, 3) := by decide +kernel
theorem dL_law_170 : decode cL_law 170 = .ok (.if_icmp .eq 584, 3) := by decide +kernel
theorem dL_law_173 : decode cL_law 173 = .ok (.iconst 0, 1) := by decide +kernel
theorem dL_law_174 : decode cL_law 174 = .ok (.ireturn, 1) := by decide +kernel
theorem dL_law_175 : decode cL_law 175 = .ok (.aload_n 1, 1) := by decide +kernel
theorem dL_law_176 : decode cL_law 176 = .ok (.invokevirtual 18, 3) := by decide +kernel
theorem dL_law_179 : decode cL_law 179 = .ok (.aload_n 2, 1) := by decide +kernel
theorem dL_law_180 : decode cL_law 180 = .ok (.invokevirtual 22, 3) := by decide +kernel
theorem dL_law_183 : decode cL_law 183 = .ok (.if_icmp .eq 571, 3) := by decide +kernel
theorem dL_law_186 : decode cL_law 186 = .ok (.iconst 0, 1) := by decide +kernel
theorem dL_law_187 : decode cL_law 187 = .ok (.ireturn, 1) := by decide +kernel
theorem dL_law_188 : decode cL_law 188 = .ok (.aload_n 1, 1) := by decide +kernel
theorem dL_law_189 : decode cL_law 189 = .ok (.aload_n 0, 1) := by decide +kernel
theorem dL_law_190 : decode cL_law 190 = .ok (.iload_n 3, 1) := by decide +kernel
theorem dL_law_191 : decode cL_law 191 = .ok (.iconst 1, 1) := by decide +kernel
theorem dL_law_192 : decode cL_law 192 = .ok (.iadd, 1) := by decide +kernel
theorem dL_law_193 : decode cL_law 193 = .ok (.iaload, 1) := by decide +kernel
theorem dL_law_194 : decode cL_law 194 = .ok (.invokevirtual 23, 3) := by decide +kernel
theorem dL_law_197 : decode cL_law 197 = .ok (.aload_n 2, 1) := by decide +kernel
theorem dL_law_198 : decode cL_law 198 = .ok (.aload_n 0, 1) := by decide +kernel
theorem dL_law_199 : decode cL_law 199 = .ok (.iload_n 3, 1) := by decide +kernel
theorem dL_law_200 : decode cL_law 200 = .ok (.iconst 1, 1) := by decide +kernel
theorem dL_law_201 : decode cL_law 201 = .ok (.iadd, 1) := by decide +kernel
theorem dL_law_202 : decode cL_law 202 = .ok (.iaload, 1) := by decide +kernel
theorem dL_law_203 : decode cL_law 203 = .ok (.invokevirtual 27, 3) := by decide +kernel
theorem dL_law_206 : decode cL_law 206 = .ok (.if_icmp .eq 548, 3) := by decide +kernel
theorem dL_law_209 : decode cL_law 209 = .ok (.iconst 0, 1) := by decide +kernel
theorem dL_law_210 : decode cL_law 210 = .ok (.ireturn, 1) := by decide +kernel
theorem dL_law_211 : decode cL_law 211 = .ok (.aload_n 1, 1) := by decide +kernel
theorem dL_law_212 : decode cL_law 212 = .ok (.aload_n 0, 1) := by decide +kernel
theorem dL_law_213 : decode cL_law 213 = .ok (.iload_n 3, 1) := by decide +kernel
theorem dL_law_214 : decode cL_law 214 = .ok (.iconst 1, 1) := by decide +kernel
theorem dL_law_215 : decode cL_law 215 = .ok (.iadd, 1) := by decide +kernel
theorem dL_law_216 : decode cL_law 216 = .ok (.iaload, 1) := by decide +kernel
theorem dL_law_217 : decode cL_law 217 = .ok (.invokevirtual 28, 3) := by decide +kernel
theorem dL_law_220 : decode cL_law 220 = .ok (.aload_n 2, 1) := by decide +kernel
theorem dL_law_221 : decode cL_law 221 = .ok (.aload_n 0, 1) := by decide +kernel
theorem dL_law_222 : decode cL_law 222 = .ok (.iload_n 3, 1) := by decide +kernel
theorem dL_law_223 : decode cL_law 223 = .ok (.iconst 1, 1) := by decide +kernel
theorem dL_law_224 : decode cL_law 224 = .ok (.iadd, 1) := by decide +kernel
theorem dL_law_225 : decode cL_law 225 = .ok (.iaload, 1) := by decide +kernel
theorem dL_law_226 : decode cL_law 226 = .ok (.invokevirtual 31, 3) := by decide +kernel
theorem dL_law_229 : decode cL_law 229 = .ok (.if_icmp .eq 525, 3) := by decide +kernel
theorem dL_law_232 : decode cL_law 232 = .ok (.iconst 0, 1) := by decide +kernel
theorem dL_law_233 : decode cL_law 233 = .ok (.ireturn, 1) := by decide +kernel
theorem dL_law_234 : decode cL_law 234 = .ok (.aload_n 1, 1) := by decide +kernel
theorem dL_law_235 : decode cL_law 235 = .ok (.aload_n 0, 1) := by decide +kernel
theorem dL_law_236 : decode cL_law 236 = .ok (.iload_n 3, 1) := by decide +kernel
theorem dL_law_237 : decode cL_law 237 = .ok (.iconst 1, 1) := by decide +kernel
theorem dL_law_238 : decode cL_law 238 = .ok (.iadd, 1) := by decide +kernel
theorem dL_law_239 : decode cL_law 239 = .ok (.iaload, 1) := by decide +kernel
theorem dL_law_240 : decode cL_law 240 = .ok (.aload_n 0, 1) := by decide +kernel
theorem dL_law_241 : decode cL_law 241 = .ok (.iload_n 3, 1) := by decide +kernel
theorem dL_law_242 : decode cL_law 242 = .ok (.iconst 2, 1) := by decide +kernel
theorem dL_law_243 : decode cL_law 243 = .ok (.iadd, 1) := by decide +kernel
theorem dL_law_244 : decode cL_law 244 = .ok (.iaload, 1) := by decide +kernel
theorem dL_law_245 : decode cL_law 245 = .ok (.aload_n 0, 1) := by decide +kernel
theorem dL_law_246 : decode cL_law 246 = .ok (.iload_n 3, 1) := by decide +kernel
theorem dL_law_247 : decode cL_law 247 = .ok (.iconst 3, 1) := by decide +kernel
theorem dL_law_248 : decode cL_law 248 = .ok (.iadd, 1) := by decide +kernel
theorem dL_law_249 : decode cL_law 249 = .ok (.iaload, 1) := by decide +kernel
theorem dL_law_250 : decode cL_law 250 = .ok (.aload_n 0, 1) := by decide +kernel
theorem dL_law_251 : decode cL_law 251 = .ok (.iload_n 3, 1) := by decide +kernel
theorem dL_law_252 : decode cL_law 252 = .ok (.iconst 4, 1) := by decide +kernel
theorem dL_law_253 : decode cL_law 253 = .ok (.iadd, 1) := by decide +kernel
theorem dL_law_254 : decode cL_law 254 = .ok (.iaload, 1) := by decide +kernel
theorem dL_law_255 : decode cL_law 255 = .ok (.invokevirtual 32, 3) := by decide +kernel
theorem dL_law_258 : decode cL_law 258 = .ok (.aload_n 2, 1) := by decide +kernel
theorem dL_law_259 : decode cL_law 259 = .ok (.aload_n 0, 1) := by decide +kernel
theorem dL_law_260 : decode cL_law 260 = .ok (.iload_n 3, 1) := by decide +kernel
theorem dL_law_261 : decode cL_law 261 = .ok (.iconst 1, 1) := by decide +kernel
theorem dL_law_262 : decode cL_law 262 = .ok (.iadd, 1) := by decide +kernel
theorem dL_law_263 : decode cL_law 263 = .ok (.iaload, 1) := by decide +kernel
theorem dL_law_264 : decode cL_law 264 = .ok (.aload_n 0, 1) := by decide +kernel
theorem dL_law_265 : decode cL_law 265 = .ok (.iload_n 3, 1) := by decide +kernel
theorem dL_law_266 : decode cL_law 266 = .ok (.iconst 2, 1) := by decide +kernel
theorem dL_law_267 : decode cL_law 267 = .ok (.iadd, 1) := by decide +kernel
theorem dL_law_268 : decode cL_law 268 = .ok (.iaload, 1) := by decide +kernel
theorem dL_law_269 : decode cL_law 269 = .ok (.aload_n 0, 1) := by decide +kernel
theorem dL_law_270 : decode cL_law 270 = .ok (.iload_n 3, 1) := by decide +kernel
theorem dL_law_271 : decode cL_law 271 = .ok (.iconst 3, 1) := by decide +kernel
theorem dL_law_272 : decode cL_law 272 = .ok (.iadd, 1) := by decide +kernel
theorem dL_law_273 : decode cL_law 273 = .ok (.iaload, 1) := by decide +kernel
theorem dL_law_274 : decode cL_law 274 = .ok (.aload_n 0, 1) := by decide +kernel
theorem dL_law_275 : decode cL_law 275 = .ok (.iload_n 3, 1) := by decide +kernel
theorem dL_law_276 : decode cL_law 276 = .ok (.iconst 4, 1) := by decide +kernel
theorem dL_law_277 : decode cL_law 277 = .ok (.iadd, 1) := by decide +kernel
theorem dL_law_278 : decode cL_law 278 = .ok (.iaload, 1) := by decide +kernel
theorem dL_law_279 : decode cL_law 279 = .ok (.invokevirtual 36, 3) := by decide +kernel
theorem dL_law_282 : decode cL_law 282 = .ok (.if_icmp .eq 472, 3) := by decide +kernel
theorem dL_law_285 : decode cL_law 285 = .ok (.iconst 0, 1) := by decide +kernel
theorem dL_law_286 : decode cL_law 286 = .ok (.ireturn, 1) := by decide +kernel
theorem dL_law_287 : decode cL_law 287 = .ok (.aload_n 1, 1) := by decide +kernel
theorem dL_law_288 : decode cL_law 288 = .ok (.aload_n 0, 1) := by decide +kernel
theorem dL_law_289 : decode cL_law 289 = .ok (.iload_n 3, 1) := by decide +kernel
theorem dL_law_290 : decode cL_law 290 = .ok (.iconst 1, 1) := by decide +kernel
theorem dL_law_291 : decode cL_law 291 = .ok (.iadd, 1) := by decide +kernel
theorem dL_law_292 : decode cL_law 292 = .ok (.iaload, 1) := by decide +kernel
theorem dL_law_293 : decode cL_law 293 = .ok (.aload_n 0, 1) := by decide +kernel
theorem dL_law_294 : decode cL_law 294 = .ok (.iload_n 3, 1) := by decide +kernel
theorem dL_law_295 : decode cL_law 295 = .ok (.iconst 2, 1) := by decide +kernel
theorem dL_law_296 : decode cL_law 296 = .ok (.iadd, 1) := by decide +kernel
theorem dL_law_297 : decode cL_law 297 = .ok (.iaload, 1) := by decide +kernel
theorem dL_law_298 : decode cL_law 298 = .ok (.aload_n 0, 1) := by decide +kernel
theorem dL_law_299 : decode cL_law 299 = .ok (.iload_n 3, 1) := by decide +kernel
theorem dL_law_300 : decode cL_law 300 = .ok (.iconst 3, 1) := by decide +kernel
theorem dL_law_301 : decode cL_law 301 = .ok (.iadd, 1) := by decide +kernel
theorem dL_law_302 : decode cL_law 302 = .ok (.iaload, 1) := by decide +kernel
theorem dL_law_303 : decode cL_law 303 = .ok (.invokevirtual 37, 3) := by decide +kernel
theorem dL_law_306 : decode cL_law 306 = .ok (.aload_n 2, 1) := by decide +kernel
theorem dL_law_307 : decode cL_law 307 = .ok (.aload_n 0, 1) := by decide +kernel
theorem dL_law_308 : decode cL_law 308 = .ok (.iload_n 3, 1) := by decide +kernel
theorem dL_law_309 : decode cL_law 309 = .ok (.iconst 1, 1) := by decide +kernel
theorem dL_law_310 : decode cL_law 310 = .ok (.iadd, 1) := by decide +kernel
theorem dL_law_311 : decode cL_law 311 = .ok (.iaload, 1) := by decide +kernel
theorem dL_law_312 : decode cL_law 312 = .ok (.aload_n 0, 1) := by decide +kernel
theorem dL_law_313 : decode cL_law 313 = .ok (.iload_n 3, 1) := by decide +kernel
theorem dL_law_314 : decode cL_law 314 = .ok (.iconst 2, 1) := by decide +kernel
theorem dL_law_315 : decode cL_law 315 = .ok (.iadd, 1) := by decide +kernel
theorem dL_law_316 : decode cL_law 316 = .ok (.iaload, 1) := by decide +kernel
theorem dL_law_317 : decode cL_law 317 = .ok (.aload_n 0, 1) := by decide +kernel
theorem dL_law_318 : decode cL_law 318 = .ok (.iload_n 3, 1) := by decide +kernel
theorem dL_law_319 : decode cL_law 319 = .ok (.iconst 3, 1) := by decide +kernel
theorem dL_law_320 : decode cL_law 320 = .ok (.iadd, 1) := by decide +kernel
theorem dL_law_321 : decode cL_law 321 = .ok (.iaload, 1) := by decide +kernel
theorem dL_law_322 : decode cL_law 322 = .ok (.invokevirtual 41, 3) := by decide +kernel
theorem dL_law_325 : decode cL_law 325 = .ok (.if_icmp .eq 429, 3) := by decide +kernel
theorem dL_law_328 : decode cL_law 328 = .ok (.iconst 0, 1) := by decide +kernel
theorem dL_law_329 : decode cL_law 329 = .ok (.ireturn, 1) := by decide +kernel
theorem dL_law_330 : decode cL_law 330 = .ok (.aload_n 1, 1) := by decide +kernel
theorem dL_law_331 : decode cL_law 331 = .ok (.aload_n 0, 1) := by decide +kernel
theorem dL_law_332 : decode cL_law 332 = .ok (.iload_n 3, 1) := by decide +kernel
theorem dL_law_333 : decode cL_law 333 = .ok (.iconst 1, 1) := by decide +kernel
theorem dL_law_334 : decode cL_law 334 = .ok (.iadd, 1) := by decide +kernel
theorem dL_law_335 : decode cL_law 335 = .ok (.iaload, 1) := by decide +kernel
theorem dL_law_336 : decode cL_law 336 = .ok (.aload_n 0, 1) := by decide +kernel
theorem dL_law_337 : decode cL_law 337 = .ok (.iload_n 3, 1) := by decide +kernel
theorem dL_law_338 : decode cL_law 338 = .ok (.iconst 2, 1) := by decide +kernel
theorem dL_law_339 : decode cL_law 339 = .ok (.iadd, 1) := by decide +kernel
theorem dL_law_340 : decode cL_law 340 = .ok (.iaload, 1) := by decide +kernel
theorem dL_law_341 : decode cL_law 341 = .ok (.aload_n 0, 1) := by decide +kernel
theorem dL_law_342 : decode cL_law 342 = .ok (.iload_n 3, 1) := by decide +kernel
theorem dL_law_343 : decode cL_law 343 = .ok (.iconst 3, 1) := by decide +kernel
theorem dL_law_344 : decode cL_law 344 = .ok (.iadd, 1) := by decide +kernel
theorem dL_law_345 : decode cL_law 345 = .ok (.iaload, 1) := by decide +kernel
theorem dL_law_346 : decode cL_law 346 = .ok (.aload_n 0, 1) := by decide +kernel
theorem dL_law_347 : decode cL_law 347 = .ok (.iload_n 3, 1) := by decide +kernel
theorem dL_law_348 : decode cL_law 348 = .ok (.iconst 4, 1) := by decide +kernel
theorem dL_law_349 : decode cL_law 349 = .ok (.iadd, 1) := by decide +kernel
theorem dL_law_350 : decode cL_law 350 = .ok (.iaload, 1) := by decide +kernel
theorem dL_law_351 : decode cL_law 351 = .ok (.aload_n 0, 1) := by decide +kernel
theorem dL_law_352 : decode cL_law 352 = .ok (.iload_n 3, 1) := by decide +kernel
theorem dL_law_353 : decode cL_law 353 = .ok (.iconst 5, 1) := by decide +kernel
theorem dL_law_354 : decode cL_law 354 = .ok (.iadd, 1) := by decide +kernel
theorem dL_law_355 : decode cL_law 355 = .ok (.iaload, 1) := by decide +kernel
theorem dL_law_356 : decode cL_law 356 = .ok (.aload_n 0, 1) := by decide +kernel
theorem dL_law_357 : decode cL_law 357 = .ok (.iload_n 3, 1) := by decide +kernel
theorem dL_law_358 : decode cL_law 358 = .ok (.bipush 6, 2) := by decide +kernel
theorem dL_law_360 : decode cL_law 360 = .ok (.iadd, 1) := by decide +kernel
theorem dL_law_361 : decode cL_law 361 = .ok (.iaload, 1) := by decide +kernel
theorem dL_law_362 : decode cL_law 362 = .ok (.ifCond .eq 7, 3) := by decide +kernel
theorem dL_law_365 : decode cL_law 365 = .ok (.iconst 1, 1) := by decide +kernel
theorem dL_law_366 : decode cL_law 366 = .ok (.goto 4, 3) := by decide +kernel
theorem dL_law_369 : decode cL_law 369 = .ok (.iconst 0, 1) := by decide +kernel
theorem dL_law_370 : decode cL_law 370 = .ok (.invokevirtual 42, 3) := by decide +kernel
theorem dL_law_373 : decode cL_law 373 = .ok (.aload_n 2, 1) := by decide +kernel
theorem dL_law_374 : decode cL_law 374 = .ok (.aload_n 0, 1) := by decide +kernel
theorem dL_law_375 : decode cL_law 375 = .ok (.iload_n 3, 1) := by decide +kernel
theorem dL_law_376 : decode cL_law 376 = .ok (.iconst 1, 1) := by decide +kernel
theorem dL_law_377 : decode cL_law 377 = .ok (.iadd, 1) := by decide +kernel
theorem dL_law_378 : decode cL_law 378 = .ok (.iaload, 1) := by decide +kernel
theorem dL_law_379 : decode cL_law 379 = .ok (.aload_n 0, 1) := by decide +kernel
theorem dL_law_380 : decode cL_law 380 = .ok (.iload_n 3, 1) := by decide +kernel
theorem dL_law_381 : decode cL_law 381 = .ok (.iconst 2, 1) := by decide +kernel
theorem dL_law_382 : decode cL_law 382 = .ok (.iadd, 1) := by decide +kernel
theorem dL_law_383 : decode cL_law 383 = .ok (.iaload, 1) := by decide +kernel
theorem dL_law_384 : decode cL_law 384 = .ok (.aload_n 0, 1) := by decide +kernel
theorem dL_law_385 : decode cL_law 385 = .ok (.iload_n 3, 1) := by decide +kernel
theorem dL_law_386 : decode cL_law 386 = .ok (.iconst 3, 1) := by decide +kernel
theorem dL_law_387 : decode cL_law 387 = .ok (.iadd, 1) := by decide +kernel
theorem dL_law_388 : decode cL_law 388 = .ok (.iaload, 1) := by decide +kernel
theorem dL_law_389 : decode cL_law 389 = .ok (.aload_n 0, 1) := by decide +kernel
theorem dL_law_390 : decode cL_law 390 = .ok (.iload_n 3, 1) := by decide +kernel
theorem dL_law_391 : decode cL_law 391 = .ok (.iconst 4, 1) := by decide +kernel
theorem dL_law_392 : decode cL_law 392 = .ok (.iadd, 1) := by decide +kernel
theorem dL_law_393 : decode cL_law 393 = .ok (.iaload, 1) := by decide +kernel
theorem dL_law_394 : decode cL_law 394 = .ok (.aload_n 0, 1) := by decide +kernel
theorem dL_law_395 : decode cL_law 395 = .ok (.iload_n 3, 1) := by decide +kernel
theorem dL_law_396 : decode cL_law 396 = .ok (.iconst 5, 1) := by decide +kernel
theorem dL_law_397 : decode cL_law 397 = .ok (.iadd, 1) := by decide +kernel
theorem dL_law_398 : decode cL_law 398 = .ok (.iaload, 1) := by decide +kernel
theorem dL_law_399 : decode cL_law 399 = .ok (.aload_n 0, 1) := by decide +kernel
theorem dL_law_400 : decode cL_law 400 = .ok (.iload_n 3, 1) := by decide +kernel
theorem dL_law_401 : decode cL_law 401 = .ok (.bipush 6, 2) := by decide +kernel
theorem dL_law_403 : decode cL_law 403 = .ok (.iadd, 1) := by decide +kernel
theorem dL_law_404 : decode cL_law 404 = .ok (.iaload, 1) := by decide +kernel
theorem dL_law_405 : decode cL_law 405 = .ok (.ifCond .eq 7, 3) := by decide +kernel
theorem dL_law_408 : decode cL_law 408 = .ok (.iconst 1, 1) := by decide +kernel
theorem dL_law_409 : decode cL_law 409 = .ok (.goto 4, 3) := by decide +kernel
theorem dL_law_412 : decode cL_law 412 = .ok (.iconst 0, 1) := by decide +kernel
theorem dL_law_413 : decode cL_law 413 = .ok (.invokevirtual 46, 3) := by decide +kernel
theorem dL_law_416 : decode cL_law 416 = .ok (.if_icmp .eq 338, 3) := by decide +kernel
theorem dL_law_419 : decode cL_law 419 = .ok (.iconst 0, 1) := by decide +kernel
theorem dL_law_420 : decode cL_law 420 = .ok (.ireturn, 1) := by decide +kernel
theorem dL_law_421 : decode cL_law 421 = .ok (.aload_n 1, 1) := by decide +kernel
theorem dL_law_422 : decode cL_law 422 = .ok (.aload_n 0, 1) := by decide +kernel
theorem dL_law_423 : decode cL_law 423 = .ok (.iload_n 3, 1) := by decide +kernel
theorem dL_law_424 : decode cL_law 424 = .ok (.iconst 1, 1) := by decide +kernel
theorem dL_law_425 : decode cL_law 425 = .ok (.iadd, 1) := by decide +kernel
theorem dL_law_426 : decode cL_law 426 = .ok (.iaload, 1) := by decide +kernel
theorem dL_law_427 : decode cL_law 427 = .ok (.aload_n 0, 1) := by decide +kernel
theorem dL_law_428 : decode cL_law 428 = .ok (.iload_n 3, 1) := by decide +kernel
theorem dL_law_429 : decode cL_law 429 = .ok (.iconst 2, 1) := by decide +kernel
theorem dL_law_430 : decode cL_law 430 = .ok (.iadd, 1) := by decide +kernel
theorem dL_law_431 : decode cL_law 431 = .ok (.iaload, 1) := by decide +kernel
theorem dL_law_432 : decode cL_law 432 = .ok (.aload_n 0, 1) := by decide +kernel
theorem dL_law_433 : decode cL_law 433 = .ok (.iload_n 3, 1) := by decide +kernel
theorem dL_law_434 : decode cL_law 434 = .ok (.iconst 3, 1) := by decide +kernel
theorem dL_law_435 : decode cL_law 435 = .ok (.iadd, 1) := by decide +kernel
theorem dL_law_436 : decode cL_law 436 = .ok (.iaload, 1) := by decide +kernel
theorem dL_law_437 : decode cL_law 437 = .ok (.aload_n 0, 1) := by decide +kernel
theorem dL_law_438 : decode cL_law 438 = .ok (.iload_n 3, 1) := by decide +kernel
theorem dL_law_439 : decode cL_law 439 = .ok (.iconst 4, 1) := by decide +kernel
theorem dL_law_440 : decode cL_law 440 = .ok (.iadd, 1) := by decide +kernel
theorem dL_law_441 : decode cL_law 441 = .ok (.iaload, 1) := by decide +kernel
theorem dL_law_442 : decode cL_law 442 = .ok (.aload_n 0, 1) := by decide +kernel
theorem dL_law_443 : decode cL_law 443 = .ok (.iload_n 3, 1) := by decide +kernel
theorem dL_law_444 : decode cL_law 444 = .ok (.iconst 5, 1) := by decide +kernel
theorem dL_law_445 : decode cL_law 445 = .ok (.iadd, 1) := by decide +kernel
theorem dL_law_446 : decode cL_law 446 = .ok (.iaload, 1) := by decide +kernel
theorem dL_law_447 : decode cL_law 447 = .ok (.ifCond .eq 7, 3) := by decide +kernel
theorem dL_law_450 : decode cL_law 450 = .ok (.iconst 1, 1) := by decide +kernel
theorem dL_law_451 : decode cL_law 451 = .ok (.goto 4, 3) := by decide +kernel
theorem dL_law_454 : decode cL_law 454 = .ok (.iconst 0, 1) := by decide +kernel
theorem dL_law_455 : decode cL_law 455 = .ok (.invokevirtual 47, 3) := by decide +kernel
theorem dL_law_458 : decode cL_law 458 = .ok (.aload_n 2, 1) := by decide +kernel
theorem dL_law_459 : decode cL_law 459 = .ok (.aload_n 0, 1) := by decide +kernel
theorem dL_law_460 : decode cL_law 460 = .ok (.iload_n 3, 1) := by decide +kernel
theorem dL_law_461 : decode cL_law 461 = .ok (.iconst 1, 1) := by decide +kernel
theorem dL_law_462 : decode cL_law 462 = .ok (.iadd, 1) := by decide +kernel
theorem dL_law_463 : decode cL_law 463 = .ok (.iaload, 1) := by decide +kernel
theorem dL_law_464 : decode cL_law 464 = .ok (.aload_n 0, 1) := by decide +kernel
theorem dL_law_465 : decode cL_law 465 = .ok (.iload_n 3, 1) := by decide +kernel
theorem dL_law_466 : decode cL_law 466 = .ok (.iconst 2, 1) := by decide +kernel
theorem dL_law_467 : decode cL_law 467 = .ok (.iadd, 1) := by decide +kernel
theorem dL_law_468 : decode cL_law 468 = .ok (.iaload, 1) := by decide +kernel
theorem dL_law_469 : decode cL_law 469 = .ok (.aload_n 0, 1) := by decide +kernel
theorem dL_law_470 : decode cL_law 470 = .ok (.iload_n 3, 1) := by decide +kernel
theorem dL_law_471 : decode cL_law 471 = .ok (.iconst 3, 1) := by decide +kernel
theorem dL_law_472 : decode cL_law 472 = .ok (.iadd, 1) := by decide +kernel
theorem dL_law_473 : decode cL_law 473 = .ok (.iaload, 1) := by decide +kernel
theorem dL_law_474 : decode cL_law 474 = .ok (.aload_n 0, 1) := by decide +kernel
theorem dL_law_475 : decode cL_law 475 = .ok (.iload_n 3, 1) := by decide +kernel
theorem dL_law_476 : decode cL_law 476 = .ok (.iconst 4, 1) := by decide +kernel
theorem dL_law_477 : decode cL_law 477 = .ok (.iadd, 1) := by decide +kernel
theorem dL_law_478 : decode cL_law 478 = .ok (.iaload, 1) := by decide +kernel
theorem dL_law_479 : decode cL_law 479 = .ok (.aload_n 0, 1) := by decide +kernel
theorem dL_law_480 : decode cL_law 480 = .ok (.iload_n 3, 1) := by decide +kernel
theorem dL_law_481 : decode cL_law 481 = .ok (.iconst 5, 1) := by decide +kernel
theorem dL_law_482 : decode cL_law 482 = .ok (.iadd, 1) := by decide +kernel
theorem dL_law_483 : decode cL_law 483 = .ok (.iaload, 1) := by decide +kernel
theorem dL_law_484 : decode cL_law 484 = .ok (.ifCond .eq 7, 3) := by decide +kernel
theorem dL_law_487 : decode cL_law 487 = .ok (.iconst 1, 1) := by decide +kernel
theorem dL_law_488 : decode cL_law 488 = .ok (.goto 4, 3) := by decide +kernel
theorem dL_law_491 : decode cL_law 491 = .ok (.iconst 0, 1) := by decide +kernel
theorem dL_law_492 : decode cL_law 492 = .ok (.invokevirtual 51, 3) := by decide +kernel
theorem dL_law_495 : decode cL_law 495 = .ok (.if_icmp .eq 259, 3) := by decide +kernel
theorem dL_law_498 : decode cL_law 498 = .ok (.iconst 0, 1) := by decide +kernel
theorem dL_law_499 : decode cL_law 499 = .ok (.ireturn, 1) := by decide +kernel
theorem dL_law_500 : decode cL_law 500 = .ok (.aload_n 1, 1) := by decide +kernel
theorem dL_law_501 : decode cL_law 501 = .ok (.aload_n 0, 1) := by decide +kernel
theorem dL_law_502 : decode cL_law 502 = .ok (.iload_n 3, 1) := by decide +kernel
theorem dL_law_503 : decode cL_law 503 = .ok (.iconst 1, 1) := by decide +kernel
theorem dL_law_504 : decode cL_law 504 = .ok (.iadd, 1) := by decide +kernel
theorem dL_law_505 : decode cL_law 505 = .ok (.iaload, 1) := by decide +kernel
theorem dL_law_506 : decode cL_law 506 = .ok (.aload_n 0, 1) := by decide +kernel
theorem dL_law_507 : decode cL_law 507 = .ok (.iload_n 3, 1) := by decide +kernel
theorem dL_law_508 : decode cL_law 508 = .ok (.iconst 2, 1) := by decide +kernel
theorem dL_law_509 : decode cL_law 509 = .ok (.iadd, 1) := by decide +kernel
theorem dL_law_510 : decode cL_law 510 = .ok (.iaload, 1) := by decide +kernel
theorem dL_law_511 : decode cL_law 511 = .ok (.aload_n 0, 1) := by decide +kernel
theorem dL_law_512 : decode cL_law 512 = .ok (.iload_n 3, 1) := by decide +kernel
theorem dL_law_513 : decode cL_law 513 = .ok (.iconst 3, 1) := by decide +kernel
theorem dL_law_514 : decode cL_law 514 = .ok (.iadd, 1) := by decide +kernel
theorem dL_law_515 : decode cL_law 515 = .ok (.iaload, 1) := by decide +kernel
theorem dL_law_516 : decode cL_law 516 = .ok (.aload_n 0, 1) := by decide +kernel
theorem dL_law_517 : decode cL_law 517 = .ok (.iload_n 3, 1) := by decide +kernel
theorem dL_law_518 : decode cL_law 518 = .ok (.iconst 4, 1) := by decide +kernel
theorem dL_law_519 : decode cL_law 519 = .ok (.iadd, 1) := by decide +kernel
theorem dL_law_520 : decode cL_law 520 = .ok (.iaload, 1) := by decide +kernel
theorem dL_law_521 : decode cL_law 521 = .ok (.invokevirtual 52, 3) := by decide +kernel
theorem dL_law_524 : decode cL_law 524 = .ok (.aload_n 2, 1) := by decide +kernel
theorem dL_law_525 : decode cL_law 525 = .ok (.aload_n 0, 1) := by decide +kernel
theorem dL_law_526 : decode cL_law 526 = .ok (.iload_n 3, 1) := by decide +kernel
theorem dL_law_527 : decode cL_law 527 = .ok (.iconst 1, 1) := by decide +kernel
theorem dL_law_528 : decode cL_law 528 = .ok (.iadd, 1) := by decide +kernel
theorem dL_law_529 : decode cL_law 529 = .ok (.iaload, 1) := by decide +kernel
theorem dL_law_530 : decode cL_law 530 = .ok (.aload_n 0, 1) := by decide +kernel
theorem dL_law_531 : decode cL_law 531 = .ok (.iload_n 3, 1) := by decide +kernel
theorem dL_law_532 : decode cL_law 532 = .ok (.iconst 2, 1) := by decide +kernel
theorem dL_law_533 : decode cL_law 533 = .ok (.iadd, 1) := by decide +kernel
theorem dL_law_534 : decode cL_law 534 = .ok (.iaload, 1) := by decide +kernel
theorem dL_law_535 : decode cL_law 535 = .ok (.aload_n 0, 1) := by decide +kernel
theorem dL_law_536 : decode cL_law 536 = .ok (.iload_n 3, 1) := by decide +kernel
theorem dL_law_537 : decode cL_law 537 = .ok (.iconst 3, 1) := by decide +kernel
theorem dL_law_538 : decode cL_law 538 = .ok (.iadd, 1) := by decide +kernel
theorem dL_law_539 : decode cL_law 539 = .ok (.iaload, 1) := by decide +kernel
theorem dL_law_540 : decode cL_law 540 = .ok (.aload_n 0, 1) := by decide +kernel
theorem dL_law_541 : decode cL_law 541 = .ok (.iload_n 3, 1) := by decide +kernel
theorem dL_law_542 : decode cL_law 542 = .ok (.iconst 4, 1) := by decide +kernel
theorem dL_law_543 : decode cL_law 543 = .ok (.iadd, 1) := by decide +kernel
theorem dL_law_544 : decode cL_law 544 = .ok (.iaload, 1) := by decide +kernel
theorem dL_law_545 : decode cL_law 545 = .ok (.invokevirtual 55, 3) := by decide +kernel
theorem dL_law_548 : decode cL_law 548 = .ok (.if_icmp .eq 206, 3) := by decide +kernel
theorem dL_law_551 : decode cL_law 551 = .ok (.iconst 0, 1) := by decide +kernel
theorem dL_law_552 : decode cL_law 552 = .ok (.ireturn, 1) := by decide +kernel
theorem dL_law_553 : decode cL_law 553 = .ok (.aload_n 1, 1) := by decide +kernel
theorem dL_law_554 : decode cL_law 554 = .ok (.invokevirtual 56, 3) := by decide +kernel
theorem dL_law_557 : decode cL_law 557 = .ok (.aload_n 2, 1) := by decide +kernel
theorem dL_law_558 : decode cL_law 558 = .ok (.invokevirtual 59, 3) := by decide +kernel
theorem dL_law_561 : decode cL_law 561 = .ok (.if_icmp .eq 193, 3) := by decide +kernel
theorem dL_law_564 : decode cL_law 564 = .ok (.iconst 0, 1) := by decide +kernel
theorem dL_law_565 : decode cL_law 565 = .ok (.ireturn, 1) := by decide +kernel
theorem dL_law_566 : decode cL_law 566 = .ok (.aload_n 1, 1) := by decide +kernel
theorem dL_law_567 : decode cL_law 567 = .ok (.aload_n 0, 1) := by decide +kernel
theorem dL_law_568 : decode cL_law 568 = .ok (.iload_n 3, 1) := by decide +kernel
theorem dL_law_569 : decode cL_law 569 = .ok (.iconst 1, 1) := by decide +kernel
theorem dL_law_570 : decode cL_law 570 = .ok (.iadd, 1) := by decide +kernel
theorem dL_law_571 : decode cL_law 571 = .ok (.iaload, 1) := by decide +kernel
theorem dL_law_572 : decode cL_law 572 = .ok (.invokevirtual 60, 3) := by decide +kernel
theorem dL_law_575 : decode cL_law 575 = .ok (.aload_n 2, 1) := by decide +kernel
theorem dL_law_576 : decode cL_law 576 = .ok (.aload_n 0, 1) := by decide +kernel
theorem dL_law_577 : decode cL_law 577 = .ok (.iload_n 3, 1) := by decide +kernel
theorem dL_law_578 : decode cL_law 578 = .ok (.iconst 1, 1) := by decide +kernel
theorem dL_law_579 : decode cL_law 579 = .ok (.iadd, 1) := by decide +kernel
theorem dL_law_580 : decode cL_law 580 = .ok (.iaload, 1) := by decide +kernel
theorem dL_law_581 : decode cL_law 581 = .ok (.invokevirtual 63, 3) := by decide +kernel
theorem dL_law_584 : decode cL_law 584 = .ok (.if_icmp .eq 170, 3) := by decide +kernel
theorem dL_law_587 : decode cL_law 587 = .ok (.iconst 0, 1) := by decide +kernel
theorem dL_law_588 : decode cL_law 588 = .ok (.ireturn, 1) := by decide +kernel
theorem dL_law_589 : decode cL_law 589 = .ok (.aload_n 1, 1) := by decide +kernel
theorem dL_law_590 : decode cL_law 590 = .ok (.aload_n 0, 1) := by decide +kernel
theorem dL_law_591 : decode cL_law 591 = .ok (.iload_n 3, 1) := by decide +kernel
theorem dL_law_592 : decode cL_law 592 = .ok (.iconst 1, 1) := by decide +kernel
theorem dL_law_593 : decode cL_law 593 = .ok (.iadd, 1) := by decide +kernel
theorem dL_law_594 : decode cL_law 594 = .ok (.iaload, 1) := by decide +kernel
theorem dL_law_595 : decode cL_law 595 = .ok (.invokevirtual 64, 3) := by decide +kernel
theorem dL_law_598 : decode cL_law 598 = .ok (.aload_n 2, 1) := by decide +kernel
theorem dL_law_599 : decode cL_law 599 = .ok (.aload_n 0, 1) := by decide +kernel
theorem dL_law_600 : decode cL_law 600 = .ok (.iload_n 3, 1) := by decide +kernel
theorem dL_law_601 : decode cL_law 601 = .ok (.iconst 1, 1) := by decide +kernel
theorem dL_law_602 : decode cL_law 602 = .ok (.iadd, 1) := by decide +kernel
theorem dL_law_603 : decode cL_law 603 = .ok (.iaload, 1) := by decide +kernel
theorem dL_law_604 : decode cL_law 604 = .ok (.invokevirtual 67, 3) := by decide +kernel
theorem dL_law_607 : decode cL_law 607 = .ok (.if_icmp .eq 147, 3) := by decide +kernel
theorem dL_law_610 : decode cL_law 610 = .ok (.iconst 0, 1) := by decide +kernel
theorem dL_law_611 : decode cL_law 611 = .ok (.ireturn, 1) := by decide +kernel
theorem dL_law_612 : decode cL_law 612 = .ok (.aload_n 1, 1) := by decide +kernel
theorem dL_law_613 : decode cL_law 613 = .ok (.aload_n 0, 1) := by decide +kernel
theorem dL_law_614 : decode cL_law 614 = .ok (.iload_n 3, 1) := by decide +kernel
theorem dL_law_615 : decode cL_law 615 = .ok (.iconst 1, 1) := by decide +kernel
theorem dL_law_616 : decode cL_law 616 = .ok (.iadd, 1) := by decide +kernel
theorem dL_law_617 : decode cL_law 617 = .ok (.iaload, 1) := by decide +kernel
theorem dL_law_618 : decode cL_law 618 = .ok (.aload_n 0, 1) := by decide +kernel
theorem dL_law_619 : decode cL_law 619 = .ok (.iload_n 3, 1) := by decide +kernel
theorem dL_law_620 : decode cL_law 620 = .ok (.iconst 2, 1) := by decide +kernel
theorem dL_law_621 : decode cL_law 621 = .ok (.iadd, 1) := by decide +kernel
theorem dL_law_622 : decode cL_law 622 = .ok (.iaload, 1) := by decide +kernel
theorem dL_law_623 : decode cL_law 623 = .ok (.invokevirtual 68, 3) := by decide +kernel
theorem dL_law_626 : decode cL_law 626 = .ok (.aload_n 2, 1) := by decide +kernel
theorem dL_law_627 : decode cL_law 627 = .ok (.aload_n 0, 1) := by decide +kernel
theorem dL_law_628 : decode cL_law 628 = .ok (.iload_n 3, 1) := by decide +kernel
theorem dL_law_629 : decode cL_law 629 = .ok (.iconst 1, 1) := by decide +kernel
theorem dL_law_630 : decode cL_law 630 = .ok (.iadd, 1) := by decide +kernel
theorem dL_law_631 : decode cL_law 631 = .ok (.iaload, 1) := by decide +kernel
theorem dL_law_632 : decode cL_law 632 = .ok (.aload_n 0, 1) := by decide +kernel
theorem dL_law_633 : decode cL_law 633 = .ok (.iload_n 3, 1) := by decide +kernel
theorem dL_law_634 : decode cL_law 634 = .ok (.iconst 2, 1) := by decide +kernel
theorem dL_law_635 : decode cL_law 635 = .ok (.iadd, 1) := by decide +kernel
theorem dL_law_636 : decode cL_law 636 = .ok (.iaload, 1) := by decide +kernel
theorem dL_law_637 : decode cL_law 637 = .ok (.invokevirtual 72, 3) := by decide +kernel
theorem dL_law_640 : decode cL_law 640 = .ok (.if_icmp .eq 114, 3) := by decide +kernel
theorem dL_law_643 : decode cL_law 643 = .ok (.iconst 0, 1) := by decide +kernel
theorem dL_law_644 : decode cL_law 644 = .ok (.ireturn, 1) := by decide +kernel
theorem dL_law_645 : decode cL_law 645 = .ok (.aload_n 1, 1) := by decide +kernel
theorem dL_law_646 : decode cL_law 646 = .ok (.aload_n 0, 1) := by decide +kernel
theorem dL_law_647 : decode cL_law 647 = .ok (.iload_n 3, 1) := by decide +kernel
theorem dL_law_648 : decode cL_law 648 = .ok (.iconst 1, 1) := by decide +kernel
theorem dL_law_649 : decode cL_law 649 = .ok (.iadd, 1) := by decide +kernel
theorem dL_law_650 : decode cL_law 650 = .ok (.iaload, 1) := by decide +kernel
theorem dL_law_651 : decode cL_law 651 = .ok (.aload_n 0, 1) := by decide +kernel
theorem dL_law_652 : decode cL_law 652 = .ok (.iload_n 3, 1) := by decide +kernel
theorem dL_law_653 : decode cL_law 653 = .ok (.iconst 2, 1) := by decide +kernel
theorem dL_law_654 : decode cL_law 654 = .ok (.iadd, 1) := by decide +kernel
theorem dL_law_655 : decode cL_law 655 = .ok (.iaload, 1) := by decide +kernel
theorem dL_law_656 : decode cL_law 656 = .ok (.invokevirtual 73, 3) := by decide +kernel
theorem dL_law_659 : decode cL_law 659 = .ok (.aload_n 2, 1) := by decide +kernel
theorem dL_law_660 : decode cL_law 660 = .ok (.aload_n 0, 1) := by decide +kernel
theorem dL_law_661 : decode cL_law 661 = .ok (.iload_n 3, 1) := by decide +kernel
theorem dL_law_662 : decode cL_law 662 = .ok (.iconst 1, 1) := by decide +kernel
theorem dL_law_663 : decode cL_law 663 = .ok (.iadd, 1) := by decide +kernel
theorem dL_law_664 : decode cL_law 664 = .ok (.iaload, 1) := by decide +kernel
theorem dL_law_665 : decode cL_law 665 = .ok (.aload_n 0, 1) := by decide +kernel
theorem dL_law_666 : decode cL_law 666 = .ok (.iload_n 3, 1) := by decide +kernel
theorem dL_law_667 : decode cL_law 667 = .ok (.iconst 2, 1) := by decide +kernel
theorem dL_law_668 : decode cL_law 668 = .ok (.iadd, 1) := by decide +kernel
theorem dL_law_669 : decode cL_law 669 = .ok (.iaload, 1) := by decide +kernel
theorem dL_law_670 : decode cL_law 670 = .ok (.invokevirtual 76, 3) := by decide +kernel
theorem dL_law_673 : decode cL_law 673 = .ok (.if_icmp .eq 81, 3) := by decide +kernel
theorem dL_law_676 : decode cL_law 676 = .ok (.iconst 0, 1) := by decide +kernel
theorem dL_law_677 : decode cL_law 677 = .ok (.ireturn, 1) := by decide +kernel
theorem dL_law_678 : decode cL_law 678 = .ok (.aload_n 1, 1) := by decide +kernel
theorem dL_law_679 : decode cL_law 679 = .ok (.aload_n 0, 1) := by decide +kernel
theorem dL_law_680 : decode cL_law 680 = .ok (.iload_n 3, 1) := by decide +kernel
theorem dL_law_681 : decode cL_law 681 = .ok (.iconst 1, 1) := by decide +kernel
theorem dL_law_682 : decode cL_law 682 = .ok (.iadd, 1) := by decide +kernel
theorem dL_law_683 : decode cL_law 683 = .ok (.iaload, 1) := by decide +kernel
theorem dL_law_684 : decode cL_law 684 = .ok (.aload_n 0, 1) := by decide +kernel
theorem dL_law_685 : decode cL_law 685 = .ok (.iload_n 3, 1) := by decide +kernel
theorem dL_law_686 : decode cL_law 686 = .ok (.iconst 2, 1) := by decide +kernel
theorem dL_law_687 : decode cL_law 687 = .ok (.iadd, 1) := by decide +kernel
theorem dL_law_688 : decode cL_law 688 = .ok (.iaload, 1) := by decide +kernel
theorem dL_law_689 : decode cL_law 689 = .ok (.invokevirtual 77, 3) := by decide +kernel
theorem dL_law_692 : decode cL_law 692 = .ok (.aload_n 2, 1) := by decide +kernel
theorem dL_law_693 : decode cL_law 693 = .ok (.aload_n 0, 1) := by decide +kernel
theorem dL_law_694 : decode cL_law 694 = .ok (.iload_n 3, 1) := by decide +kernel
theorem dL_law_695 : decode cL_law 695 = .ok (.iconst 1, 1) := by decide +kernel
theorem dL_law_696 : decode cL_law 696 = .ok (.iadd, 1) := by decide +kernel
theorem dL_law_697 : decode cL_law 697 = .ok (.iaload, 1) := by decide +kernel
theorem dL_law_698 : decode cL_law 698 = .ok (.aload_n 0, 1) := by decide +kernel
theorem dL_law_699 : decode cL_law 699 = .ok (.iload_n 3, 1) := by decide +kernel
theorem dL_law_700 : decode cL_law 700 = .ok (.iconst 2, 1) := by decide +kernel
theorem dL_law_701 : decode cL_law 701 = .ok (.iadd, 1) := by decide +kernel
theorem dL_law_702 : decode cL_law 702 = .ok (.iaload, 1) := by decide +kernel
theorem dL_law_703 : decode cL_law 703 = .ok (.invokevirtual 80, 3) := by decide +kernel
theorem dL_law_706 : decode cL_law 706 = .ok (.if_icmp .eq 48, 3) := by decide +kernel
theorem dL_law_709 : decode cL_law 709 = .ok (.iconst 0, 1) := by decide +kernel
theorem dL_law_710 : decode cL_law 710 = .ok (.ireturn, 1) := by decide +kernel
theorem dL_law_711 : decode cL_law 711 = .ok (.aload_n 1, 1) := by decide +kernel
theorem dL_law_712 : decode cL_law 712 = .ok (.aload_n 0, 1) := by decide +kernel
theorem dL_law_713 : decode cL_law 713 = .ok (.iload_n 3, 1) := by decide +kernel
theorem dL_law_714 : decode cL_law 714 = .ok (.iconst 1, 1) := by decide +kernel
theorem dL_law_715 : decode cL_law 715 = .ok (.iadd, 1) := by decide +kernel
theorem dL_law_716 : decode cL_law 716 = .ok (.iaload, 1) := by decide +kernel
theorem dL_law_717 : decode cL_law 717 = .ok (.aload_n 0, 1) := by decide +kernel
theorem dL_law_718 : decode cL_law 718 = .ok (.iload_n 3, 1) := by decide +kernel
theorem dL_law_719 : decode cL_law 719 = .ok (.iconst 2, 1) := by decide +kernel
theorem dL_law_720 : decode cL_law 720 = .ok (.iadd, 1) := by decide +kernel
theorem dL_law_721 : decode cL_law 721 = .ok (.iaload, 1) := by decide +kernel
theorem dL_law_722 : decode cL_law 722 = .ok (.aload_n 0, 1) := by decide +kernel
theorem dL_law_723 : decode cL_law 723 = .ok (.iload_n 3, 1) := by decide +kernel
theorem dL_law_724 : decode cL_law 724 = .ok (.iconst 3, 1) := by decide +kernel
theorem dL_law_725 : decode cL_law 725 = .ok (.iadd, 1) := by decide +kernel
theorem dL_law_726 : decode cL_law 726 = .ok (.iaload, 1) := by decide +kernel
theorem dL_law_727 : decode cL_law 727 = .ok (.invokevirtual 81, 3) := by decide +kernel
theorem dL_law_730 : decode cL_law 730 = .ok (.aload_n 2, 1) := by decide +kernel
theorem dL_law_731 : decode cL_law 731 = .ok (.aload_n 0, 1) := by decide +kernel
theorem dL_law_732 : decode cL_law 732 = .ok (.iload_n 3, 1) := by decide +kernel
theorem dL_law_733 : decode cL_law 733 = .ok (.iconst 1, 1) := by decide +kernel
theorem dL_law_734 : decode cL_law 734 = .ok (.iadd, 1) := by decide +kernel
theorem dL_law_735 : decode cL_law 735 = .ok (.iaload, 1) := by decide +kernel
theorem dL_law_736 : decode cL_law 736 = .ok (.aload_n 0, 1) := by decide +kernel
theorem dL_law_737 : decode cL_law 737 = .ok (.iload_n 3, 1) := by decide +kernel
theorem dL_law_738 : decode cL_law 738 = .ok (.iconst 2, 1) := by decide +kernel
theorem dL_law_739 : decode cL_law 739 = .ok (.iadd, 1) := by decide +kernel
theorem dL_law_740 : decode cL_law 740 = .ok (.iaload, 1) := by decide +kernel
theorem dL_law_741 : decode cL_law 741 = .ok (.aload_n 0, 1) := by decide +kernel
theorem dL_law_742 : decode cL_law 742 = .ok (.iload_n 3, 1) := by decide +kernel
theorem dL_law_743 : decode cL_law 743 = .ok (.iconst 3, 1) := by decide +kernel
theorem dL_law_744 : decode cL_law 744 = .ok (.iadd, 1) := by decide +kernel
theorem dL_law_745 : decode cL_law 745 = .ok (.iaload, 1) := by decide +kernel
theorem dL_law_746 : decode cL_law 746 = .ok (.invokevirtual 85, 3) := by decide +kernel
theorem dL_law_749 : decode cL_law 749 = .ok (.if_icmp .eq 5, 3) := by decide +kernel
theorem dL_law_752 : decode cL_law 752 = .ok (.iconst 0, 1) := by decide +kernel
theorem dL_law_753 : decode cL_law 753 = .ok (.ireturn, 1) := by decide +kernel
theorem dL_law_754 : decode cL_law 754 = .ok (.iinc 3 7, 3) := by decide +kernel
theorem dL_law_757 : decode cL_law 757 = .ok (.goto (-739), 3) := by decide +kernel
theorem dL_law_760 : decode cL_law 760 = .ok (.iconst 1, 1) := by decide +kernel
theorem dL_law_761 : decode cL_law 761 = .ok (.ireturn, 1) := by decide +kernel
end
section
def lw_big : List Cond := lw_tbl.filter goodWord
theorem bg {w : Cond} (h : w ∈ lw_tbl) (g : goodWord w = true) : w ∈ lw_big := List.mem_filter.mpr ⟨h, g⟩
theorem big_in {w : Cond} (h : w ∈ lw_big) : w ∈ lw_tbl := (List.mem_filter.mp h).1
theorem big_good {w : Cond} (h : w ∈ lw_big) : (w.onTables && w.keeps) = true ∨ ∃ ty, w = .arrayClass ty := good_of_word (List.mem_filter.mp h).2
theorem big_gi {c : Cond} {b : List Cond} (hb : ∀ w ∈ lw_big, w ∈ b) (hc : c ∈ lw_big) : GoodIn b (c :: lw_big) := fun w hw => (List.mem_cons.mp hw).elim (fun e => by rw [e]; exact ⟨hb _ hc, big_good hc⟩) (fun h => ⟨hb _ h, big_good h⟩)
theorem in0 {w : Cond} (h : w ∈ k2_sels lw_privs) : w ∈ lw_tbl := List.mem_append_left _ h
theorem inT {w : Cond} (h : w ∈ tables_1) : w ∈ lw_tbl := List.mem_append_right _ h
theorem in1 {w : Cond} (h : w ∈ tables_1_1) : w ∈ lw_tbl := inT (List.mem_append_left _ h)
theorem in2 {w : Cond} (h : w ∈ tables_1_2) : w ∈ lw_tbl := inT (List.mem_append_right _ (List.mem_append_left _ h))
theorem in3 {w : Cond} (h : w ∈ tables_1_3) : w ∈ lw_tbl := inT (List.mem_append_right _ (List.mem_append_right _ (List.mem_append_left _ h)))
theorem in4 {w : Cond} (h : w ∈ tables_1_4) : w ∈ lw_tbl := inT (List.mem_append_right _ (List.mem_append_right _ (List.mem_append_right _ (List.mem_append_left _ h))))
theorem in5 {w : Cond} (h : w ∈ tables_1_5) : w ∈ lw_tbl := inT (List.mem_append_right _ (List.mem_append_right _ (List.mem_append_right _ (List.mem_append_right _ (h)))))
theorem lfX9_12 : Cond.fieldLink RX9 12 "PictureReel" "reader" "LPictureReel$StreamReader;" ∈ lw_big := bg (in2 (List.mem_of_getElem? (i := 126) rfl)) rfl
theorem lfX9_16 : Cond.fieldLink RX9 16 "PictureReel$StreamReader" "source" "LPictureReel$ByteRow;" ∈ lw_big := bg (in2 (List.mem_of_getElem? (i := 23) rfl)) rfl
theorem lfX9_20 : Cond.fieldLink RX9 20 "PictureReel" "tape" "LPictureReel$ByteRow;" ∈ lw_big := bg (in2 (List.mem_of_getElem? (i := 125) rfl)) rfl
theorem lfX9_26 : Cond.fieldLink RX9 26 "PictureReel" "made" "LPictureReel$ByteRow;" ∈ lw_big := bg (in2 (List.mem_of_getElem? (i := 129) rfl)) rfl
theorem lfX9_32 : Cond.fieldLink RX9 32 "PictureReel" "picture" "LPictureReel$Picture;" ∈ lw_big := bg (in2 (List.mem_of_getElem? (i := 128) rfl)) rfl
theorem lfX9_39 : Cond.fieldLink RX9 39 "PictureReel" "writer" "LPictureReel$StreamWriter;" ∈ lw_big := bg (in2 (List.mem_of_getElem? (i := 127) rfl)) rfl
theorem lfX9_43 : Cond.fieldLink RX9 43 "PictureReel" "hasRead" "Z" ∈ lw_big := bg (in2 (List.mem_of_getElem? (i := 130) rfl)) rfl
theorem lfX9_47 : Cond.fieldLink RX9 47 "PictureReel$ByteRow" "size" "I" ∈ lw_big := bg (in1 (List.mem_of_getElem? (i := 37) rfl)) rfl
theorem lfX9_65 : Cond.fieldLink RX9 65 "PictureReel$StreamReader" "kind" "I" ∈ lw_big := bg (in2 (List.mem_of_getElem? (i := 33) rfl)) rfl
theorem lfX9_72 : Cond.fieldLink RX9 72 "PictureReel$Picture" "frameCount" "I" ∈ lw_big := bg (in2 (List.mem_of_getElem? (i := 0) rfl)) rfl
theorem lfX9_75 : Cond.fieldLink RX9 75 "PictureReel$StreamReader" "place" "I" ∈ lw_big := bg (in2 (List.mem_of_getElem? (i := 35) rfl)) rfl
theorem lfX9_102 : Cond.fieldLink RX9 102 "PictureReel$Table" "colours" "[I" ∈ lw_big := bg (in1 (List.mem_of_getElem? (i := 149) rfl)) rfl
theorem lfX9_126 : Cond.fieldLink RX9 126 "PictureReel$Frame" "ways" "LPictureReel$Ways;" ∈ lw_big := bg (in1 (List.mem_of_getElem? (i := 196) rfl)) rfl
theorem lfX9_160 : Cond.fieldLink RX9 160 "PictureReel$Picture" "width" "I" ∈ lw_big := bg (in1 (List.mem_of_getElem? (i := 228) rfl)) rfl
theorem lfX9_163 : Cond.fieldLink RX9 163 "PictureReel$Picture" "height" "I" ∈ lw_big := bg (in1 (List.mem_of_getElem? (i := 231) rfl)) rfl
theorem lfX9_166 : Cond.fieldLink RX9 166 "PictureReel$Picture" "global" "LPictureReel$Table;" ∈ lw_big := bg (in2 (List.mem_of_getElem? (i := 4) rfl)) rfl
theorem lfX9_170 : Cond.fieldLink RX9 170 "PictureReel$Table" "size" "I" ∈ lw_big := bg (in1 (List.mem_of_getElem? (i := 156) rfl)) rfl
theorem lfX9_171 : Cond.fieldLink RX9 171 "PictureReel$Picture" "background" "I" ∈ lw_big := bg (in1 (List.mem_of_getElem? (i := 234) rfl)) rfl
theorem lfX9_174 : Cond.fieldLink RX9 174 "PictureReel$Picture" "aspect" "I" ∈ lw_big := bg (in1 (List.mem_of_getElem? (i := 237) rfl)) rfl
theorem lfX9_177 : Cond.fieldLink RX9 177 "PictureReel$Frame" "left" "I" ∈ lw_big := bg (in1 (List.mem_of_getElem? (i := 175) rfl)) rfl
theorem lfX9_180 : Cond.fieldLink RX9 180 "PictureReel$Frame" "top" "I" ∈ lw_big := bg (in1 (List.mem_of_getElem? (i := 178) rfl)) rfl
theorem lfX9_183 : Cond.fieldLink RX9 183 "PictureReel$Frame" "width" "I" ∈ lw_big := bg (in1 (List.mem_of_getElem? (i := 181) rfl)) rfl
theorem lfX9_184 : Cond.fieldLink RX9 184 "PictureReel$Frame" "height" "I" ∈ lw_big := bg (in1 (List.mem_of_getElem? (i := 184) rfl)) rfl
theorem lfX9_185 : Cond.fieldLink RX9 185 "PictureReel$Frame" "local" "LPictureReel$Table;" ∈ lw_big := bg (in1 (List.mem_of_getElem? (i := 192) rfl)) rfl
theorem lfX9_188 : Cond.fieldLink RX9 188 "PictureReel$Frame" "interlaced" "Z" ∈ lw_big := bg (in1 (List.mem_of_getElem? (i := 188) rfl)) rfl
theorem lfX9_191 : Cond.fieldLink RX9 191 "PictureReel$Ways" "disposal" "I" ∈ lw_big := bg (in1 (List.mem_of_getElem? (i := 115) rfl)) rfl
theorem lfX9_194 : Cond.fieldLink RX9 194 "PictureReel$Ways" "transparent" "I" ∈ lw_big := bg (in1 (List.mem_of_getElem? (i := 119) rfl)) rfl
theorem lfX9_197 : Cond.fieldLink RX9 197 "PictureReel$Ways" "delay" "I" ∈ lw_big := bg (in1 (List.mem_of_getElem? (i := 122) rfl)) rfl
theorem lfX9_200 : Cond.fieldLink RX9 200 "PictureReel$Ways" "input" "Z" ∈ lw_big := bg (in1 (List.mem_of_getElem? (i := 125) rfl)) rfl
theorem lfX9_203 : Cond.fieldLink RX9 203 "PictureReel$Frame" "places" "[I" ∈ lw_big := bg (in1 (List.mem_of_getElem? (i := 200) rfl)) rfl
theorem lfX0_9 : Cond.fieldLink RX0 9 "PictureReel$ByteRow" "bytes" "[I" ∈ lw_big := bg (in1 (List.mem_of_getElem? (i := 35) rfl)) rfl
theorem lfX0_15 : Cond.fieldLink RX0 15 "PictureReel$ByteRow" "size" "I" ∈ lw_big := bg (in1 (List.mem_of_getElem? (i := 36) rfl)) rfl
theorem lfX0_19 : Cond.fieldLink RX0 19 "PictureReel$ByteRow" "over" "Z" ∈ lw_big := bg (in1 (List.mem_of_getElem? (i := 41) rfl)) rfl
theorem lfX1_12 : Cond.fieldLink RX1 12 "PictureReel$CodeReader" "bytes" "LPictureReel$ByteRow;" ∈ lw_big := bg (in1 (List.mem_of_getElem? (i := 59) rfl)) rfl
theorem lfX1_18 : Cond.fieldLink RX1 18 "PictureReel$CodeReader" "order" "[I" ∈ lw_big := bg (in1 (List.mem_of_getElem? (i := 61) rfl)) rfl
theorem lfX1_22 : Cond.fieldLink RX1 22 "PictureReel$CodeReader" "ahead" "[I" ∈ lw_big := bg (in1 (List.mem_of_getElem? (i := 63) rfl)) rfl
theorem lfX1_25 : Cond.fieldLink RX1 25 "PictureReel$CodeReader" "first" "[I" ∈ lw_big := bg (in1 (List.mem_of_getElem? (i := 64) rfl)) rfl
theorem lfX1_28 : Cond.fieldLink RX1 28 "PictureReel$CodeReader" "last" "[I" ∈ lw_big := bg (in1 (List.mem_of_getElem? (i := 65) rfl)) rfl
theorem lfX1_31 : Cond.fieldLink RX1 31 "PictureReel$CodeReader" "lengths" "[I" ∈ lw_big := bg (in1 (List.mem_of_getElem? (i := 66) rfl)) rfl
theorem lfX1_42 : Cond.fieldLink RX1 42 "PictureReel$ByteRow" "size" "I" ∈ lw_big := bg (in1 (List.mem_of_getElem? (i := 38) rfl)) rfl
theorem lfX1_46 : Cond.fieldLink RX1 46 "PictureReel$CodeReader" "done" "I" ∈ lw_big := bg (in1 (List.mem_of_getElem? (i := 72) rfl)) rfl
theorem lfX1_49 : Cond.fieldLink RX1 49 "PictureReel$CodeReader" "bitAt" "I" ∈ lw_big := bg (in1 (List.mem_of_getElem? (i := 68) rfl)) rfl
theorem lfX1_63 : Cond.fieldLink RX1 63 "PictureReel$CodeReader" "least" "I" ∈ lw_big := bg (in1 (List.mem_of_getElem? (i := 67) rfl)) rfl
theorem lfX1_66 : Cond.fieldLink RX1 66 "PictureReel$CodeReader" "bits" "I" ∈ lw_big := bg (in1 (List.mem_of_getElem? (i := 69) rfl)) rfl
theorem lfX1_69 : Cond.fieldLink RX1 69 "PictureReel$CodeReader" "next" "I" ∈ lw_big := bg (in1 (List.mem_of_getElem? (i := 70) rfl)) rfl
theorem lfX1_72 : Cond.fieldLink RX1 72 "PictureReel$CodeReader" "former" "I" ∈ lw_big := bg (in1 (List.mem_of_getElem? (i := 71) rfl)) rfl
theorem lfX2_12 : Cond.fieldLink RX2 12 "PictureReel$CodeWriter" "bytes" "LPictureReel$ByteRow;" ∈ lw_big := bg (in2 (List.mem_of_getElem? (i := 77) rfl)) rfl
theorem lfX2_18 : Cond.fieldLink RX2 18 "PictureReel$CodeWriter" "order" "[I" ∈ lw_big := bg (in2 (List.mem_of_getElem? (i := 79) rfl)) rfl
theorem lfX2_22 : Cond.fieldLink RX2 22 "PictureReel$CodeWriter" "child" "[I" ∈ lw_big := bg (in2 (List.mem_of_getElem? (i := 81) rfl)) rfl
theorem lfX2_25 : Cond.fieldLink RX2 25 "PictureReel$CodeWriter" "sibling" "[I" ∈ lw_big := bg (in2 (List.mem_of_getElem? (i := 82) rfl)) rfl
theorem lfX2_28 : Cond.fieldLink RX2 28 "PictureReel$CodeWriter" "last" "[I" ∈ lw_big := bg (in2 (List.mem_of_getElem? (i := 83) rfl)) rfl
theorem lfX2_31 : Cond.fieldLink RX2 31 "PictureReel$CodeWriter" "least" "I" ∈ lw_big := bg (in2 (List.mem_of_getElem? (i := 84) rfl)) rfl
theorem lfX2_38 : Cond.fieldLink RX2 38 "PictureReel$CodeWriter" "held" "I" ∈ lw_big := bg (in2 (List.mem_of_getElem? (i := 89) rfl)) rfl
theorem lfX2_41 : Cond.fieldLink RX2 41 "PictureReel$CodeWriter" "heldBits" "I" ∈ lw_big := bg (in2 (List.mem_of_getElem? (i := 90) rfl)) rfl
theorem lfX2_44 : Cond.fieldLink RX2 44 "PictureReel$CodeWriter" "at" "I" ∈ lw_big := bg (in2 (List.mem_of_getElem? (i := 88) rfl)) rfl
theorem lfX2_51 : Cond.fieldLink RX2 51 "PictureReel$CodeWriter" "next" "I" ∈ lw_big := bg (in2 (List.mem_of_getElem? (i := 86) rfl)) rfl
theorem lfX2_54 : Cond.fieldLink RX2 54 "PictureReel$CodeWriter" "bits" "I" ∈ lw_big := bg (in2 (List.mem_of_getElem? (i := 85) rfl)) rfl
theorem lfX2_67 : Cond.fieldLink RX2 67 "PictureReel$CodeWriter" "former" "I" ∈ lw_big := bg (in2 (List.mem_of_getElem? (i := 87) rfl)) rfl
theorem lfX3_9 : Cond.fieldLink RX3 9 "PictureReel$Frame" "left" "I" ∈ lw_big := bg (in1 (List.mem_of_getElem? (i := 173) rfl)) rfl
theorem lfX3_15 : Cond.fieldLink RX3 15 "PictureReel$Frame" "top" "I" ∈ lw_big := bg (in1 (List.mem_of_getElem? (i := 176) rfl)) rfl
theorem lfX3_18 : Cond.fieldLink RX3 18 "PictureReel$Frame" "width" "I" ∈ lw_big := bg (in1 (List.mem_of_getElem? (i := 179) rfl)) rfl
theorem lfX3_21 : Cond.fieldLink RX3 21 "PictureReel$Frame" "height" "I" ∈ lw_big := bg (in1 (List.mem_of_getElem? (i := 182) rfl)) rfl
theorem lfX3_24 : Cond.fieldLink RX3 24 "PictureReel$Frame" "interlaced" "Z" ∈ lw_big := bg (in1 (List.mem_of_getElem? (i := 185) rfl)) rfl
theorem lfX3_31 : Cond.fieldLink RX3 31 "PictureReel$Frame" "local" "LPictureReel$Table;" ∈ lw_big := bg (in1 (List.mem_of_getElem? (i := 189) rfl)) rfl
theorem lfX3_38 : Cond.fieldLink RX3 38 "PictureReel$Frame" "ways" "LPictureReel$Ways;" ∈ lw_big := bg (in1 (List.mem_of_getElem? (i := 194) rfl)) rfl
theorem lfX3_42 : Cond.fieldLink RX3 42 "PictureReel$Frame" "places" "[I" ∈ lw_big := bg (in1 (List.mem_of_getElem? (i := 199) rfl)) rfl
theorem lfX3_67 : Cond.fieldLink RX3 67 "PictureReel$Frame" "PASS_STARTS" "[I" ∈ lw_big := bg (in3 (List.mem_of_getElem? (i := 79) rfl)) rfl
theorem lfX3_70 : Cond.fieldLink RX3 70 "PictureReel$Frame" "PASS_SHIFTS" "[I" ∈ lw_big := bg (in3 (List.mem_of_getElem? (i := 81) rfl)) rfl
theorem lfX4_12 : Cond.fieldLink RX4 12 "PictureReel$Picture" "global" "LPictureReel$Table;" ∈ lw_big := bg (in2 (List.mem_of_getElem? (i := 1) rfl)) rfl
theorem lfX4_20 : Cond.fieldLink RX4 20 "PictureReel$Picture" "frames" "[LPictureReel$Frame;" ∈ lw_big := bg (in2 (List.mem_of_getElem? (i := 5) rfl)) rfl
theorem lfX4_29 : Cond.fieldLink RX4 29 "PictureReel$Picture" "width" "I" ∈ lw_big := bg (in1 (List.mem_of_getElem? (i := 226) rfl)) rfl
theorem lfX4_33 : Cond.fieldLink RX4 33 "PictureReel$Picture" "height" "I" ∈ lw_big := bg (in1 (List.mem_of_getElem? (i := 229) rfl)) rfl
theorem lfX4_36 : Cond.fieldLink RX4 36 "PictureReel$Picture" "background" "I" ∈ lw_big := bg (in1 (List.mem_of_getElem? (i := 232) rfl)) rfl
theorem lfX4_39 : Cond.fieldLink RX4 39 "PictureReel$Picture" "aspect" "I" ∈ lw_big := bg (in1 (List.mem_of_getElem? (i := 235) rfl)) rfl
theorem lfX4_42 : Cond.fieldLink RX4 42 "PictureReel$Picture" "frameCount" "I" ∈ lw_big := bg (in1 (List.mem_of_getElem? (i := 238) rfl)) rfl
theorem lfX4_48 : Cond.fieldLink RX4 48 "PictureReel$Table" "size" "I" ∈ lw_big := bg (in1 (List.mem_of_getElem? (i := 154) rfl)) rfl
theorem lfX4_51 : Cond.fieldLink RX4 51 "PictureReel$Frame" "local" "LPictureReel$Table;" ∈ lw_big := bg (in1 (List.mem_of_getElem? (i := 190) rfl)) rfl
theorem lfX4_57 : Cond.fieldLink RX4 57 "PictureReel$Frame" "interlaced" "Z" ∈ lw_big := bg (in1 (List.mem_of_getElem? (i := 187) rfl)) rfl
theorem lfX4_65 : Cond.fieldLink RX4 65 "PictureReel$Table" "colours" "[I" ∈ lw_big := bg (in1 (List.mem_of_getElem? (i := 150) rfl)) rfl
theorem lfX4_85 : Cond.fieldLink RX4 85 "PictureReel$Frame" "ways" "LPictureReel$Ways;" ∈ lw_big := bg (in1 (List.mem_of_getElem? (i := 197) rfl)) rfl
theorem lfX4_89 : Cond.fieldLink RX4 89 "PictureReel$Ways" "transparent" "I" ∈ lw_big := bg (in1 (List.mem_of_getElem? (i := 118) rfl)) rfl
theorem lfX4_98 : Cond.fieldLink RX4 98 "PictureReel$Ways" "disposal" "I" ∈ lw_big := bg (in1 (List.mem_of_getElem? (i := 114) rfl)) rfl
theorem lfX5_12 : Cond.fieldLink RX5 12 "PictureReel$StreamReader" "source" "LPictureReel$ByteRow;" ∈ lw_big := bg (in2 (List.mem_of_getElem? (i := 22) rfl)) rfl
theorem lfX5_21 : Cond.fieldLink RX5 21 "PictureReel$StreamReader" "codes" "LPictureReel$CodeReader;" ∈ lw_big := bg (in2 (List.mem_of_getElem? (i := 24) rfl)) rfl
theorem lfX5_28 : Cond.fieldLink RX5 28 "PictureReel$StreamReader" "pending" "LPictureReel$Ways;" ∈ lw_big := bg (in2 (List.mem_of_getElem? (i := 25) rfl)) rfl
theorem lfX5_35 : Cond.fieldLink RX5 35 "PictureReel$StreamReader" "draft" "LPictureReel$Picture;" ∈ lw_big := bg (in2 (List.mem_of_getElem? (i := 26) rfl)) rfl
theorem lfX5_39 : Cond.fieldLink RX5 39 "PictureReel$StreamReader" "kind" "I" ∈ lw_big := bg (in2 (List.mem_of_getElem? (i := 32) rfl)) rfl
theorem lfX5_43 : Cond.fieldLink RX5 43 "PictureReel$StreamReader" "place" "I" ∈ lw_big := bg (in2 (List.mem_of_getElem? (i := 34) rfl)) rfl
theorem lfX5_46 : Cond.fieldLink RX5 46 "PictureReel$ByteRow" "size" "I" ∈ lw_big := bg (in1 (List.mem_of_getElem? (i := 39) rfl)) rfl
theorem lfX5_55 : Cond.fieldLink RX5 55 "PictureReel$StreamReader" "length" "I" ∈ lw_big := bg (in2 (List.mem_of_getElem? (i := 27) rfl)) rfl
theorem lfX5_58 : Cond.fieldLink RX5 58 "PictureReel$StreamReader" "at" "I" ∈ lw_big := bg (in2 (List.mem_of_getElem? (i := 28) rfl)) rfl
theorem lfX5_61 : Cond.fieldLink RX5 61 "PictureReel$StreamReader" "older" "Z" ∈ lw_big := bg (in2 (List.mem_of_getElem? (i := 29) rfl)) rfl
theorem lfX5_65 : Cond.fieldLink RX5 65 "PictureReel$StreamReader" "ended" "Z" ∈ lw_big := bg (in2 (List.mem_of_getElem? (i := 31) rfl)) rfl
theorem lfX5_113 : Cond.fieldLink RX5 113 "PictureReel$Picture" "global" "LPictureReel$Table;" ∈ lw_big := bg (in2 (List.mem_of_getElem? (i := 3) rfl)) rfl
theorem lfX5_121 : Cond.fieldLink RX5 121 "PictureReel$Table" "size" "I" ∈ lw_big := bg (in1 (List.mem_of_getElem? (i := 155) rfl)) rfl
theorem lfX5_122 : Cond.fieldLink RX5 122 "PictureReel$Table" "colours" "[I" ∈ lw_big := bg (in1 (List.mem_of_getElem? (i := 151) rfl)) rfl
theorem lfX5_132 : Cond.fieldLink RX5 132 "PictureReel$StreamReader" "controlled" "Z" ∈ lw_big := bg (in2 (List.mem_of_getElem? (i := 30) rfl)) rfl
theorem lfX5_172 : Cond.fieldLink RX5 172 "PictureReel$CodeReader" "order" "[I" ∈ lw_big := bg (in1 (List.mem_of_getElem? (i := 62) rfl)) rfl
theorem lfX5_194 : Cond.fieldLink RX5 194 "PictureReel$Frame" "ways" "LPictureReel$Ways;" ∈ lw_big := bg (in1 (List.mem_of_getElem? (i := 198) rfl)) rfl
theorem lfX5_201 : Cond.fieldLink RX5 201 "PictureReel$Frame" "local" "LPictureReel$Table;" ∈ lw_big := bg (in1 (List.mem_of_getElem? (i := 193) rfl)) rfl
theorem lfX5_204 : Cond.fieldLink RX5 204 "PictureReel$CodeReader" "bytes" "LPictureReel$ByteRow;" ∈ lw_big := bg (in1 (List.mem_of_getElem? (i := 60) rfl)) rfl
theorem lfX6_12 : Cond.fieldLink RX6 12 "PictureReel$StreamWriter" "codes" "LPictureReel$CodeWriter;" ∈ lw_big := bg (in2 (List.mem_of_getElem? (i := 118) rfl)) rfl
theorem lfX6_21 : Cond.fieldLink RX6 21 "PictureReel$StreamWriter" "draft" "LPictureReel$ByteRow;" ∈ lw_big := bg (in2 (List.mem_of_getElem? (i := 119) rfl)) rfl
theorem lfX6_32 : Cond.fieldLink RX6 32 "PictureReel$Picture" "frameCount" "I" ∈ lw_big := bg (in1 (List.mem_of_getElem? (i := 239) rfl)) rfl
theorem lfX6_38 : Cond.fieldLink RX6 38 "PictureReel$ByteRow" "over" "Z" ∈ lw_big := bg (in1 (List.mem_of_getElem? (i := 42) rfl)) rfl
theorem lfX6_42 : Cond.fieldLink RX6 42 "PictureReel$Picture" "frames" "[LPictureReel$Frame;" ∈ lw_big := bg (in2 (List.mem_of_getElem? (i := 6) rfl)) rfl
theorem lfX6_46 : Cond.fieldLink RX6 46 "PictureReel$Frame" "ways" "LPictureReel$Ways;" ∈ lw_big := bg (in1 (List.mem_of_getElem? (i := 195) rfl)) rfl
theorem lfX6_80 : Cond.fieldLink RX6 80 "PictureReel$StreamWriter" "START" "[I" ∈ lw_big := bg (in3 (List.mem_of_getElem? (i := 183) rfl)) rfl
theorem lfX6_84 : Cond.fieldLink RX6 84 "PictureReel$Picture" "width" "I" ∈ lw_big := bg (in1 (List.mem_of_getElem? (i := 227) rfl)) rfl
theorem lfX6_90 : Cond.fieldLink RX6 90 "PictureReel$Picture" "height" "I" ∈ lw_big := bg (in1 (List.mem_of_getElem? (i := 230) rfl)) rfl
theorem lfX6_93 : Cond.fieldLink RX6 93 "PictureReel$Picture" "global" "LPictureReel$Table;" ∈ lw_big := bg (in2 (List.mem_of_getElem? (i := 2) rfl)) rfl
theorem lfX6_100 : Cond.fieldLink RX6 100 "PictureReel$Picture" "background" "I" ∈ lw_big := bg (in1 (List.mem_of_getElem? (i := 233) rfl)) rfl
theorem lfX6_103 : Cond.fieldLink RX6 103 "PictureReel$Picture" "aspect" "I" ∈ lw_big := bg (in1 (List.mem_of_getElem? (i := 236) rfl)) rfl
theorem lfX6_110 : Cond.fieldLink RX6 110 "PictureReel$Table" "size" "I" ∈ lw_big := bg (in1 (List.mem_of_getElem? (i := 153) rfl)) rfl
theorem lfX6_113 : Cond.fieldLink RX6 113 "PictureReel$Table" "colours" "[I" ∈ lw_big := bg (in1 (List.mem_of_getElem? (i := 148) rfl)) rfl
theorem lfX6_116 : Cond.fieldLink RX6 116 "PictureReel$Ways" "transparent" "I" ∈ lw_big := bg (in1 (List.mem_of_getElem? (i := 117) rfl)) rfl
theorem lfX6_121 : Cond.fieldLink RX6 121 "PictureReel$Ways" "disposal" "I" ∈ lw_big := bg (in1 (List.mem_of_getElem? (i := 113) rfl)) rfl
theorem lfX6_124 : Cond.fieldLink RX6 124 "PictureReel$Ways" "input" "Z" ∈ lw_big := bg (in1 (List.mem_of_getElem? (i := 124) rfl)) rfl
theorem lfX6_127 : Cond.fieldLink RX6 127 "PictureReel$Ways" "delay" "I" ∈ lw_big := bg (in1 (List.mem_of_getElem? (i := 121) rfl)) rfl
theorem lfX6_130 : Cond.fieldLink RX6 130 "PictureReel$Frame" "left" "I" ∈ lw_big := bg (in1 (List.mem_of_getElem? (i := 174) rfl)) rfl
theorem lfX6_133 : Cond.fieldLink RX6 133 "PictureReel$Frame" "top" "I" ∈ lw_big := bg (in1 (List.mem_of_getElem? (i := 177) rfl)) rfl
theorem lfX6_136 : Cond.fieldLink RX6 136 "PictureReel$Frame" "width" "I" ∈ lw_big := bg (in1 (List.mem_of_getElem? (i := 180) rfl)) rfl
theorem lfX6_137 : Cond.fieldLink RX6 137 "PictureReel$Frame" "height" "I" ∈ lw_big := bg (in1 (List.mem_of_getElem? (i := 183) rfl)) rfl
theorem lfX6_138 : Cond.fieldLink RX6 138 "PictureReel$Frame" "local" "LPictureReel$Table;" ∈ lw_big := bg (in1 (List.mem_of_getElem? (i := 191) rfl)) rfl
theorem lfX6_141 : Cond.fieldLink RX6 141 "PictureReel$Frame" "interlaced" "Z" ∈ lw_big := bg (in1 (List.mem_of_getElem? (i := 186) rfl)) rfl
theorem lfX6_144 : Cond.fieldLink RX6 144 "PictureReel$CodeWriter" "order" "[I" ∈ lw_big := bg (in2 (List.mem_of_getElem? (i := 80) rfl)) rfl
theorem lfX6_160 : Cond.fieldLink RX6 160 "PictureReel$CodeWriter" "bytes" "LPictureReel$ByteRow;" ∈ lw_big := bg (in2 (List.mem_of_getElem? (i := 78) rfl)) rfl
theorem lfX6_163 : Cond.fieldLink RX6 163 "PictureReel$ByteRow" "size" "I" ∈ lw_big := bg (in1 (List.mem_of_getElem? (i := 40) rfl)) rfl
theorem lfX7_9 : Cond.fieldLink RX7 9 "PictureReel$Table" "colours" "[I" ∈ lw_big := bg (in1 (List.mem_of_getElem? (i := 147) rfl)) rfl
theorem lfX7_15 : Cond.fieldLink RX7 15 "PictureReel$Table" "size" "I" ∈ lw_big := bg (in1 (List.mem_of_getElem? (i := 152) rfl)) rfl
theorem lfX8_18 : Cond.fieldLink RX8 18 "PictureReel$Ways" "disposal" "I" ∈ lw_big := bg (in1 (List.mem_of_getElem? (i := 112) rfl)) rfl
theorem lfX8_22 : Cond.fieldLink RX8 22 "PictureReel$Ways" "transparent" "I" ∈ lw_big := bg (in1 (List.mem_of_getElem? (i := 116) rfl)) rfl
theorem lfX8_25 : Cond.fieldLink RX8 25 "PictureReel$Ways" "delay" "I" ∈ lw_big := bg (in1 (List.mem_of_getElem? (i := 120) rfl)) rfl
theorem lfX8_28 : Cond.fieldLink RX8 28 "PictureReel$Ways" "input" "Z" ∈ lw_big := bg (in1 (List.mem_of_getElem? (i := 123) rfl)) rfl
theorem lfX10_7 : Cond.fieldLink RX10 7 "PictureReelModel" "tape" "[B" ∈ lw_big := bg (in4 (List.mem_of_getElem? (i := 75) rfl)) rfl
theorem lfX10_13 : Cond.fieldLink RX10 13 "PictureReelModel" "out" "[B" ∈ lw_big := bg (in4 (List.mem_of_getElem? (i := 76) rfl)) rfl
theorem lfX10_16 : Cond.fieldLink RX10 16 "PictureReelModel" "fault" "I" ∈ lw_big := bg (in4 (List.mem_of_getElem? (i := 79) rfl)) rfl
theorem lfX10_20 : Cond.fieldLink RX10 20 "PictureReelModel" "faultPlace" "I" ∈ lw_big := bg (in4 (List.mem_of_getElem? (i := 80) rfl)) rfl
theorem lfX10_23 : Cond.fieldLink RX10 23 "PictureReelModel" "head" "[I" ∈ lw_big := bg (in4 (List.mem_of_getElem? (i := 82) rfl)) rfl
theorem lfX10_27 : Cond.fieldLink RX10 27 "PictureReelModel" "global" "[I" ∈ lw_big := bg (in4 (List.mem_of_getElem? (i := 83) rfl)) rfl
theorem lfX10_30 : Cond.fieldLink RX10 30 "PictureReelModel" "field" "[I" ∈ lw_big := bg (in4 (List.mem_of_getElem? (i := 84) rfl)) rfl
theorem lfX10_33 : Cond.fieldLink RX10 33 "PictureReelModel" "local" "[I" ∈ lw_big := bg (in4 (List.mem_of_getElem? (i := 85) rfl)) rfl
theorem lfX10_37 : Cond.fieldLink RX10 37 "PictureReelModel" "index" "[S" ∈ lw_big := bg (in4 (List.mem_of_getElem? (i := 86) rfl)) rfl
theorem lfX10_41 : Cond.fieldLink RX10 41 "PictureReelModel" "data" "[B" ∈ lw_big := bg (in4 (List.mem_of_getElem? (i := 96) rfl)) rfl
theorem lfX10_44 : Cond.fieldLink RX10 44 "PictureReelModel" "ahead" "[S" ∈ lw_big := bg (in4 (List.mem_of_getElem? (i := 99) rfl)) rfl
theorem lfX10_47 : Cond.fieldLink RX10 47 "PictureReelModel" "last" "[S" ∈ lw_big := bg (in4 (List.mem_of_getElem? (i := 100) rfl)) rfl
theorem lfX10_50 : Cond.fieldLink RX10 50 "PictureReelModel" "first" "[S" ∈ lw_big := bg (in4 (List.mem_of_getElem? (i := 101) rfl)) rfl
theorem lfX10_53 : Cond.fieldLink RX10 53 "PictureReelModel" "long1" "[S" ∈ lw_big := bg (in4 (List.mem_of_getElem? (i := 102) rfl)) rfl
theorem lfX10_56 : Cond.fieldLink RX10 56 "PictureReelModel" "row" "[B" ∈ lw_big := bg (in4 (List.mem_of_getElem? (i := 110) rfl)) rfl
theorem lfX10_59 : Cond.fieldLink RX10 59 "PictureReelModel" "heir" "[S" ∈ lw_big := bg (in4 (List.mem_of_getElem? (i := 111) rfl)) rfl
theorem lfX10_62 : Cond.fieldLink RX10 62 "PictureReelModel" "beside" "[S" ∈ lw_big := bg (in4 (List.mem_of_getElem? (i := 112) rfl)) rfl
theorem lfX10_66 : Cond.fieldLink RX10 66 "PictureReelModel" "now" "I" ∈ lw_big := bg (in4 (List.mem_of_getElem? (i := 81) rfl)) rfl
theorem lfX10_76 : Cond.fieldLink RX10 76 "PictureReelModel" "taped" "I" ∈ lw_big := bg (in4 (List.mem_of_getElem? (i := 77) rfl)) rfl
theorem lfX10_83 : Cond.fieldLink RX10 83 "PictureReelModel" "outs" "I" ∈ lw_big := bg (in4 (List.mem_of_getElem? (i := 78) rfl)) rfl
theorem lfX10_90 : Cond.fieldLink RX10 90 "PictureReelModel" "at" "I" ∈ lw_big := bg (in4 (List.mem_of_getElem? (i := 87) rfl)) rfl
theorem lfX10_93 : Cond.fieldLink RX10 93 "PictureReelModel" "end" "I" ∈ lw_big := bg (in4 (List.mem_of_getElem? (i := 88) rfl)) rfl
theorem lfX10_103 : Cond.fieldLink RX10 103 "PictureReelModel" "into" "I" ∈ lw_big := bg (in4 (List.mem_of_getElem? (i := 89) rfl)) rfl
theorem lfX10_115 : Cond.fieldLink RX10 115 "PictureReelModel" "isOld" "Z" ∈ lw_big := bg (in4 (List.mem_of_getElem? (i := 90) rfl)) rfl
theorem lfX10_126 : Cond.fieldLink RX10 126 "PictureReelModel" "waits" "Z" ∈ lw_big := bg (in4 (List.mem_of_getElem? (i := 91) rfl)) rfl
theorem lfX10_129 : Cond.fieldLink RX10 129 "PictureReelModel" "disposal" "I" ∈ lw_big := bg (in4 (List.mem_of_getElem? (i := 92) rfl)) rfl
theorem lfX10_132 : Cond.fieldLink RX10 132 "PictureReelModel" "transparent" "I" ∈ lw_big := bg (in4 (List.mem_of_getElem? (i := 93) rfl)) rfl
theorem lfX10_135 : Cond.fieldLink RX10 135 "PictureReelModel" "delay" "I" ∈ lw_big := bg (in4 (List.mem_of_getElem? (i := 94) rfl)) rfl
theorem lfX10_138 : Cond.fieldLink RX10 138 "PictureReelModel" "input" "I" ∈ lw_big := bg (in4 (List.mem_of_getElem? (i := 95) rfl)) rfl
theorem lfX10_174 : Cond.fieldLink RX10 174 "PictureReelModel" "dataEnd" "I" ∈ lw_big := bg (in4 (List.mem_of_getElem? (i := 97) rfl)) rfl
theorem lfX10_177 : Cond.fieldLink RX10 177 "PictureReelModel" "size" "I" ∈ lw_big := bg (in4 (List.mem_of_getElem? (i := 103) rfl)) rfl
theorem lfX10_180 : Cond.fieldLink RX10 180 "PictureReelModel" "next" "I" ∈ lw_big := bg (in4 (List.mem_of_getElem? (i := 104) rfl)) rfl
theorem lfX10_183 : Cond.fieldLink RX10 183 "PictureReelModel" "before" "I" ∈ lw_big := bg (in4 (List.mem_of_getElem? (i := 105) rfl)) rfl
theorem lfX10_186 : Cond.fieldLink RX10 186 "PictureReelModel" "bit" "I" ∈ lw_big := bg (in4 (List.mem_of_getElem? (i := 98) rfl)) rfl
theorem lfX10_237 : Cond.fieldLink RX10 237 "PictureReelModel" "written" "I" ∈ lw_big := bg (in4 (List.mem_of_getElem? (i := 106) rfl)) rfl
theorem lfX10_259 : Cond.fieldLink RX10 259 "PictureReelModel" "rowMany" "I" ∈ lw_big := bg (in4 (List.mem_of_getElem? (i := 109) rfl)) rfl
theorem lfX10_265 : Cond.fieldLink RX10 265 "PictureReelModel" "bits" "I" ∈ lw_big := bg (in4 (List.mem_of_getElem? (i := 107) rfl)) rfl
theorem lfX10_268 : Cond.fieldLink RX10 268 "PictureReelModel" "bitMany" "I" ∈ lw_big := bg (in4 (List.mem_of_getElem? (i := 108) rfl)) rfl
theorem lmX9_3 : Cond.methodLink RX9 3 objectInit ∈ lw_big := bg (in1 (List.mem_of_getElem? (i := 20) rfl)) rfl
theorem lmX9_11 : Cond.methodLink RX9 11 yX5_init ∈ lw_big := bg (in1 (List.mem_of_getElem? (i := 25) rfl)) rfl
theorem lmX9_25 : Cond.methodLink RX9 25 yX0_init ∈ lw_big := bg (in2 (List.mem_of_getElem? (i := 60) rfl)) rfl
theorem lmX9_31 : Cond.methodLink RX9 31 yX4_init ∈ lw_big := bg (in2 (List.mem_of_getElem? (i := 62) rfl)) rfl
theorem lmX9_38 : Cond.methodLink RX9 38 yX6_init ∈ lw_big := bg (in2 (List.mem_of_getElem? (i := 65) rfl)) rfl
theorem lmX9_51 : Cond.methodLink RX9 51 yX0_addFour ∈ lw_big := bg (in2 (List.mem_of_getElem? (i := 148) rfl)) rfl
theorem lmX9_55 : Cond.methodLink RX9 55 yX0_copyFrom ∈ lw_big := bg (in2 (List.mem_of_getElem? (i := 160) rfl)) rfl
theorem lmX9_59 : Cond.methodLink RX9 59 yX5_parse ∈ lw_big := bg (in2 (List.mem_of_getElem? (i := 171) rfl)) rfl
theorem lmX9_62 : Cond.methodLink RX9 62 yX0_clear ∈ lw_big := bg (in3 (List.mem_of_getElem? (i := 105) rfl)) rfl
theorem lmX9_68 : Cond.methodLink RX9 68 yX5_exchange ∈ lw_big := bg (in3 (List.mem_of_getElem? (i := 106) rfl)) rfl
theorem lmX9_78 : Cond.methodLink RX9 78 yX9_isSide ∈ lw_big := bg (in3 (List.mem_of_getElem? (i := 118) rfl)) rfl
theorem lmX9_82 : Cond.methodLink RX9 82 yX9_isTableSize ∈ lw_big := bg (in3 (List.mem_of_getElem? (i := 119) rfl)) rfl
theorem lmX9_85 : Cond.methodLink RX9 85 yX9_isByte ∈ lw_big := bg (in3 (List.mem_of_getElem? (i := 128) rfl)) rfl
theorem lmX9_88 : Cond.methodLink RX9 88 yX4_reset ∈ lw_big := bg (in3 (List.mem_of_getElem? (i := 131) rfl)) rfl
theorem lmX9_92 : Cond.methodLink RX9 92 yX9_tableAt ∈ lw_big := bg (in3 (List.mem_of_getElem? (i := 136) rfl)) rfl
theorem lmX9_96 : Cond.methodLink RX9 96 yX7_has ∈ lw_big := bg (in3 (List.mem_of_getElem? (i := 144) rfl)) rfl
theorem lmX9_106 : Cond.methodLink RX9 106 yX4_hasRoom ∈ lw_big := bg (in3 (List.mem_of_getElem? (i := 153) rfl)) rfl
theorem lmX9_110 : Cond.methodLink RX9 110 yX4_holds ∈ lw_big := bg (in3 (List.mem_of_getElem? (i := 154) rfl)) rfl
theorem lmX9_114 : Cond.methodLink RX9 114 yX4_givesTable ∈ lw_big := bg (in3 (List.mem_of_getElem? (i := 155) rfl)) rfl
theorem lmX9_117 : Cond.methodLink RX9 117 yX4_addFrame ∈ lw_big := bg (in3 (List.mem_of_getElem? (i := 156) rfl)) rfl
theorem lmX9_121 : Cond.methodLink RX9 121 yX4_frameAt ∈ lw_big := bg (in3 (List.mem_of_getElem? (i := 140) rfl)) rfl
theorem lmX9_132 : Cond.methodLink RX9 132 yX8_become ∈ lw_big := bg (in3 (List.mem_of_getElem? (i := 162) rfl)) rfl
theorem lmX9_138 : Cond.methodLink RX9 138 yX3_size ∈ lw_big := bg (in3 (List.mem_of_getElem? (i := 167) rfl)) rfl
theorem lmX9_141 : Cond.methodLink RX9 141 yX4_tableOf ∈ lw_big := bg (in3 (List.mem_of_getElem? (i := 168) rfl)) rfl
theorem lmX9_145 : Cond.methodLink RX9 145 yX3_fill ∈ lw_big := bg (in3 (List.mem_of_getElem? (i := 169) rfl)) rfl
theorem lmX9_149 : Cond.methodLink RX9 149 yX6_compose ∈ lw_big := bg (in3 (List.mem_of_getElem? (i := 174) rfl)) rfl
theorem lmX9_153 : Cond.methodLink RX9 153 yX6_exchange ∈ lw_big := bg (in4 (List.mem_of_getElem? (i := 17) rfl)) rfl
theorem lmX9_156 : Cond.methodLink RX9 156 yX0_at ∈ lw_big := bg (in4 (List.mem_of_getElem? (i := 25) rfl)) rfl
theorem lmX9_206 : Cond.methodLink RX9 206 yX4_colourAt ∈ lw_big := bg (in4 (List.mem_of_getElem? (i := 46) rfl)) rfl
theorem lmX9_210 : Cond.methodLink RX9 210 yJ6_bitCount_0f7a4 ∈ lw_big := bg (in3 (List.mem_of_getElem? (i := 122) rfl)) rfl
theorem lmX0_3 : Cond.methodLink RX0 3 objectInit ∈ lw_big := bg (in1 (List.mem_of_getElem? (i := 34) rfl)) rfl
theorem lmX0_23 : Cond.methodLink RX0 23 yX0_add ∈ lw_big := bg (in2 (List.mem_of_getElem? (i := 152) rfl)) rfl
theorem lmX0_27 : Cond.methodLink RX0 27 arraycopyName ∈ lw_big := bg (in2 (List.mem_of_getElem? (i := 164) rfl)) rfl
theorem lmX1_3 : Cond.methodLink RX1 3 objectInit ∈ lw_big := bg (in1 (List.mem_of_getElem? (i := 56) rfl)) rfl
theorem lmX1_11 : Cond.methodLink RX1 11 yX0_init ∈ lw_big := bg (in1 (List.mem_of_getElem? (i := 58) rfl)) rfl
theorem lmX1_34 : Cond.methodLink RX1 34 yX1_start ∈ lw_big := bg (in3 (List.mem_of_getElem? (i := 43) rfl)) rfl
theorem lmX1_38 : Cond.methodLink RX1 38 yX1_nextCode ∈ lw_big := bg (in3 (List.mem_of_getElem? (i := 51) rfl)) rfl
theorem lmX1_52 : Cond.methodLink RX1 52 yX1_forget ∈ lw_big := bg (in3 (List.mem_of_getElem? (i := 47) rfl)) rfl
theorem lmX1_55 : Cond.methodLink RX1 55 yX1_isKnown ∈ lw_big := bg (in3 (List.mem_of_getElem? (i := 59) rfl)) rfl
theorem lmX1_59 : Cond.methodLink RX1 59 yX1_putOut ∈ lw_big := bg (in3 (List.mem_of_getElem? (i := 67) rfl)) rfl
theorem lmX1_75 : Cond.methodLink RX1 75 yX0_at ∈ lw_big := bg (in3 (List.mem_of_getElem? (i := 55) rfl)) rfl
theorem lmX1_79 : Cond.methodLink RX1 79 yJ9_max_7cf53 ∈ lw_big := bg (in3 (List.mem_of_getElem? (i := 56) rfl)) rfl
theorem lmX1_85 : Cond.methodLink RX1 85 yX1_tell ∈ lw_big := bg (in3 (List.mem_of_getElem? (i := 63) rfl)) rfl
theorem lmX2_3 : Cond.methodLink RX2 3 objectInit ∈ lw_big := bg (in2 (List.mem_of_getElem? (i := 74) rfl)) rfl
theorem lmX2_11 : Cond.methodLink RX2 11 yX0_init ∈ lw_big := bg (in2 (List.mem_of_getElem? (i := 76) rfl)) rfl
theorem lmX2_35 : Cond.methodLink RX2 35 yX0_clear ∈ lw_big := bg (in3 (List.mem_of_getElem? (i := 225) rfl)) rfl
theorem lmX2_47 : Cond.methodLink RX2 47 yX2_putClear ∈ lw_big := bg (in3 (List.mem_of_getElem? (i := 226) rfl)) rfl
theorem lmX2_57 : Cond.methodLink RX2 57 yX2_putLongest ∈ lw_big := bg (in3 (List.mem_of_getElem? (i := 235) rfl)) rfl
theorem lmX2_60 : Cond.methodLink RX2 60 yX2_putCode ∈ lw_big := bg (in3 (List.mem_of_getElem? (i := 230) rfl)) rfl
theorem lmX2_64 : Cond.methodLink RX2 64 yX0_add ∈ lw_big := bg (in3 (List.mem_of_getElem? (i := 234) rfl)) rfl
theorem lmX2_70 : Cond.methodLink RX2 70 yX2_tell ∈ lw_big := bg (in3 (List.mem_of_getElem? (i := 239) rfl)) rfl
theorem lmX2_73 : Cond.methodLink RX2 73 yX2_longest ∈ lw_big := bg (in4 (List.mem_of_getElem? (i := 3) rfl)) rfl
theorem lmX2_77 : Cond.methodLink RX2 77 yX2_childOf ∈ lw_big := bg (in4 (List.mem_of_getElem? (i := 7) rfl)) rfl
theorem lmX3_3 : Cond.methodLink RX3 3 objectInit ∈ lw_big := bg (in1 (List.mem_of_getElem? (i := 168) rfl)) rfl
theorem lmX3_30 : Cond.methodLink RX3 30 yX7_init ∈ lw_big := bg (in1 (List.mem_of_getElem? (i := 170) rfl)) rfl
theorem lmX3_37 : Cond.methodLink RX3 37 yX8_init ∈ lw_big := bg (in1 (List.mem_of_getElem? (i := 172) rfl)) rfl
theorem lmX3_46 : Cond.methodLink RX3 46 yX8_reset ∈ lw_big := bg (in3 (List.mem_of_getElem? (i := 12) rfl)) rfl
theorem lmX3_49 : Cond.methodLink RX3 49 yX3_size ∈ lw_big := bg (in3 (List.mem_of_getElem? (i := 13) rfl)) rfl
theorem lmX3_53 : Cond.methodLink RX3 53 yX3_fill ∈ lw_big := bg (in3 (List.mem_of_getElem? (i := 17) rfl)) rfl
theorem lmX3_57 : Cond.methodLink RX3 57 yX3_lineOf ∈ lw_big := bg (in3 (List.mem_of_getElem? (i := 75) rfl)) rfl
theorem lmX3_61 : Cond.methodLink RX3 61 arraycopyName ∈ lw_big := bg (in3 (List.mem_of_getElem? (i := 83) rfl)) rfl
theorem lmX4_3 : Cond.methodLink RX4 3 objectInit ∈ lw_big := bg (in1 (List.mem_of_getElem? (i := 140) rfl)) rfl
theorem lmX4_11 : Cond.methodLink RX4 11 yX7_init ∈ lw_big := bg (in1 (List.mem_of_getElem? (i := 143) rfl)) rfl
theorem lmX4_24 : Cond.methodLink RX4 24 yX3_init ∈ lw_big := bg (in1 (List.mem_of_getElem? (i := 165) rfl)) rfl
theorem lmX4_25 : Cond.methodLink RX4 25 yX4_reset ∈ lw_big := bg (in1 (List.mem_of_getElem? (i := 218) rfl)) rfl
theorem lmX4_45 : Cond.methodLink RX4 45 yX7_reset ∈ lw_big := bg (in1 (List.mem_of_getElem? (i := 222) rfl)) rfl
theorem lmX4_54 : Cond.methodLink RX4 54 yX3_reset ∈ lw_big := bg (in3 (List.mem_of_getElem? (i := 8) rfl)) rfl
theorem lmX4_61 : Cond.methodLink RX4 61 yX7_has ∈ lw_big := bg (in4 (List.mem_of_getElem? (i := 50) rfl)) rfl
theorem lmX4_69 : Cond.methodLink RX4 69 yX4_leftBehind ∈ lw_big := bg (in4 (List.mem_of_getElem? (i := 51) rfl)) rfl
theorem lmX4_73 : Cond.methodLink RX4 73 yX4_shown ∈ lw_big := bg (in4 (List.mem_of_getElem? (i := 59) rfl)) rfl
theorem lmX4_77 : Cond.methodLink RX4 77 yX3_covers ∈ lw_big := bg (in4 (List.mem_of_getElem? (i := 55) rfl)) rfl
theorem lmX4_81 : Cond.methodLink RX4 81 yX3_indexAt ∈ lw_big := bg (in4 (List.mem_of_getElem? (i := 63) rfl)) rfl
theorem lmX4_94 : Cond.methodLink RX4 94 yX4_tableOf ∈ lw_big := bg (in4 (List.mem_of_getElem? (i := 67) rfl)) rfl
theorem lmX5_3 : Cond.methodLink RX5 3 objectInit ∈ lw_big := bg (in1 (List.mem_of_getElem? (i := 28) rfl)) rfl
theorem lmX5_11 : Cond.methodLink RX5 11 yX0_init ∈ lw_big := bg (in1 (List.mem_of_getElem? (i := 31) rfl)) rfl
theorem lmX5_20 : Cond.methodLink RX5 20 yX1_init ∈ lw_big := bg (in1 (List.mem_of_getElem? (i := 53) rfl)) rfl
theorem lmX5_27 : Cond.methodLink RX5 27 yX8_init ∈ lw_big := bg (in1 (List.mem_of_getElem? (i := 100) rfl)) rfl
theorem lmX5_34 : Cond.methodLink RX5 34 yX4_init ∈ lw_big := bg (in1 (List.mem_of_getElem? (i := 137) rfl)) rfl
theorem lmX5_49 : Cond.methodLink RX5 49 yJ9_min_7cf53 ∈ lw_big := bg (in2 (List.mem_of_getElem? (i := 175) rfl)) rfl
theorem lmX5_68 : Cond.methodLink RX5 68 yX5_dropControl ∈ lw_big := bg (in2 (List.mem_of_getElem? (i := 178) rfl)) rfl
theorem lmX5_71 : Cond.methodLink RX5 71 yX5_parseStart ∈ lw_big := bg (in2 (List.mem_of_getElem? (i := 183) rfl)) rfl
theorem lmX5_74 : Cond.methodLink RX5 74 yX5_parseScreen ∈ lw_big := bg (in2 (List.mem_of_getElem? (i := 201) rfl)) rfl
theorem lmX5_77 : Cond.methodLink RX5 77 yX5_parseBlock ∈ lw_big := bg (in2 (List.mem_of_getElem? (i := 220) rfl)) rfl
theorem lmX5_80 : Cond.methodLink RX5 80 yX5_refuse ∈ lw_big := bg (in2 (List.mem_of_getElem? (i := 191) rfl)) rfl
theorem lmX5_84 : Cond.methodLink RX5 84 yX0_at ∈ lw_big := bg (in2 (List.mem_of_getElem? (i := 195) rfl)) rfl
theorem lmX5_87 : Cond.methodLink RX5 87 yX5_nextByte ∈ lw_big := bg (in2 (List.mem_of_getElem? (i := 187) rfl)) rfl
theorem lmX5_97 : Cond.methodLink RX5 97 yX5_nextNumber ∈ lw_big := bg (in2 (List.mem_of_getElem? (i := 205) rfl)) rfl
theorem lmX5_104 : Cond.methodLink RX5 104 yX7_sizeByMark ∈ lw_big := bg (in2 (List.mem_of_getElem? (i := 212) rfl)) rfl
theorem lmX5_109 : Cond.methodLink RX5 109 yX4_reset ∈ lw_big := bg (in2 (List.mem_of_getElem? (i := 215) rfl)) rfl
theorem lmX5_117 : Cond.methodLink RX5 117 yX5_parseTable ∈ lw_big := bg (in2 (List.mem_of_getElem? (i := 216) rfl)) rfl
theorem lmX5_125 : Cond.methodLink RX5 125 yX5_parseImage ∈ lw_big := bg (in2 (List.mem_of_getElem? (i := 224) rfl)) rfl
theorem lmX5_129 : Cond.methodLink RX5 129 yX5_parseExtension ∈ lw_big := bg (in3 (List.mem_of_getElem? (i := 84) rfl)) rfl
theorem lmX5_135 : Cond.methodLink RX5 135 yX5_parseEnd ∈ lw_big := bg (in3 (List.mem_of_getElem? (i := 101) rfl)) rfl
theorem lmX5_138 : Cond.methodLink RX5 138 yX5_expect ∈ lw_big := bg (in3 (List.mem_of_getElem? (i := 88) rfl)) rfl
theorem lmX5_141 : Cond.methodLink RX5 141 yX5_skip ∈ lw_big := bg (in3 (List.mem_of_getElem? (i := 92) rfl)) rfl
theorem lmX5_144 : Cond.methodLink RX5 144 yX5_gatherRows ∈ lw_big := bg (in3 (List.mem_of_getElem? (i := 25) rfl)) rfl
theorem lmX5_147 : Cond.methodLink RX5 147 yX5_parseControl ∈ lw_big := bg (in3 (List.mem_of_getElem? (i := 96) rfl)) rfl
theorem lmX5_150 : Cond.methodLink RX5 150 yX8_become ∈ lw_big := bg (in3 (List.mem_of_getElem? (i := 100) rfl)) rfl
theorem lmX5_154 : Cond.methodLink RX5 154 yX8_reset ∈ lw_big := bg (in2 (List.mem_of_getElem? (i := 182) rfl)) rfl
theorem lmX5_156 : Cond.methodLink RX5 156 yX5_parseFrame ∈ lw_big := bg (in2 (List.mem_of_getElem? (i := 228) rfl)) rfl
theorem lmX5_160 : Cond.methodLink RX5 160 yX3_size ∈ lw_big := bg (in3 (List.mem_of_getElem? (i := 34) rfl)) rfl
theorem lmX5_164 : Cond.methodLink RX5 164 yX4_tableOf ∈ lw_big := bg (in3 (List.mem_of_getElem? (i := 35) rfl)) rfl
theorem lmX5_168 : Cond.methodLink RX5 168 yX1_decode ∈ lw_big := bg (in3 (List.mem_of_getElem? (i := 39) rfl)) rfl
theorem lmX5_175 : Cond.methodLink RX5 175 yX3_fromStreamOrder ∈ lw_big := bg (in3 (List.mem_of_getElem? (i := 71) rfl)) rfl
theorem lmX5_179 : Cond.methodLink RX5 179 yX4_hasRoom ∈ lw_big := bg (in2 (List.mem_of_getElem? (i := 232) rfl)) rfl
theorem lmX5_183 : Cond.methodLink RX5 183 yX4_holds ∈ lw_big := bg (in2 (List.mem_of_getElem? (i := 236) rfl)) rfl
theorem lmX5_187 : Cond.methodLink RX5 187 yX4_givesTable ∈ lw_big := bg (in3 (List.mem_of_getElem? (i := 0) rfl)) rfl
theorem lmX5_190 : Cond.methodLink RX5 190 yX4_addFrame ∈ lw_big := bg (in3 (List.mem_of_getElem? (i := 4) rfl)) rfl
theorem lmX5_197 : Cond.methodLink RX5 197 yX8_copyFrom ∈ lw_big := bg (in3 (List.mem_of_getElem? (i := 21) rfl)) rfl
theorem lmX5_207 : Cond.methodLink RX5 207 yX0_clear ∈ lw_big := bg (in3 (List.mem_of_getElem? (i := 29) rfl)) rfl
theorem lmX5_210 : Cond.methodLink RX5 210 yX0_add ∈ lw_big := bg (in3 (List.mem_of_getElem? (i := 33) rfl)) rfl
theorem lmX6_3 : Cond.methodLink RX6 3 objectInit ∈ lw_big := bg (in2 (List.mem_of_getElem? (i := 68) rfl)) rfl
theorem lmX6_11 : Cond.methodLink RX6 11 yX2_init ∈ lw_big := bg (in2 (List.mem_of_getElem? (i := 71) rfl)) rfl
theorem lmX6_20 : Cond.methodLink RX6 20 yX0_init ∈ lw_big := bg (in2 (List.mem_of_getElem? (i := 117) rfl)) rfl
theorem lmX6_25 : Cond.methodLink RX6 25 yX0_clear ∈ lw_big := bg (in3 (List.mem_of_getElem? (i := 178) rfl)) rfl
theorem lmX6_28 : Cond.methodLink RX6 28 yX6_putScreen ∈ lw_big := bg (in3 (List.mem_of_getElem? (i := 179) rfl)) rfl
theorem lmX6_52 : Cond.methodLink RX6 52 yX6_putControl ∈ lw_big := bg (in3 (List.mem_of_getElem? (i := 205) rfl)) rfl
theorem lmX6_56 : Cond.methodLink RX6 56 yX4_tableOf ∈ lw_big := bg (in3 (List.mem_of_getElem? (i := 209) rfl)) rfl
theorem lmX6_60 : Cond.methodLink RX6 60 yX7_power ∈ lw_big := bg (in3 (List.mem_of_getElem? (i := 210) rfl)) rfl
theorem lmX6_66 : Cond.methodLink RX6 66 yJ9_max_7cf53 ∈ lw_big := bg (in3 (List.mem_of_getElem? (i := 211) rfl)) rfl
theorem lmX6_72 : Cond.methodLink RX6 72 yX6_putImage ∈ lw_big := bg (in3 (List.mem_of_getElem? (i := 212) rfl)) rfl
theorem lmX6_76 : Cond.methodLink RX6 76 yX0_add ∈ lw_big := bg (in3 (List.mem_of_getElem? (i := 184) rfl)) rfl
theorem lmX6_87 : Cond.methodLink RX6 87 yX0_addTwo ∈ lw_big := bg (in3 (List.mem_of_getElem? (i := 185) rfl)) rfl
theorem lmX6_97 : Cond.methodLink RX6 97 yX7_mark ∈ lw_big := bg (in3 (List.mem_of_getElem? (i := 189) rfl)) rfl
theorem lmX6_106 : Cond.methodLink RX6 106 yX6_putTable ∈ lw_big := bg (in3 (List.mem_of_getElem? (i := 201) rfl)) rfl
theorem lmX6_147 : Cond.methodLink RX6 147 yX3_toStreamOrder ∈ lw_big := bg (in3 (List.mem_of_getElem? (i := 216) rfl)) rfl
theorem lmX6_151 : Cond.methodLink RX6 151 yX3_size ∈ lw_big := bg (in3 (List.mem_of_getElem? (i := 220) rfl)) rfl
theorem lmX6_153 : Cond.methodLink RX6 153 yX2_encode ∈ lw_big := bg (in3 (List.mem_of_getElem? (i := 221) rfl)) rfl
theorem lmX6_157 : Cond.methodLink RX6 157 yX6_putRows ∈ lw_big := bg (in4 (List.mem_of_getElem? (i := 11) rfl)) rfl
theorem lmX6_164 : Cond.methodLink RX6 164 yJ9_min_7cf53 ∈ lw_big := bg (in4 (List.mem_of_getElem? (i := 15) rfl)) rfl
theorem lmX6_167 : Cond.methodLink RX6 167 yX0_at ∈ lw_big := bg (in4 (List.mem_of_getElem? (i := 16) rfl)) rfl
theorem lmX7_3 : Cond.methodLink RX7 3 objectInit ∈ lw_big := bg (in1 (List.mem_of_getElem? (i := 146) rfl)) rfl
theorem lmX7_19 : Cond.methodLink RX7 19 yJ6_numberOfTrailingZeros_0f7a4 ∈ lw_big := bg (in3 (List.mem_of_getElem? (i := 197) rfl)) rfl
theorem lmX7_25 : Cond.methodLink RX7 25 yX7_power ∈ lw_big := bg (in3 (List.mem_of_getElem? (i := 193) rfl)) rfl
theorem lmX8_3 : Cond.methodLink RX8 3 objectInit ∈ lw_big := bg (in1 (List.mem_of_getElem? (i := 103) rfl)) rfl
theorem lmX8_9 : Cond.methodLink RX8 9 yX8_reset ∈ lw_big := bg (in1 (List.mem_of_getElem? (i := 104) rfl)) rfl
theorem lmX8_14 : Cond.methodLink RX8 14 yX8_become ∈ lw_big := bg (in1 (List.mem_of_getElem? (i := 108) rfl)) rfl
theorem lmL_9 : Cond.methodLink RL 9 yX9_init ∈ lw_big := bg (in1 (List.mem_of_getElem? (i := 17) rfl)) rfl
theorem lmL_12 : Cond.methodLink RL 12 yX10_init ∈ lw_big := bg (in4 (List.mem_of_getElem? (i := 70) rfl)) rfl
theorem lmL_13 : Cond.methodLink RL 13 yX9_feed ∈ lw_big := bg (in2 (List.mem_of_getElem? (i := 144) rfl)) rfl
theorem lmL_17 : Cond.methodLink RL 17 yX10_feed ∈ lw_big := bg (in4 (List.mem_of_getElem? (i := 192) rfl)) rfl
theorem lmL_18 : Cond.methodLink RL 18 yX9_take ∈ lw_big := bg (in2 (List.mem_of_getElem? (i := 156) rfl)) rfl
theorem lmL_22 : Cond.methodLink RL 22 yX10_take ∈ lw_big := bg (in4 (List.mem_of_getElem? (i := 199) rfl)) rfl
theorem lmL_23 : Cond.methodLink RL 23 yX9_read ∈ lw_big := bg (in2 (List.mem_of_getElem? (i := 167) rfl)) rfl
theorem lmL_27 : Cond.methodLink RL 27 yX10_read ∈ lw_big := bg (in4 (List.mem_of_getElem? (i := 203) rfl)) rfl
theorem lmL_28 : Cond.methodLink RL 28 yX9_fault ∈ lw_big := bg (in3 (List.mem_of_getElem? (i := 110) rfl)) rfl
theorem lmL_31 : Cond.methodLink RL 31 yX10_fault ∈ lw_big := bg (in5 (List.mem_of_getElem? (i := 86) rfl)) rfl
theorem lmL_32 : Cond.methodLink RL 32 yX9_begin ∈ lw_big := bg (in3 (List.mem_of_getElem? (i := 114) rfl)) rfl
theorem lmL_36 : Cond.methodLink RL 36 yX10_begin ∈ lw_big := bg (in5 (List.mem_of_getElem? (i := 90) rfl)) rfl
theorem lmL_37 : Cond.methodLink RL 37 yX9_colour ∈ lw_big := bg (in3 (List.mem_of_getElem? (i := 132) rfl)) rfl
theorem lmL_41 : Cond.methodLink RL 41 yX10_colour ∈ lw_big := bg (in5 (List.mem_of_getElem? (i := 100) rfl)) rfl
theorem lmL_42 : Cond.methodLink RL 42 yX9_frame ∈ lw_big := bg (in3 (List.mem_of_getElem? (i := 149) rfl)) rfl
theorem lmL_46 : Cond.methodLink RL 46 yX10_frame ∈ lw_big := bg (in5 (List.mem_of_getElem? (i := 113) rfl)) rfl
theorem lmL_47 : Cond.methodLink RL 47 yX9_control ∈ lw_big := bg (in3 (List.mem_of_getElem? (i := 157) rfl)) rfl
theorem lmL_51 : Cond.methodLink RL 51 yX10_control ∈ lw_big := bg (in5 (List.mem_of_getElem? (i := 117) rfl)) rfl
theorem lmL_52 : Cond.methodLink RL 52 yX9_paint ∈ lw_big := bg (in3 (List.mem_of_getElem? (i := 163) rfl)) rfl
theorem lmL_55 : Cond.methodLink RL 55 yX10_paint ∈ lw_big := bg (in5 (List.mem_of_getElem? (i := 122) rfl)) rfl
theorem lmL_56 : Cond.methodLink RL 56 yX9_write ∈ lw_big := bg (in3 (List.mem_of_getElem? (i := 170) rfl)) rfl
theorem lmL_59 : Cond.methodLink RL 59 yX10_write ∈ lw_big := bg (in5 (List.mem_of_getElem? (i := 126) rfl)) rfl
theorem lmL_60 : Cond.methodLink RL 60 yX9_out ∈ lw_big := bg (in4 (List.mem_of_getElem? (i := 21) rfl)) rfl
theorem lmL_63 : Cond.methodLink RL 63 yX10_out ∈ lw_big := bg (in5 (List.mem_of_getElem? (i := 177) rfl)) rfl
theorem lmL_64 : Cond.methodLink RL 64 yX9_about ∈ lw_big := bg (in4 (List.mem_of_getElem? (i := 26) rfl)) rfl
theorem lmL_67 : Cond.methodLink RL 67 yX10_about ∈ lw_big := bg (in5 (List.mem_of_getElem? (i := 181) rfl)) rfl
theorem lmL_68 : Cond.methodLink RL 68 yX9_frameOf ∈ lw_big := bg (in4 (List.mem_of_getElem? (i := 30) rfl)) rfl
theorem lmL_72 : Cond.methodLink RL 72 yX10_frameOf ∈ lw_big := bg (in5 (List.mem_of_getElem? (i := 185) rfl)) rfl
theorem lmL_73 : Cond.methodLink RL 73 yX9_colourOf ∈ lw_big := bg (in4 (List.mem_of_getElem? (i := 34) rfl)) rfl
theorem lmL_76 : Cond.methodLink RL 76 yX10_colourOf ∈ lw_big := bg (in5 (List.mem_of_getElem? (i := 189) rfl)) rfl
theorem lmL_77 : Cond.methodLink RL 77 yX9_index ∈ lw_big := bg (in4 (List.mem_of_getElem? (i := 38) rfl)) rfl
theorem lmL_80 : Cond.methodLink RL 80 yX10_index ∈ lw_big := bg (in5 (List.mem_of_getElem? (i := 193) rfl)) rfl
theorem lmL_81 : Cond.methodLink RL 81 yX9_canvas ∈ lw_big := bg (in4 (List.mem_of_getElem? (i := 42) rfl)) rfl
theorem lmL_85 : Cond.methodLink RL 85 yX10_canvas ∈ lw_big := bg (in5 (List.mem_of_getElem? (i := 197) rfl)) rfl
theorem lmX10_1 : Cond.methodLink RX10 1 objectInit ∈ lw_big := bg (in4 (List.mem_of_getElem? (i := 73) rfl)) rfl
theorem lmX10_69 : Cond.methodLink RX10 69 yX10_frames ∈ lw_big := bg (in5 (List.mem_of_getElem? (i := 82) rfl)) rfl
theorem lmX10_73 : Cond.methodLink RX10 73 yX10_field ∈ lw_big := bg (in5 (List.mem_of_getElem? (i := 26) rfl)) rfl
theorem lmX10_79 : Cond.methodLink RX10 79 yX10_within ∈ lw_big := bg (in4 (List.mem_of_getElem? (i := 196) rfl)) rfl
theorem lmX10_86 : Cond.methodLink RX10 86 yX10_good ∈ lw_big := bg (in4 (List.mem_of_getElem? (i := 219) rfl)) rfl
theorem lmX10_96 : Cond.methodLink RX10 96 yX10_wrong ∈ lw_big := bg (in4 (List.mem_of_getElem? (i := 223) rfl)) rfl
theorem lmX10_100 : Cond.methodLink RX10 100 yX10_one ∈ lw_big := bg (in4 (List.mem_of_getElem? (i := 215) rfl)) rfl
theorem lmX10_106 : Cond.methodLink RX10 106 yX10_readHead ∈ lw_big := bg (in4 (List.mem_of_getElem? (i := 207) rfl)) rfl
theorem lmX10_109 : Cond.methodLink RX10 109 yX10_readBlocks ∈ lw_big := bg (in4 (List.mem_of_getElem? (i := 235) rfl)) rfl
theorem lmX10_112 : Cond.methodLink RX10 112 yX10_must ∈ lw_big := bg (in4 (List.mem_of_getElem? (i := 211) rfl)) rfl
theorem lmX10_119 : Cond.methodLink RX10 119 yX10_two ∈ lw_big := bg (in4 (List.mem_of_getElem? (i := 227) rfl)) rfl
theorem lmX10_122 : Cond.methodLink RX10 122 yX10_readTable ∈ lw_big := bg (in4 (List.mem_of_getElem? (i := 231) rfl)) rfl
theorem lmX10_141 : Cond.methodLink RX10 141 yX10_forget ∈ lw_big := bg (in4 (List.mem_of_getElem? (i := 239) rfl)) rfl
theorem lmX10_144 : Cond.methodLink RX10 144 yX10_readImage ∈ lw_big := bg (in5 (List.mem_of_getElem? (i := 3) rfl)) rfl
theorem lmX10_148 : Cond.methodLink RX10 148 yX10_readMore ∈ lw_big := bg (in5 (List.mem_of_getElem? (i := 66) rfl)) rfl
theorem lmX10_151 : Cond.methodLink RX10 151 yX10_skip ∈ lw_big := bg (in5 (List.mem_of_getElem? (i := 74) rfl)) rfl
theorem lmX10_154 : Cond.methodLink RX10 154 yX10_length ∈ lw_big := bg (in5 (List.mem_of_getElem? (i := 70) rfl)) rfl
theorem lmX10_157 : Cond.methodLink RX10 157 yX10_rows ∈ lw_big := bg (in5 (List.mem_of_getElem? (i := 78) rfl)) rfl
theorem lmX10_160 : Cond.methodLink RX10 160 yX10_localAt ∈ lw_big := bg (in5 (List.mem_of_getElem? (i := 7) rfl)) rfl
theorem lmX10_163 : Cond.methodLink RX10 163 yX10_setField ∈ lw_big := bg (in5 (List.mem_of_getElem? (i := 10) rfl)) rfl
theorem lmX10_167 : Cond.methodLink RX10 167 yX10_gather ∈ lw_big := bg (in5 (List.mem_of_getElem? (i := 14) rfl)) rfl
theorem lmX10_170 : Cond.methodLink RX10 170 yX10_codes ∈ lw_big := bg (in5 (List.mem_of_getElem? (i := 18) rfl)) rfl
theorem lmX10_189 : Cond.methodLink RX10 189 yX10_places ∈ lw_big := bg (in5 (List.mem_of_getElem? (i := 22) rfl)) rfl
theorem lmX10_193 : Cond.methodLink RX10 193 yX10_colours ∈ lw_big := bg (in5 (List.mem_of_getElem? (i := 30) rfl)) rfl
theorem lmX10_196 : Cond.methodLink RX10 196 yX10_alone ∈ lw_big := bg (in5 (List.mem_of_getElem? (i := 34) rfl)) rfl
theorem lmX10_199 : Cond.methodLink RX10 199 yX10_restart ∈ lw_big := bg (in5 (List.mem_of_getElem? (i := 38) rfl)) rfl
theorem lmX10_202 : Cond.methodLink RX10 202 yX10_code ∈ lw_big := bg (in5 (List.mem_of_getElem? (i := 42) rfl)) rfl
theorem lmX10_205 : Cond.methodLink RX10 205 yX10_put ∈ lw_big := bg (in5 (List.mem_of_getElem? (i := 46) rfl)) rfl
theorem lmX10_209 : Cond.methodLink RX10 209 yX10_tell ∈ lw_big := bg (in5 (List.mem_of_getElem? (i := 62) rfl)) rfl
theorem lmX10_212 : Cond.methodLink RX10 212 yX10_placeOf ∈ lw_big := bg (in5 (List.mem_of_getElem? (i := 50) rfl)) rfl
theorem lmX10_215 : Cond.methodLink RX10 215 yX10_setIndex ∈ lw_big := bg (in5 (List.mem_of_getElem? (i := 57) rfl)) rfl
theorem lmX10_218 : Cond.methodLink RX10 218 yX10_line ∈ lw_big := bg (in5 (List.mem_of_getElem? (i := 54) rfl)) rfl
theorem lmX10_221 : Cond.methodLink RX10 221 yX10_isWithin ∈ lw_big := bg (in5 (List.mem_of_getElem? (i := 94) rfl)) rfl
theorem lmX10_225 : Cond.methodLink RX10 225 yX10_isTable ∈ lw_big := bg (in5 (List.mem_of_getElem? (i := 97) rfl)) rfl
theorem lmX10_229 : Cond.methodLink RX10 229 yX10_isFrame ∈ lw_big := bg (in5 (List.mem_of_getElem? (i := 108) rfl)) rfl
theorem lmX10_232 : Cond.methodLink RX10 232 yX10_isColour ∈ lw_big := bg (in5 (List.mem_of_getElem? (i := 104) rfl)) rfl
theorem lmX10_240 : Cond.methodLink RX10 240 yX10_say ∈ lw_big := bg (in5 (List.mem_of_getElem? (i := 130) rfl)) rfl
theorem lmX10_243 : Cond.methodLink RX10 243 yX10_sayTwo ∈ lw_big := bg (in5 (List.mem_of_getElem? (i := 134) rfl)) rfl
theorem lmX10_246 : Cond.methodLink RX10 246 yX10_bitsOf ∈ lw_big := bg (in5 (List.mem_of_getElem? (i := 138) rfl)) rfl
theorem lmX10_250 : Cond.methodLink RX10 250 yX10_sayTable ∈ lw_big := bg (in5 (List.mem_of_getElem? (i := 141) rfl)) rfl
theorem lmX10_253 : Cond.methodLink RX10 253 yX10_sayFrame ∈ lw_big := bg (in5 (List.mem_of_getElem? (i := 145) rfl)) rfl
theorem lmX10_256 : Cond.methodLink RX10 256 yX10_sayCodes ∈ lw_big := bg (in5 (List.mem_of_getElem? (i := 149) rfl)) rfl
theorem lmX10_262 : Cond.methodLink RX10 262 yX10_sayRow ∈ lw_big := bg (in5 (List.mem_of_getElem? (i := 157) rfl)) rfl
theorem lmX10_271 : Cond.methodLink RX10 271 yX10_indexAt ∈ lw_big := bg (in5 (List.mem_of_getElem? (i := 169) rfl)) rfl
theorem lmX10_274 : Cond.methodLink RX10 274 yX10_indexOf ∈ lw_big := bg (in5 (List.mem_of_getElem? (i := 165) rfl)) rfl
theorem lmX10_277 : Cond.methodLink RX10 277 yX10_sayBits ∈ lw_big := bg (in5 (List.mem_of_getElem? (i := 153) rfl)) rfl
theorem lmX10_280 : Cond.methodLink RX10 280 yX10_sayLongest ∈ lw_big := bg (in5 (List.mem_of_getElem? (i := 161) rfl)) rfl
theorem lmX10_283 : Cond.methodLink RX10 283 yX10_stands ∈ lw_big := bg (in5 (List.mem_of_getElem? (i := 173) rfl)) rfl
theorem lmX10_287 : Cond.methodLink RX10 287 yX10_covers ∈ lw_big := bg (in5 (List.mem_of_getElem? (i := 201) rfl)) rfl
theorem lkX9_101 : Cond.constant RX9 101 (16777215) ∈ lw_big := bg (in3 (List.mem_of_getElem? (i := 148) rfl)) rfl
theorem lkX9_125 : Cond.constant RX9 125 (65535) ∈ lw_big := bg (in3 (List.mem_of_getElem? (i := 161) rfl)) rfl
theorem lkX10_36 : Cond.constant RX10 36 (196608) ∈ lw_big := bg (in4 (List.mem_of_getElem? (i := 74) rfl)) rfl
theorem lkX10_65 : Cond.constant RX10 65 (98304) ∈ lw_big := bg (in5 (List.mem_of_getElem? (i := 61) rfl)) rfl
theorem lkX10_235 : Cond.constant RX10 235 (16777215) ∈ lw_big := bg (in5 (List.mem_of_getElem? (i := 112) rfl)) rfl
theorem lkX10_236 : Cond.constant RX10 236 (65535) ∈ lw_big := bg (in5 (List.mem_of_getElem? (i := 121) rfl)) rfl
theorem lkJ6_264 : Cond.constant RJ6 264 (65536) ∈ lw_big := bg (in3 (List.mem_of_getElem? (i := 200) rfl)) rfl
theorem lkJ6_265 : Cond.constant RJ6 265 (1431655765) ∈ lw_big := bg (in3 (List.mem_of_getElem? (i := 125) rfl)) rfl
theorem lkJ6_266 : Cond.constant RJ6 266 (858993459) ∈ lw_big := bg (in3 (List.mem_of_getElem? (i := 126) rfl)) rfl
theorem lkJ6_267 : Cond.constant RJ6 267 (252645135) ∈ lw_big := bg (in3 (List.mem_of_getElem? (i := 127) rfl)) rfl
theorem lcX9_9 : Cond.classLink RX9 9 RX5 ∈ lw_big := bg (in1 (List.mem_of_getElem? (i := 23) rfl)) rfl
theorem lcX9_23 : Cond.classLink RX9 23 RX0 ∈ lw_big := bg (in2 (List.mem_of_getElem? (i := 59) rfl)) rfl
theorem lcX9_29 : Cond.classLink RX9 29 RX4 ∈ lw_big := bg (in2 (List.mem_of_getElem? (i := 61) rfl)) rfl
theorem lcX9_36 : Cond.classLink RX9 36 RX6 ∈ lw_big := bg (in2 (List.mem_of_getElem? (i := 63) rfl)) rfl
theorem lcX1_9 : Cond.classLink RX1 9 RX0 ∈ lw_big := bg (in1 (List.mem_of_getElem? (i := 57) rfl)) rfl
theorem lcX2_9 : Cond.classLink RX2 9 RX0 ∈ lw_big := bg (in2 (List.mem_of_getElem? (i := 75) rfl)) rfl
theorem lcX3_28 : Cond.classLink RX3 28 RX7 ∈ lw_big := bg (in1 (List.mem_of_getElem? (i := 169) rfl)) rfl
theorem lcX3_35 : Cond.classLink RX3 35 RX8 ∈ lw_big := bg (in1 (List.mem_of_getElem? (i := 171) rfl)) rfl
theorem lcX4_9 : Cond.classLink RX4 9 RX7 ∈ lw_big := bg (in1 (List.mem_of_getElem? (i := 141) rfl)) rfl
theorem lcX4_18 : Cond.classLink RX4 18 RX3 ∈ lw_big := bg (in1 (List.mem_of_getElem? (i := 162) rfl)) rfl
theorem lcX5_9 : Cond.classLink RX5 9 RX0 ∈ lw_big := bg (in1 (List.mem_of_getElem? (i := 29) rfl)) rfl
theorem lcX5_18 : Cond.classLink RX5 18 RX1 ∈ lw_big := bg (in1 (List.mem_of_getElem? (i := 51) rfl)) rfl
theorem lcX5_25 : Cond.classLink RX5 25 RX8 ∈ lw_big := bg (in1 (List.mem_of_getElem? (i := 98) rfl)) rfl
theorem lcX5_32 : Cond.classLink RX5 32 RX4 ∈ lw_big := bg (in1 (List.mem_of_getElem? (i := 135) rfl)) rfl
theorem lcX6_9 : Cond.classLink RX6 9 RX2 ∈ lw_big := bg (in2 (List.mem_of_getElem? (i := 69) rfl)) rfl
theorem lcX6_18 : Cond.classLink RX6 18 RX0 ∈ lw_big := bg (in2 (List.mem_of_getElem? (i := 116) rfl)) rfl
theorem lcL_7 : Cond.classLink RL 7 RX9 ∈ lw_big := bg (in1 (List.mem_of_getElem? (i := 15) rfl)) rfl
theorem lcL_10 : Cond.classLink RL 10 RX10 ∈ lw_big := bg (in4 (List.mem_of_getElem? (i := 68) rfl)) rfl
theorem wiX0 : Cond.initialized RX0 ∈ lw_big := bg (in1 (List.mem_of_getElem? (i := 3) rfl)) rfl
theorem wnX0 : Cond.instantiable RX0 3 ∈ lw_big := bg (in1 (List.mem_of_getElem? (i := 30) rfl)) rfl
theorem uwX0 : ∀ w ∈ u_ws RX0 TX0 3, w ∈ lw_big := fun w h => (fun (q : w ∈ lw_tbl ∧ goodWord w = true) => bg q.1 q.2) ((show ∀ w ∈ u_ws RX0 TX0 3, w ∈ lw_tbl ∧ goodWord w = true by decide +kernel) w h)
theorem wiX1 : Cond.initialized RX1 ∈ lw_big := bg (in1 (List.mem_of_getElem? (i := 4) rfl)) rfl
theorem wnX1 : Cond.instantiable RX1 12 ∈ lw_big := bg (in1 (List.mem_of_getElem? (i := 52) rfl)) rfl
theorem uwX1 : ∀ w ∈ u_ws RX1 TX1 12, w ∈ lw_big := fun w h => (fun (q : w ∈ lw_tbl ∧ goodWord w = true) => bg q.1 q.2) ((show ∀ w ∈ u_ws RX1 TX1 12, w ∈ lw_tbl ∧ goodWord w = true by decide +kernel) w h)
theorem wiX2 : Cond.initialized RX2 ∈ lw_big := bg (in1 (List.mem_of_getElem? (i := 10) rfl)) rfl
theorem wnX2 : Cond.instantiable RX2 12 ∈ lw_big := bg (in2 (List.mem_of_getElem? (i := 70) rfl)) rfl
theorem uwX2 : ∀ w ∈ u_ws RX2 TX2 12, w ∈ lw_big := fun w h => (fun (q : w ∈ lw_tbl ∧ goodWord w = true) => bg q.1 q.2) ((show ∀ w ∈ u_ws RX2 TX2 12, w ∈ lw_tbl ∧ goodWord w = true by decide +kernel) w h)
theorem wiX3 : Cond.initialized RX3 ∈ lw_big := bg (in1 (List.mem_of_getElem? (i := 8) rfl)) rfl
theorem wnX3 : Cond.instantiable RX3 8 ∈ lw_big := bg (in1 (List.mem_of_getElem? (i := 164) rfl)) rfl
theorem uwX3 : ∀ w ∈ u_ws RX3 TX3 8, w ∈ lw_big := fun w h => (fun (q : w ∈ lw_tbl ∧ goodWord w = true) => bg q.1 q.2) ((show ∀ w ∈ u_ws RX3 TX3 8, w ∈ lw_tbl ∧ goodWord w = true by decide +kernel) w h)
theorem wiX4 : Cond.initialized RX4 ∈ lw_big := bg (in1 (List.mem_of_getElem? (i := 6) rfl)) rfl
theorem wnX4 : Cond.instantiable RX4 7 ∈ lw_big := bg (in1 (List.mem_of_getElem? (i := 136) rfl)) rfl
theorem uwX4 : ∀ w ∈ u_ws RX4 TX4 7, w ∈ lw_big := fun w h => (fun (q : w ∈ lw_tbl ∧ goodWord w = true) => bg q.1 q.2) ((show ∀ w ∈ u_ws RX4 TX4 7, w ∈ lw_tbl ∧ goodWord w = true by decide +kernel) w h)
theorem wiX5 : Cond.initialized RX5 ∈ lw_big := bg (in1 (List.mem_of_getElem? (i := 2) rfl)) rfl
theorem wnX5 : Cond.instantiable RX5 11 ∈ lw_big := bg (in1 (List.mem_of_getElem? (i := 24) rfl)) rfl
theorem uwX5 : ∀ w ∈ u_ws RX5 TX5 11, w ∈ lw_big := fun w h => (fun (q : w ∈ lw_tbl ∧ goodWord w = true) => bg q.1 q.2) ((show ∀ w ∈ u_ws RX5 TX5 11, w ∈ lw_tbl ∧ goodWord w = true by decide +kernel) w h)
theorem wiX6 : Cond.initialized RX6 ∈ lw_big := bg (in1 (List.mem_of_getElem? (i := 9) rfl)) rfl
theorem wnX6 : Cond.instantiable RX6 2 ∈ lw_big := bg (in2 (List.mem_of_getElem? (i := 64) rfl)) rfl
theorem uwX6 : ∀ w ∈ u_ws RX6 TX6 2, w ∈ lw_big := fun w h => (fun (q : w ∈ lw_tbl ∧ goodWord w = true) => bg q.1 q.2) ((show ∀ w ∈ u_ws RX6 TX6 2, w ∈ lw_tbl ∧ goodWord w = true by decide +kernel) w h)
theorem wiX7 : Cond.initialized RX7 ∈ lw_big := bg (in1 (List.mem_of_getElem? (i := 7) rfl)) rfl
theorem wnX7 : Cond.instantiable RX7 2 ∈ lw_big := bg (in1 (List.mem_of_getElem? (i := 142) rfl)) rfl
theorem uwX7 : ∀ w ∈ u_ws RX7 TX7 2, w ∈ lw_big := fun w h => (fun (q : w ∈ lw_tbl ∧ goodWord w = true) => bg q.1 q.2) ((show ∀ w ∈ u_ws RX7 TX7 2, w ∈ lw_tbl ∧ goodWord w = true by decide +kernel) w h)
theorem wiX8 : Cond.initialized RX8 ∈ lw_big := bg (in1 (List.mem_of_getElem? (i := 5) rfl)) rfl
theorem wnX8 : Cond.instantiable RX8 4 ∈ lw_big := bg (in1 (List.mem_of_getElem? (i := 99) rfl)) rfl
theorem uwX8 : ∀ w ∈ u_ws RX8 TX8 4, w ∈ lw_big := fun w h => (fun (q : w ∈ lw_tbl ∧ goodWord w = true) => bg q.1 q.2) ((show ∀ w ∈ u_ws RX8 TX8 4, w ∈ lw_tbl ∧ goodWord w = true by decide +kernel) w h)
theorem wiX9 : Cond.initialized RX9 ∈ lw_big := bg (in1 (List.mem_of_getElem? (i := 1) rfl)) rfl
theorem wnX9 : Cond.instantiable RX9 6 ∈ lw_big := bg (in1 (List.mem_of_getElem? (i := 16) rfl)) rfl
theorem uwX9 : ∀ w ∈ u_ws RX9 TX9 6, w ∈ lw_big := fun w h => (fun (q : w ∈ lw_tbl ∧ goodWord w = true) => bg q.1 q.2) ((show ∀ w ∈ u_ws RX9 TX9 6, w ∈ lw_tbl ∧ goodWord w = true by decide +kernel) w h)
theorem wiX10 : Cond.initialized RX10 ∈ lw_big := bg (in1 (List.mem_of_getElem? (i := 11) rfl)) rfl
theorem wnX10 : Cond.instantiable RX10 38 ∈ lw_big := bg (in4 (List.mem_of_getElem? (i := 69) rfl)) rfl
theorem uwX10 : ∀ w ∈ u_ws RX10 TX10 38, w ∈ lw_big := fun w h => (fun (q : w ∈ lw_tbl ∧ goodWord w = true) => bg q.1 q.2) ((show ∀ w ∈ u_ws RX10 TX10 38, w ∈ lw_tbl ∧ goodWord w = true by decide +kernel) w h)
theorem wiJ6 : Cond.initialized RJ6 ∈ lw_big := bg (in1 (List.mem_of_getElem? (i := 14) rfl)) rfl
theorem wiJ9 : Cond.initialized RJ9 ∈ lw_big := bg (in1 (List.mem_of_getElem? (i := 13) rfl)) rfl
theorem wiJ10 : Cond.initialized RJ10 ∈ lw_big := bg (in1 (List.mem_of_getElem? (i := 12) rfl)) rfl
theorem wcX0_init : Cond.code yX0_init cX0_init 1 none ∈ lw_big := bg (in1 (List.mem_of_getElem? (i := 33) rfl)) rfl
theorem wmX0_init : Cond.instanceMethod yX0_init ∈ lw_big := bg (in1 (List.mem_of_getElem? (i := 32) rfl)) rfl
theorem wcX0_clear : Cond.code yX0_clear cX0_clear 1 none ∈ lw_big := bg (in3 (List.mem_of_getElem? (i := 32) rfl)) rfl
theorem wmX0_clear : Cond.instanceMethod yX0_clear ∈ lw_big := bg (in3 (List.mem_of_getElem? (i := 30) rfl)) rfl
theorem wsX0_clear : Cond.selects RX0 yX0_clear yX0_clear ∈ lw_big := bg (in3 (List.mem_of_getElem? (i := 31) rfl)) rfl
theorem wcX0_add : Cond.code yX0_add cX0_add 2 none ∈ lw_big := bg (in2 (List.mem_of_getElem? (i := 155) rfl)) rfl
theorem wmX0_add : Cond.instanceMethod yX0_add ∈ lw_big := bg (in2 (List.mem_of_getElem? (i := 153) rfl)) rfl
theorem wsX0_add : Cond.selects RX0 yX0_add yX0_add ∈ lw_big := bg (in2 (List.mem_of_getElem? (i := 154) rfl)) rfl
theorem wcX0_addTwo : Cond.code yX0_addTwo cX0_addTwo 2 none ∈ lw_big := bg (in3 (List.mem_of_getElem? (i := 188) rfl)) rfl
theorem wmX0_addTwo : Cond.instanceMethod yX0_addTwo ∈ lw_big := bg (in3 (List.mem_of_getElem? (i := 186) rfl)) rfl
theorem wsX0_addTwo : Cond.selects RX0 yX0_addTwo yX0_addTwo ∈ lw_big := bg (in3 (List.mem_of_getElem? (i := 187) rfl)) rfl
theorem wcX0_addFour : Cond.code yX0_addFour cX0_addFour 2 none ∈ lw_big := bg (in2 (List.mem_of_getElem? (i := 151) rfl)) rfl
theorem wmX0_addFour : Cond.instanceMethod yX0_addFour ∈ lw_big := bg (in2 (List.mem_of_getElem? (i := 149) rfl)) rfl
theorem wsX0_addFour : Cond.selects RX0 yX0_addFour yX0_addFour ∈ lw_big := bg (in2 (List.mem_of_getElem? (i := 150) rfl)) rfl
theorem wcX0_at : Cond.code yX0_at cX0_at 2 (some .int) ∈ lw_big := bg (in2 (List.mem_of_getElem? (i := 198) rfl)) rfl
theorem wmX0_at : Cond.instanceMethod yX0_at ∈ lw_big := bg (in2 (List.mem_of_getElem? (i := 196) rfl)) rfl
theorem wsX0_at : Cond.selects RX0 yX0_at yX0_at ∈ lw_big := bg (in2 (List.mem_of_getElem? (i := 197) rfl)) rfl
theorem wcX0_copyFrom : Cond.code yX0_copyFrom cX0_copyFrom 2 none ∈ lw_big := bg (in2 (List.mem_of_getElem? (i := 163) rfl)) rfl
theorem wmX0_copyFrom : Cond.instanceMethod yX0_copyFrom ∈ lw_big := bg (in2 (List.mem_of_getElem? (i := 161) rfl)) rfl
theorem wsX0_copyFrom : Cond.selects RX0 yX0_copyFrom yX0_copyFrom ∈ lw_big := bg (in2 (List.mem_of_getElem? (i := 162) rfl)) rfl
theorem wcX1_init : Cond.code yX1_init cX1_init 1 none ∈ lw_big := bg (in1 (List.mem_of_getElem? (i := 55) rfl)) rfl
theorem wmX1_init : Cond.instanceMethod yX1_init ∈ lw_big := bg (in1 (List.mem_of_getElem? (i := 54) rfl)) rfl
theorem wcX1_decode : Cond.code yX1_decode cX1_decode 7 (some .boolean) ∈ lw_big := bg (in3 (List.mem_of_getElem? (i := 42) rfl)) rfl
theorem wmX1_decode : Cond.instanceMethod yX1_decode ∈ lw_big := bg (in3 (List.mem_of_getElem? (i := 40) rfl)) rfl
theorem wsX1_decode : Cond.selects RX1 yX1_decode yX1_decode ∈ lw_big := bg (in3 (List.mem_of_getElem? (i := 41) rfl)) rfl
theorem wcX1_start : Cond.code yX1_start cX1_start 3 none ∈ lw_big := bg (in3 (List.mem_of_getElem? (i := 46) rfl)) rfl
theorem wmX1_start : Cond.instanceMethod yX1_start ∈ lw_big := bg (in3 (List.mem_of_getElem? (i := 45) rfl)) rfl
theorem wsX1_start : Cond.selects RX1 yX1_start yX1_start ∈ lw_big := bg (in0 (List.mem_of_getElem? (i := 11) rfl)) rfl
theorem wcX1_forget : Cond.code yX1_forget cX1_forget 1 none ∈ lw_big := bg (in3 (List.mem_of_getElem? (i := 50) rfl)) rfl
theorem wmX1_forget : Cond.instanceMethod yX1_forget ∈ lw_big := bg (in3 (List.mem_of_getElem? (i := 49) rfl)) rfl
theorem wsX1_forget : Cond.selects RX1 yX1_forget yX1_forget ∈ lw_big := bg (in0 (List.mem_of_getElem? (i := 12) rfl)) rfl
theorem wcX1_nextCode : Cond.code yX1_nextCode cX1_nextCode 4 (some .int) ∈ lw_big := bg (in3 (List.mem_of_getElem? (i := 54) rfl)) rfl
theorem wmX1_nextCode : Cond.instanceMethod yX1_nextCode ∈ lw_big := bg (in3 (List.mem_of_getElem? (i := 53) rfl)) rfl
theorem wsX1_nextCode : Cond.selects RX1 yX1_nextCode yX1_nextCode ∈ lw_big := bg (in0 (List.mem_of_getElem? (i := 13) rfl)) rfl
theorem wcX1_isKnown : Cond.code yX1_isKnown cX1_isKnown 3 (some .boolean) ∈ lw_big := bg (in3 (List.mem_of_getElem? (i := 62) rfl)) rfl
theorem wmX1_isKnown : Cond.instanceMethod yX1_isKnown ∈ lw_big := bg (in3 (List.mem_of_getElem? (i := 61) rfl)) rfl
theorem wsX1_isKnown : Cond.selects RX1 yX1_isKnown yX1_isKnown ∈ lw_big := bg (in0 (List.mem_of_getElem? (i := 14) rfl)) rfl
theorem wcX1_tell : Cond.code yX1_tell cX1_tell 2 none ∈ lw_big := bg (in3 (List.mem_of_getElem? (i := 66) rfl)) rfl
theorem wmX1_tell : Cond.instanceMethod yX1_tell ∈ lw_big := bg (in3 (List.mem_of_getElem? (i := 65) rfl)) rfl
theorem wsX1_tell : Cond.selects RX1 yX1_tell yX1_tell ∈ lw_big := bg (in0 (List.mem_of_getElem? (i := 15) rfl)) rfl
theorem wcX1_putOut : Cond.code yX1_putOut cX1_putOut 7 (some .boolean) ∈ lw_big := bg (in3 (List.mem_of_getElem? (i := 70) rfl)) rfl
theorem wmX1_putOut : Cond.instanceMethod yX1_putOut ∈ lw_big := bg (in3 (List.mem_of_getElem? (i := 69) rfl)) rfl
theorem wsX1_putOut : Cond.selects RX1 yX1_putOut yX1_putOut ∈ lw_big := bg (in0 (List.mem_of_getElem? (i := 16) rfl)) rfl
theorem wcX2_init : Cond.code yX2_init cX2_init 1 none ∈ lw_big := bg (in2 (List.mem_of_getElem? (i := 73) rfl)) rfl
theorem wmX2_init : Cond.instanceMethod yX2_init ∈ lw_big := bg (in2 (List.mem_of_getElem? (i := 72) rfl)) rfl
theorem wcX2_encode : Cond.code yX2_encode cX2_encode 4 none ∈ lw_big := bg (in3 (List.mem_of_getElem? (i := 224) rfl)) rfl
theorem wmX2_encode : Cond.instanceMethod yX2_encode ∈ lw_big := bg (in3 (List.mem_of_getElem? (i := 222) rfl)) rfl
theorem wsX2_encode : Cond.selects RX2 yX2_encode yX2_encode ∈ lw_big := bg (in3 (List.mem_of_getElem? (i := 223) rfl)) rfl
theorem wcX2_putClear : Cond.code yX2_putClear cX2_putClear 4 none ∈ lw_big := bg (in3 (List.mem_of_getElem? (i := 229) rfl)) rfl
theorem wmX2_putClear : Cond.instanceMethod yX2_putClear ∈ lw_big := bg (in3 (List.mem_of_getElem? (i := 228) rfl)) rfl
theorem wsX2_putClear : Cond.selects RX2 yX2_putClear yX2_putClear ∈ lw_big := bg (in0 (List.mem_of_getElem? (i := 28) rfl)) rfl
theorem wcX2_putLongest : Cond.code yX2_putLongest cX2_putLongest 3 none ∈ lw_big := bg (in3 (List.mem_of_getElem? (i := 238) rfl)) rfl
theorem wmX2_putLongest : Cond.instanceMethod yX2_putLongest ∈ lw_big := bg (in3 (List.mem_of_getElem? (i := 237) rfl)) rfl
theorem wsX2_putLongest : Cond.selects RX2 yX2_putLongest yX2_putLongest ∈ lw_big := bg (in0 (List.mem_of_getElem? (i := 30) rfl)) rfl
theorem wcX2_tell : Cond.code yX2_tell cX2_tell 2 none ∈ lw_big := bg (in4 (List.mem_of_getElem? (i := 2) rfl)) rfl
theorem wmX2_tell : Cond.instanceMethod yX2_tell ∈ lw_big := bg (in4 (List.mem_of_getElem? (i := 1) rfl)) rfl
theorem wsX2_tell : Cond.selects RX2 yX2_tell yX2_tell ∈ lw_big := bg (in0 (List.mem_of_getElem? (i := 31) rfl)) rfl
theorem wcX2_longest : Cond.code yX2_longest cX2_longest 4 (some .int) ∈ lw_big := bg (in4 (List.mem_of_getElem? (i := 6) rfl)) rfl
theorem wmX2_longest : Cond.instanceMethod yX2_longest ∈ lw_big := bg (in4 (List.mem_of_getElem? (i := 5) rfl)) rfl
theorem wsX2_longest : Cond.selects RX2 yX2_longest yX2_longest ∈ lw_big := bg (in0 (List.mem_of_getElem? (i := 32) rfl)) rfl
theorem wcX2_childOf : Cond.code yX2_childOf cX2_childOf 5 (some .int) ∈ lw_big := bg (in4 (List.mem_of_getElem? (i := 10) rfl)) rfl
theorem wmX2_childOf : Cond.instanceMethod yX2_childOf ∈ lw_big := bg (in4 (List.mem_of_getElem? (i := 9) rfl)) rfl
theorem wsX2_childOf : Cond.selects RX2 yX2_childOf yX2_childOf ∈ lw_big := bg (in0 (List.mem_of_getElem? (i := 33) rfl)) rfl
theorem wcX2_putCode : Cond.code yX2_putCode cX2_putCode 3 none ∈ lw_big := bg (in3 (List.mem_of_getElem? (i := 233) rfl)) rfl
theorem wmX2_putCode : Cond.instanceMethod yX2_putCode ∈ lw_big := bg (in3 (List.mem_of_getElem? (i := 232) rfl)) rfl
theorem wsX2_putCode : Cond.selects RX2 yX2_putCode yX2_putCode ∈ lw_big := bg (in0 (List.mem_of_getElem? (i := 29) rfl)) rfl
theorem wcX3_init : Cond.code yX3_init cX3_init 1 none ∈ lw_big := bg (in1 (List.mem_of_getElem? (i := 167) rfl)) rfl
theorem wmX3_init : Cond.instanceMethod yX3_init ∈ lw_big := bg (in1 (List.mem_of_getElem? (i := 166) rfl)) rfl
theorem wcX3_reset : Cond.code yX3_reset cX3_reset 5 none ∈ lw_big := bg (in3 (List.mem_of_getElem? (i := 11) rfl)) rfl
theorem wmX3_reset : Cond.instanceMethod yX3_reset ∈ lw_big := bg (in3 (List.mem_of_getElem? (i := 9) rfl)) rfl
theorem wsX3_reset : Cond.selects RX3 yX3_reset yX3_reset ∈ lw_big := bg (in3 (List.mem_of_getElem? (i := 10) rfl)) rfl
theorem wcX3_size : Cond.code yX3_size cX3_size 1 (some .int) ∈ lw_big := bg (in3 (List.mem_of_getElem? (i := 16) rfl)) rfl
theorem wmX3_size : Cond.instanceMethod yX3_size ∈ lw_big := bg (in3 (List.mem_of_getElem? (i := 14) rfl)) rfl
theorem wsX3_size : Cond.selects RX3 yX3_size yX3_size ∈ lw_big := bg (in3 (List.mem_of_getElem? (i := 15) rfl)) rfl
theorem wcX3_fill : Cond.code yX3_fill cX3_fill 5 none ∈ lw_big := bg (in3 (List.mem_of_getElem? (i := 20) rfl)) rfl
theorem wmX3_fill : Cond.instanceMethod yX3_fill ∈ lw_big := bg (in3 (List.mem_of_getElem? (i := 18) rfl)) rfl
theorem wsX3_fill : Cond.selects RX3 yX3_fill yX3_fill ∈ lw_big := bg (in3 (List.mem_of_getElem? (i := 19) rfl)) rfl
theorem wcX3_covers : Cond.code yX3_covers cX3_covers 3 (some .boolean) ∈ lw_big := bg (in4 (List.mem_of_getElem? (i := 58) rfl)) rfl
theorem wmX3_covers : Cond.instanceMethod yX3_covers ∈ lw_big := bg (in4 (List.mem_of_getElem? (i := 56) rfl)) rfl
theorem wsX3_covers : Cond.selects RX3 yX3_covers yX3_covers ∈ lw_big := bg (in4 (List.mem_of_getElem? (i := 57) rfl)) rfl
theorem wcX3_indexAt : Cond.code yX3_indexAt cX3_indexAt 3 (some .int) ∈ lw_big := bg (in4 (List.mem_of_getElem? (i := 66) rfl)) rfl
theorem wmX3_indexAt : Cond.instanceMethod yX3_indexAt ∈ lw_big := bg (in4 (List.mem_of_getElem? (i := 64) rfl)) rfl
theorem wsX3_indexAt : Cond.selects RX3 yX3_indexAt yX3_indexAt ∈ lw_big := bg (in4 (List.mem_of_getElem? (i := 65) rfl)) rfl
theorem wcX3_fromStreamOrder : Cond.code yX3_fromStreamOrder cX3_fromStreamOrder 3 none ∈ lw_big := bg (in3 (List.mem_of_getElem? (i := 74) rfl)) rfl
theorem wmX3_fromStreamOrder : Cond.instanceMethod yX3_fromStreamOrder ∈ lw_big := bg (in3 (List.mem_of_getElem? (i := 72) rfl)) rfl
theorem wsX3_fromStreamOrder : Cond.selects RX3 yX3_fromStreamOrder yX3_fromStreamOrder ∈ lw_big := bg (in3 (List.mem_of_getElem? (i := 73) rfl)) rfl
theorem wcX3_toStreamOrder : Cond.code yX3_toStreamOrder cX3_toStreamOrder 3 none ∈ lw_big := bg (in3 (List.mem_of_getElem? (i := 219) rfl)) rfl
theorem wmX3_toStreamOrder : Cond.instanceMethod yX3_toStreamOrder ∈ lw_big := bg (in3 (List.mem_of_getElem? (i := 217) rfl)) rfl
theorem wsX3_toStreamOrder : Cond.selects RX3 yX3_toStreamOrder yX3_toStreamOrder ∈ lw_big := bg (in3 (List.mem_of_getElem? (i := 218) rfl)) rfl
theorem wcX3_lineOf : Cond.code yX3_lineOf cX3_lineOf 7 (some .int) ∈ lw_big := bg (in3 (List.mem_of_getElem? (i := 78) rfl)) rfl
theorem wmX3_lineOf : Cond.instanceMethod yX3_lineOf ∈ lw_big := bg (in3 (List.mem_of_getElem? (i := 77) rfl)) rfl
theorem wsX3_lineOf : Cond.selects RX3 yX3_lineOf yX3_lineOf ∈ lw_big := bg (in0 (List.mem_of_getElem? (i := 17) rfl)) rfl
theorem wcX4_init : Cond.code yX4_init cX4_init 2 none ∈ lw_big := bg (in1 (List.mem_of_getElem? (i := 139) rfl)) rfl
theorem wmX4_init : Cond.instanceMethod yX4_init ∈ lw_big := bg (in1 (List.mem_of_getElem? (i := 138) rfl)) rfl
theorem wcX4_reset : Cond.code yX4_reset cX4_reset 6 none ∈ lw_big := bg (in1 (List.mem_of_getElem? (i := 221) rfl)) rfl
theorem wmX4_reset : Cond.instanceMethod yX4_reset ∈ lw_big := bg (in1 (List.mem_of_getElem? (i := 219) rfl)) rfl
theorem wsX4_reset : Cond.selects RX4 yX4_reset yX4_reset ∈ lw_big := bg (in1 (List.mem_of_getElem? (i := 220) rfl)) rfl
theorem wcX4_hasRoom : Cond.code yX4_hasRoom cX4_hasRoom 1 (some .boolean) ∈ lw_big := bg (in2 (List.mem_of_getElem? (i := 235) rfl)) rfl
theorem wmX4_hasRoom : Cond.instanceMethod yX4_hasRoom ∈ lw_big := bg (in2 (List.mem_of_getElem? (i := 233) rfl)) rfl
theorem wsX4_hasRoom : Cond.selects RX4 yX4_hasRoom yX4_hasRoom ∈ lw_big := bg (in2 (List.mem_of_getElem? (i := 234) rfl)) rfl
theorem wcX4_holds : Cond.code yX4_holds cX4_holds 5 (some .boolean) ∈ lw_big := bg (in2 (List.mem_of_getElem? (i := 239) rfl)) rfl
theorem wmX4_holds : Cond.instanceMethod yX4_holds ∈ lw_big := bg (in2 (List.mem_of_getElem? (i := 237) rfl)) rfl
theorem wsX4_holds : Cond.selects RX4 yX4_holds yX4_holds ∈ lw_big := bg (in2 (List.mem_of_getElem? (i := 238) rfl)) rfl
theorem wcX4_givesTable : Cond.code yX4_givesTable cX4_givesTable 2 (some .boolean) ∈ lw_big := bg (in3 (List.mem_of_getElem? (i := 3) rfl)) rfl
theorem wmX4_givesTable : Cond.instanceMethod yX4_givesTable ∈ lw_big := bg (in3 (List.mem_of_getElem? (i := 1) rfl)) rfl
theorem wsX4_givesTable : Cond.selects RX4 yX4_givesTable yX4_givesTable ∈ lw_big := bg (in3 (List.mem_of_getElem? (i := 2) rfl)) rfl
theorem wcX4_frameAt : Cond.code yX4_frameAt cX4_frameAt 2 (some (.object "PictureReel$Frame")) ∈ lw_big := bg (in3 (List.mem_of_getElem? (i := 143) rfl)) rfl
theorem wmX4_frameAt : Cond.instanceMethod yX4_frameAt ∈ lw_big := bg (in3 (List.mem_of_getElem? (i := 141) rfl)) rfl
theorem wsX4_frameAt : Cond.selects RX4 yX4_frameAt yX4_frameAt ∈ lw_big := bg (in3 (List.mem_of_getElem? (i := 142) rfl)) rfl
theorem wcX4_tableOf : Cond.code yX4_tableOf cX4_tableOf 2 (some (.object "PictureReel$Table")) ∈ lw_big := bg (in3 (List.mem_of_getElem? (i := 38) rfl)) rfl
theorem wmX4_tableOf : Cond.instanceMethod yX4_tableOf ∈ lw_big := bg (in3 (List.mem_of_getElem? (i := 36) rfl)) rfl
theorem wsX4_tableOf : Cond.selects RX4 yX4_tableOf yX4_tableOf ∈ lw_big := bg (in3 (List.mem_of_getElem? (i := 37) rfl)) rfl
theorem wcX4_addFrame : Cond.code yX4_addFrame cX4_addFrame 8 (some (.object "PictureReel$Frame")) ∈ lw_big := bg (in3 (List.mem_of_getElem? (i := 7) rfl)) rfl
theorem wmX4_addFrame : Cond.instanceMethod yX4_addFrame ∈ lw_big := bg (in3 (List.mem_of_getElem? (i := 5) rfl)) rfl
theorem wsX4_addFrame : Cond.selects RX4 yX4_addFrame yX4_addFrame ∈ lw_big := bg (in3 (List.mem_of_getElem? (i := 6) rfl)) rfl
theorem wcX4_colourAt : Cond.code yX4_colourAt cX4_colourAt 7 (some .int) ∈ lw_big := bg (in4 (List.mem_of_getElem? (i := 49) rfl)) rfl
theorem wmX4_colourAt : Cond.instanceMethod yX4_colourAt ∈ lw_big := bg (in4 (List.mem_of_getElem? (i := 47) rfl)) rfl
theorem wsX4_colourAt : Cond.selects RX4 yX4_colourAt yX4_colourAt ∈ lw_big := bg (in4 (List.mem_of_getElem? (i := 48) rfl)) rfl
theorem wcX4_shown : Cond.code yX4_shown cX4_shown 6 (some .int) ∈ lw_big := bg (in4 (List.mem_of_getElem? (i := 62) rfl)) rfl
theorem wmX4_shown : Cond.instanceMethod yX4_shown ∈ lw_big := bg (in4 (List.mem_of_getElem? (i := 61) rfl)) rfl
theorem wsX4_shown : Cond.selects RX4 yX4_shown yX4_shown ∈ lw_big := bg (in0 (List.mem_of_getElem? (i := 36) rfl)) rfl
theorem wcX4_leftBehind : Cond.code yX4_leftBehind cX4_leftBehind 6 (some .int) ∈ lw_big := bg (in4 (List.mem_of_getElem? (i := 54) rfl)) rfl
theorem wmX4_leftBehind : Cond.instanceMethod yX4_leftBehind ∈ lw_big := bg (in4 (List.mem_of_getElem? (i := 53) rfl)) rfl
theorem wsX4_leftBehind : Cond.selects RX4 yX4_leftBehind yX4_leftBehind ∈ lw_big := bg (in0 (List.mem_of_getElem? (i := 35) rfl)) rfl
theorem wcX5_init : Cond.code yX5_init cX5_init 1 none ∈ lw_big := bg (in1 (List.mem_of_getElem? (i := 27) rfl)) rfl
theorem wmX5_init : Cond.instanceMethod yX5_init ∈ lw_big := bg (in1 (List.mem_of_getElem? (i := 26) rfl)) rfl
theorem wcX5_exchange : Cond.code yX5_exchange cX5_exchange 3 (some (.object "PictureReel$Picture")) ∈ lw_big := bg (in3 (List.mem_of_getElem? (i := 109) rfl)) rfl
theorem wmX5_exchange : Cond.instanceMethod yX5_exchange ∈ lw_big := bg (in3 (List.mem_of_getElem? (i := 107) rfl)) rfl
theorem wsX5_exchange : Cond.selects RX5 yX5_exchange yX5_exchange ∈ lw_big := bg (in3 (List.mem_of_getElem? (i := 108) rfl)) rfl
theorem wcX5_parse : Cond.code yX5_parse cX5_parse 3 none ∈ lw_big := bg (in2 (List.mem_of_getElem? (i := 174) rfl)) rfl
theorem wmX5_parse : Cond.instanceMethod yX5_parse ∈ lw_big := bg (in2 (List.mem_of_getElem? (i := 172) rfl)) rfl
theorem wsX5_parse : Cond.selects RX5 yX5_parse yX5_parse ∈ lw_big := bg (in2 (List.mem_of_getElem? (i := 173) rfl)) rfl
theorem wcX5_refuse : Cond.code yX5_refuse cX5_refuse 3 none ∈ lw_big := bg (in2 (List.mem_of_getElem? (i := 194) rfl)) rfl
theorem wmX5_refuse : Cond.instanceMethod yX5_refuse ∈ lw_big := bg (in2 (List.mem_of_getElem? (i := 193) rfl)) rfl
theorem wsX5_refuse : Cond.selects RX5 yX5_refuse yX5_refuse ∈ lw_big := bg (in0 (List.mem_of_getElem? (i := 3) rfl)) rfl
theorem wcX5_nextByte : Cond.code yX5_nextByte cX5_nextByte 1 (some .int) ∈ lw_big := bg (in2 (List.mem_of_getElem? (i := 190) rfl)) rfl
theorem wmX5_nextByte : Cond.instanceMethod yX5_nextByte ∈ lw_big := bg (in2 (List.mem_of_getElem? (i := 189) rfl)) rfl
theorem wsX5_nextByte : Cond.selects RX5 yX5_nextByte yX5_nextByte ∈ lw_big := bg (in0 (List.mem_of_getElem? (i := 2) rfl)) rfl
theorem wcX5_nextNumber : Cond.code yX5_nextNumber cX5_nextNumber 2 (some .int) ∈ lw_big := bg (in2 (List.mem_of_getElem? (i := 208) rfl)) rfl
theorem wmX5_nextNumber : Cond.instanceMethod yX5_nextNumber ∈ lw_big := bg (in2 (List.mem_of_getElem? (i := 207) rfl)) rfl
theorem wsX5_nextNumber : Cond.selects RX5 yX5_nextNumber yX5_nextNumber ∈ lw_big := bg (in0 (List.mem_of_getElem? (i := 5) rfl)) rfl
theorem wcX5_skip : Cond.code yX5_skip cX5_skip 3 none ∈ lw_big := bg (in3 (List.mem_of_getElem? (i := 95) rfl)) rfl
theorem wmX5_skip : Cond.instanceMethod yX5_skip ∈ lw_big := bg (in3 (List.mem_of_getElem? (i := 94) rfl)) rfl
theorem wsX5_skip : Cond.selects RX5 yX5_skip yX5_skip ∈ lw_big := bg (in0 (List.mem_of_getElem? (i := 20) rfl)) rfl
theorem wcX5_expect : Cond.code yX5_expect cX5_expect 3 none ∈ lw_big := bg (in3 (List.mem_of_getElem? (i := 91) rfl)) rfl
theorem wmX5_expect : Cond.instanceMethod yX5_expect ∈ lw_big := bg (in3 (List.mem_of_getElem? (i := 90) rfl)) rfl
theorem wsX5_expect : Cond.selects RX5 yX5_expect yX5_expect ∈ lw_big := bg (in0 (List.mem_of_getElem? (i := 19) rfl)) rfl
theorem wcX5_parseStart : Cond.code yX5_parseStart cX5_parseStart 4 none ∈ lw_big := bg (in2 (List.mem_of_getElem? (i := 186) rfl)) rfl
theorem wmX5_parseStart : Cond.instanceMethod yX5_parseStart ∈ lw_big := bg (in2 (List.mem_of_getElem? (i := 185) rfl)) rfl
theorem wsX5_parseStart : Cond.selects RX5 yX5_parseStart yX5_parseStart ∈ lw_big := bg (in0 (List.mem_of_getElem? (i := 1) rfl)) rfl
theorem wcX5_parseScreen : Cond.code yX5_parseScreen cX5_parseScreen 6 none ∈ lw_big := bg (in2 (List.mem_of_getElem? (i := 204) rfl)) rfl
theorem wmX5_parseScreen : Cond.instanceMethod yX5_parseScreen ∈ lw_big := bg (in2 (List.mem_of_getElem? (i := 203) rfl)) rfl
theorem wsX5_parseScreen : Cond.selects RX5 yX5_parseScreen yX5_parseScreen ∈ lw_big := bg (in0 (List.mem_of_getElem? (i := 4) rfl)) rfl
theorem wcX5_parseTable : Cond.code yX5_parseTable cX5_parseTable 6 none ∈ lw_big := bg (in2 (List.mem_of_getElem? (i := 219) rfl)) rfl
theorem wmX5_parseTable : Cond.instanceMethod yX5_parseTable ∈ lw_big := bg (in2 (List.mem_of_getElem? (i := 218) rfl)) rfl
theorem wsX5_parseTable : Cond.selects RX5 yX5_parseTable yX5_parseTable ∈ lw_big := bg (in0 (List.mem_of_getElem? (i := 6) rfl)) rfl
theorem wcX5_parseBlock : Cond.code yX5_parseBlock cX5_parseBlock 3 none ∈ lw_big := bg (in2 (List.mem_of_getElem? (i := 223) rfl)) rfl
theorem wmX5_parseBlock : Cond.instanceMethod yX5_parseBlock ∈ lw_big := bg (in2 (List.mem_of_getElem? (i := 222) rfl)) rfl
theorem wsX5_parseBlock : Cond.selects RX5 yX5_parseBlock yX5_parseBlock ∈ lw_big := bg (in0 (List.mem_of_getElem? (i := 7) rfl)) rfl
theorem wcX5_parseEnd : Cond.code yX5_parseEnd cX5_parseEnd 1 none ∈ lw_big := bg (in3 (List.mem_of_getElem? (i := 104) rfl)) rfl
theorem wmX5_parseEnd : Cond.instanceMethod yX5_parseEnd ∈ lw_big := bg (in3 (List.mem_of_getElem? (i := 103) rfl)) rfl
theorem wsX5_parseEnd : Cond.selects RX5 yX5_parseEnd yX5_parseEnd ∈ lw_big := bg (in0 (List.mem_of_getElem? (i := 22) rfl)) rfl
theorem wcX5_parseExtension : Cond.code yX5_parseExtension cX5_parseExtension 3 none ∈ lw_big := bg (in3 (List.mem_of_getElem? (i := 87) rfl)) rfl
theorem wmX5_parseExtension : Cond.instanceMethod yX5_parseExtension ∈ lw_big := bg (in3 (List.mem_of_getElem? (i := 86) rfl)) rfl
theorem wsX5_parseExtension : Cond.selects RX5 yX5_parseExtension yX5_parseExtension ∈ lw_big := bg (in0 (List.mem_of_getElem? (i := 18) rfl)) rfl
theorem wcX5_parseControl : Cond.code yX5_parseControl cX5_parseControl 5 none ∈ lw_big := bg (in3 (List.mem_of_getElem? (i := 99) rfl)) rfl
theorem wmX5_parseControl : Cond.instanceMethod yX5_parseControl ∈ lw_big := bg (in3 (List.mem_of_getElem? (i := 98) rfl)) rfl
theorem wsX5_parseControl : Cond.selects RX5 yX5_parseControl yX5_parseControl ∈ lw_big := bg (in0 (List.mem_of_getElem? (i := 21) rfl)) rfl
theorem wcX5_dropControl : Cond.code yX5_dropControl cX5_dropControl 1 none ∈ lw_big := bg (in2 (List.mem_of_getElem? (i := 181) rfl)) rfl
theorem wmX5_dropControl : Cond.instanceMethod yX5_dropControl ∈ lw_big := bg (in2 (List.mem_of_getElem? (i := 180) rfl)) rfl
theorem wsX5_dropControl : Cond.selects RX5 yX5_dropControl yX5_dropControl ∈ lw_big := bg (in0 (List.mem_of_getElem? (i := 0) rfl)) rfl
theorem wcX5_parseImage : Cond.code yX5_parseImage cX5_parseImage 5 none ∈ lw_big := bg (in2 (List.mem_of_getElem? (i := 227) rfl)) rfl
theorem wmX5_parseImage : Cond.instanceMethod yX5_parseImage ∈ lw_big := bg (in2 (List.mem_of_getElem? (i := 226) rfl)) rfl
theorem wsX5_parseImage : Cond.selects RX5 yX5_parseImage yX5_parseImage ∈ lw_big := bg (in0 (List.mem_of_getElem? (i := 8) rfl)) rfl
theorem wcX5_parseFrame : Cond.code yX5_parseFrame cX5_parseFrame 9 (some (.object "PictureReel$Frame")) ∈ lw_big := bg (in2 (List.mem_of_getElem? (i := 231) rfl)) rfl
theorem wmX5_parseFrame : Cond.instanceMethod yX5_parseFrame ∈ lw_big := bg (in2 (List.mem_of_getElem? (i := 230) rfl)) rfl
theorem wsX5_parseFrame : Cond.selects RX5 yX5_parseFrame yX5_parseFrame ∈ lw_big := bg (in0 (List.mem_of_getElem? (i := 9) rfl)) rfl
theorem wcX5_gatherRows : Cond.code yX5_gatherRows cX5_gatherRows 4 none ∈ lw_big := bg (in3 (List.mem_of_getElem? (i := 28) rfl)) rfl
theorem wmX5_gatherRows : Cond.instanceMethod yX5_gatherRows ∈ lw_big := bg (in3 (List.mem_of_getElem? (i := 27) rfl)) rfl
theorem wsX5_gatherRows : Cond.selects RX5 yX5_gatherRows yX5_gatherRows ∈ lw_big := bg (in0 (List.mem_of_getElem? (i := 10) rfl)) rfl
theorem wcX6_init : Cond.code yX6_init cX6_init 1 none ∈ lw_big := bg (in2 (List.mem_of_getElem? (i := 67) rfl)) rfl
theorem wmX6_init : Cond.instanceMethod yX6_init ∈ lw_big := bg (in2 (List.mem_of_getElem? (i := 66) rfl)) rfl
theorem wcX6_exchange : Cond.code yX6_exchange cX6_exchange 3 (some (.object "PictureReel$ByteRow")) ∈ lw_big := bg (in4 (List.mem_of_getElem? (i := 20) rfl)) rfl
theorem wmX6_exchange : Cond.instanceMethod yX6_exchange ∈ lw_big := bg (in4 (List.mem_of_getElem? (i := 18) rfl)) rfl
theorem wsX6_exchange : Cond.selects RX6 yX6_exchange yX6_exchange ∈ lw_big := bg (in4 (List.mem_of_getElem? (i := 19) rfl)) rfl
theorem wcX6_compose : Cond.code yX6_compose cX6_compose 4 (some .boolean) ∈ lw_big := bg (in3 (List.mem_of_getElem? (i := 177) rfl)) rfl
theorem wmX6_compose : Cond.instanceMethod yX6_compose ∈ lw_big := bg (in3 (List.mem_of_getElem? (i := 175) rfl)) rfl
theorem wsX6_compose : Cond.selects RX6 yX6_compose yX6_compose ∈ lw_big := bg (in3 (List.mem_of_getElem? (i := 176) rfl)) rfl
theorem wcX6_putScreen : Cond.code yX6_putScreen cX6_putScreen 3 none ∈ lw_big := bg (in3 (List.mem_of_getElem? (i := 182) rfl)) rfl
theorem wmX6_putScreen : Cond.instanceMethod yX6_putScreen ∈ lw_big := bg (in3 (List.mem_of_getElem? (i := 181) rfl)) rfl
theorem wsX6_putScreen : Cond.selects RX6 yX6_putScreen yX6_putScreen ∈ lw_big := bg (in0 (List.mem_of_getElem? (i := 24) rfl)) rfl
theorem wcX6_putTable : Cond.code yX6_putTable cX6_putTable 4 none ∈ lw_big := bg (in3 (List.mem_of_getElem? (i := 204) rfl)) rfl
theorem wmX6_putTable : Cond.instanceMethod yX6_putTable ∈ lw_big := bg (in3 (List.mem_of_getElem? (i := 203) rfl)) rfl
theorem wsX6_putTable : Cond.selects RX6 yX6_putTable yX6_putTable ∈ lw_big := bg (in0 (List.mem_of_getElem? (i := 25) rfl)) rfl
theorem wcX6_putControl : Cond.code yX6_putControl cX6_putControl 3 none ∈ lw_big := bg (in3 (List.mem_of_getElem? (i := 208) rfl)) rfl
theorem wmX6_putControl : Cond.instanceMethod yX6_putControl ∈ lw_big := bg (in3 (List.mem_of_getElem? (i := 207) rfl)) rfl
theorem wsX6_putControl : Cond.selects RX6 yX6_putControl yX6_putControl ∈ lw_big := bg (in0 (List.mem_of_getElem? (i := 26) rfl)) rfl
theorem wcX6_putImage : Cond.code yX6_putImage cX6_putImage 3 none ∈ lw_big := bg (in3 (List.mem_of_getElem? (i := 215) rfl)) rfl
theorem wmX6_putImage : Cond.instanceMethod yX6_putImage ∈ lw_big := bg (in3 (List.mem_of_getElem? (i := 214) rfl)) rfl
theorem wsX6_putImage : Cond.selects RX6 yX6_putImage yX6_putImage ∈ lw_big := bg (in0 (List.mem_of_getElem? (i := 27) rfl)) rfl
theorem wcX6_putRows : Cond.code yX6_putRows cX6_putRows 5 none ∈ lw_big := bg (in4 (List.mem_of_getElem? (i := 14) rfl)) rfl
theorem wmX6_putRows : Cond.instanceMethod yX6_putRows ∈ lw_big := bg (in4 (List.mem_of_getElem? (i := 13) rfl)) rfl
theorem wsX6_putRows : Cond.selects RX6 yX6_putRows yX6_putRows ∈ lw_big := bg (in0 (List.mem_of_getElem? (i := 34) rfl)) rfl
theorem wcX7_init : Cond.code yX7_init cX7_init 1 none ∈ lw_big := bg (in1 (List.mem_of_getElem? (i := 145) rfl)) rfl
theorem wmX7_init : Cond.instanceMethod yX7_init ∈ lw_big := bg (in1 (List.mem_of_getElem? (i := 144) rfl)) rfl
theorem wcX7_reset : Cond.code yX7_reset cX7_reset 3 none ∈ lw_big := bg (in1 (List.mem_of_getElem? (i := 225) rfl)) rfl
theorem wmX7_reset : Cond.instanceMethod yX7_reset ∈ lw_big := bg (in1 (List.mem_of_getElem? (i := 223) rfl)) rfl
theorem wsX7_reset : Cond.selects RX7 yX7_reset yX7_reset ∈ lw_big := bg (in1 (List.mem_of_getElem? (i := 224) rfl)) rfl
theorem wcX7_has : Cond.code yX7_has cX7_has 2 (some .boolean) ∈ lw_big := bg (in3 (List.mem_of_getElem? (i := 147) rfl)) rfl
theorem wmX7_has : Cond.instanceMethod yX7_has ∈ lw_big := bg (in3 (List.mem_of_getElem? (i := 145) rfl)) rfl
theorem wsX7_has : Cond.selects RX7 yX7_has yX7_has ∈ lw_big := bg (in3 (List.mem_of_getElem? (i := 146) rfl)) rfl
theorem wcX7_power : Cond.code yX7_power cX7_power 1 (some .int) ∈ lw_big := bg (in3 (List.mem_of_getElem? (i := 196) rfl)) rfl
theorem wmX7_power : Cond.instanceMethod yX7_power ∈ lw_big := bg (in3 (List.mem_of_getElem? (i := 194) rfl)) rfl
theorem wsX7_power : Cond.selects RX7 yX7_power yX7_power ∈ lw_big := bg (in3 (List.mem_of_getElem? (i := 195) rfl)) rfl
theorem wcX7_mark : Cond.code yX7_mark cX7_mark 1 (some .int) ∈ lw_big := bg (in3 (List.mem_of_getElem? (i := 192) rfl)) rfl
theorem wmX7_mark : Cond.instanceMethod yX7_mark ∈ lw_big := bg (in3 (List.mem_of_getElem? (i := 190) rfl)) rfl
theorem wsX7_mark : Cond.selects RX7 yX7_mark yX7_mark ∈ lw_big := bg (in3 (List.mem_of_getElem? (i := 191) rfl)) rfl
theorem wcX7_sizeByMark : Cond.code yX7_sizeByMark cX7_sizeByMark 1 (some .int) ∈ lw_big := bg (in2 (List.mem_of_getElem? (i := 214) rfl)) rfl
theorem wtX7_sizeByMark : Cond.static yX7_sizeByMark ∈ lw_big := bg (in2 (List.mem_of_getElem? (i := 213) rfl)) rfl
theorem wcX8_init : Cond.code yX8_init cX8_init 1 none ∈ lw_big := bg (in1 (List.mem_of_getElem? (i := 102) rfl)) rfl
theorem wmX8_init : Cond.instanceMethod yX8_init ∈ lw_big := bg (in1 (List.mem_of_getElem? (i := 101) rfl)) rfl
theorem wcX8_reset : Cond.code yX8_reset cX8_reset 1 none ∈ lw_big := bg (in1 (List.mem_of_getElem? (i := 107) rfl)) rfl
theorem wmX8_reset : Cond.instanceMethod yX8_reset ∈ lw_big := bg (in1 (List.mem_of_getElem? (i := 105) rfl)) rfl
theorem wsX8_reset : Cond.selects RX8 yX8_reset yX8_reset ∈ lw_big := bg (in1 (List.mem_of_getElem? (i := 106) rfl)) rfl
theorem wcX8_become : Cond.code yX8_become cX8_become 5 none ∈ lw_big := bg (in1 (List.mem_of_getElem? (i := 111) rfl)) rfl
theorem wmX8_become : Cond.instanceMethod yX8_become ∈ lw_big := bg (in1 (List.mem_of_getElem? (i := 109) rfl)) rfl
theorem wsX8_become : Cond.selects RX8 yX8_become yX8_become ∈ lw_big := bg (in1 (List.mem_of_getElem? (i := 110) rfl)) rfl
theorem wcX8_copyFrom : Cond.code yX8_copyFrom cX8_copyFrom 2 none ∈ lw_big := bg (in3 (List.mem_of_getElem? (i := 24) rfl)) rfl
theorem wmX8_copyFrom : Cond.instanceMethod yX8_copyFrom ∈ lw_big := bg (in3 (List.mem_of_getElem? (i := 22) rfl)) rfl
theorem wsX8_copyFrom : Cond.selects RX8 yX8_copyFrom yX8_copyFrom ∈ lw_big := bg (in3 (List.mem_of_getElem? (i := 23) rfl)) rfl
theorem wcX9_init : Cond.code yX9_init cX9_init 1 none ∈ lw_big := bg (in1 (List.mem_of_getElem? (i := 19) rfl)) rfl
theorem wmX9_init : Cond.instanceMethod yX9_init ∈ lw_big := bg (in1 (List.mem_of_getElem? (i := 18) rfl)) rfl
theorem wcX9_feed : Cond.code yX9_feed cX9_feed 6 (some .int) ∈ lw_big := bg (in2 (List.mem_of_getElem? (i := 147) rfl)) rfl
theorem wmX9_feed : Cond.instanceMethod yX9_feed ∈ lw_big := bg (in2 (List.mem_of_getElem? (i := 145) rfl)) rfl
theorem wsX9_feed : Cond.selects RX9 yX9_feed yX9_feed ∈ lw_big := bg (in2 (List.mem_of_getElem? (i := 146) rfl)) rfl
theorem wcX9_take : Cond.code yX9_take cX9_take 1 (some .int) ∈ lw_big := bg (in2 (List.mem_of_getElem? (i := 159) rfl)) rfl
theorem wmX9_take : Cond.instanceMethod yX9_take ∈ lw_big := bg (in2 (List.mem_of_getElem? (i := 157) rfl)) rfl
theorem wsX9_take : Cond.selects RX9 yX9_take yX9_take ∈ lw_big := bg (in2 (List.mem_of_getElem? (i := 158) rfl)) rfl
theorem wcX9_read : Cond.code yX9_read cX9_read 2 (some .int) ∈ lw_big := bg (in2 (List.mem_of_getElem? (i := 170) rfl)) rfl
theorem wmX9_read : Cond.instanceMethod yX9_read ∈ lw_big := bg (in2 (List.mem_of_getElem? (i := 168) rfl)) rfl
theorem wsX9_read : Cond.selects RX9 yX9_read yX9_read ∈ lw_big := bg (in2 (List.mem_of_getElem? (i := 169) rfl)) rfl
theorem wcX9_fault : Cond.code yX9_fault cX9_fault 2 (some .int) ∈ lw_big := bg (in3 (List.mem_of_getElem? (i := 113) rfl)) rfl
theorem wmX9_fault : Cond.instanceMethod yX9_fault ∈ lw_big := bg (in3 (List.mem_of_getElem? (i := 111) rfl)) rfl
theorem wsX9_fault : Cond.selects RX9 yX9_fault yX9_fault ∈ lw_big := bg (in3 (List.mem_of_getElem? (i := 112) rfl)) rfl
theorem wcX9_begin : Cond.code yX9_begin cX9_begin 5 (some .boolean) ∈ lw_big := bg (in3 (List.mem_of_getElem? (i := 117) rfl)) rfl
theorem wmX9_begin : Cond.instanceMethod yX9_begin ∈ lw_big := bg (in3 (List.mem_of_getElem? (i := 115) rfl)) rfl
theorem wsX9_begin : Cond.selects RX9 yX9_begin yX9_begin ∈ lw_big := bg (in3 (List.mem_of_getElem? (i := 116) rfl)) rfl
theorem wcX9_colour : Cond.code yX9_colour cX9_colour 5 (some .boolean) ∈ lw_big := bg (in3 (List.mem_of_getElem? (i := 135) rfl)) rfl
theorem wmX9_colour : Cond.instanceMethod yX9_colour ∈ lw_big := bg (in3 (List.mem_of_getElem? (i := 133) rfl)) rfl
theorem wsX9_colour : Cond.selects RX9 yX9_colour yX9_colour ∈ lw_big := bg (in3 (List.mem_of_getElem? (i := 134) rfl)) rfl
theorem wcX9_frame : Cond.code yX9_frame cX9_frame 7 (some .int) ∈ lw_big := bg (in3 (List.mem_of_getElem? (i := 152) rfl)) rfl
theorem wmX9_frame : Cond.instanceMethod yX9_frame ∈ lw_big := bg (in3 (List.mem_of_getElem? (i := 150) rfl)) rfl
theorem wsX9_frame : Cond.selects RX9 yX9_frame yX9_frame ∈ lw_big := bg (in3 (List.mem_of_getElem? (i := 151) rfl)) rfl
theorem wcX9_control : Cond.code yX9_control cX9_control 7 (some .boolean) ∈ lw_big := bg (in3 (List.mem_of_getElem? (i := 160) rfl)) rfl
theorem wmX9_control : Cond.instanceMethod yX9_control ∈ lw_big := bg (in3 (List.mem_of_getElem? (i := 158) rfl)) rfl
theorem wsX9_control : Cond.selects RX9 yX9_control yX9_control ∈ lw_big := bg (in3 (List.mem_of_getElem? (i := 159) rfl)) rfl
theorem wcX9_paint : Cond.code yX9_paint cX9_paint 6 (some .boolean) ∈ lw_big := bg (in3 (List.mem_of_getElem? (i := 166) rfl)) rfl
theorem wmX9_paint : Cond.instanceMethod yX9_paint ∈ lw_big := bg (in3 (List.mem_of_getElem? (i := 164) rfl)) rfl
theorem wsX9_paint : Cond.selects RX9 yX9_paint yX9_paint ∈ lw_big := bg (in3 (List.mem_of_getElem? (i := 165) rfl)) rfl
theorem wcX9_write : Cond.code yX9_write cX9_write 1 (some .int) ∈ lw_big := bg (in3 (List.mem_of_getElem? (i := 173) rfl)) rfl
theorem wmX9_write : Cond.instanceMethod yX9_write ∈ lw_big := bg (in3 (List.mem_of_getElem? (i := 171) rfl)) rfl
theorem wsX9_write : Cond.selects RX9 yX9_write yX9_write ∈ lw_big := bg (in3 (List.mem_of_getElem? (i := 172) rfl)) rfl
theorem wcX9_out : Cond.code yX9_out cX9_out 2 (some .int) ∈ lw_big := bg (in4 (List.mem_of_getElem? (i := 24) rfl)) rfl
theorem wmX9_out : Cond.instanceMethod yX9_out ∈ lw_big := bg (in4 (List.mem_of_getElem? (i := 22) rfl)) rfl
theorem wsX9_out : Cond.selects RX9 yX9_out yX9_out ∈ lw_big := bg (in4 (List.mem_of_getElem? (i := 23) rfl)) rfl
theorem wcX9_about : Cond.code yX9_about cX9_about 2 (some .int) ∈ lw_big := bg (in4 (List.mem_of_getElem? (i := 29) rfl)) rfl
theorem wmX9_about : Cond.instanceMethod yX9_about ∈ lw_big := bg (in4 (List.mem_of_getElem? (i := 27) rfl)) rfl
theorem wsX9_about : Cond.selects RX9 yX9_about yX9_about ∈ lw_big := bg (in4 (List.mem_of_getElem? (i := 28) rfl)) rfl
theorem wcX9_frameOf : Cond.code yX9_frameOf cX9_frameOf 4 (some .int) ∈ lw_big := bg (in4 (List.mem_of_getElem? (i := 33) rfl)) rfl
theorem wmX9_frameOf : Cond.instanceMethod yX9_frameOf ∈ lw_big := bg (in4 (List.mem_of_getElem? (i := 31) rfl)) rfl
theorem wsX9_frameOf : Cond.selects RX9 yX9_frameOf yX9_frameOf ∈ lw_big := bg (in4 (List.mem_of_getElem? (i := 32) rfl)) rfl
theorem wcX9_colourOf : Cond.code yX9_colourOf cX9_colourOf 4 (some .int) ∈ lw_big := bg (in4 (List.mem_of_getElem? (i := 37) rfl)) rfl
theorem wmX9_colourOf : Cond.instanceMethod yX9_colourOf ∈ lw_big := bg (in4 (List.mem_of_getElem? (i := 35) rfl)) rfl
theorem wsX9_colourOf : Cond.selects RX9 yX9_colourOf yX9_colourOf ∈ lw_big := bg (in4 (List.mem_of_getElem? (i := 36) rfl)) rfl
theorem wcX9_index : Cond.code yX9_index cX9_index 4 (some .int) ∈ lw_big := bg (in4 (List.mem_of_getElem? (i := 41) rfl)) rfl
theorem wmX9_index : Cond.instanceMethod yX9_index ∈ lw_big := bg (in4 (List.mem_of_getElem? (i := 39) rfl)) rfl
theorem wsX9_index : Cond.selects RX9 yX9_index yX9_index ∈ lw_big := bg (in4 (List.mem_of_getElem? (i := 40) rfl)) rfl
theorem wcX9_canvas : Cond.code yX9_canvas cX9_canvas 4 (some .int) ∈ lw_big := bg (in4 (List.mem_of_getElem? (i := 45) rfl)) rfl
theorem wmX9_canvas : Cond.instanceMethod yX9_canvas ∈ lw_big := bg (in4 (List.mem_of_getElem? (i := 43) rfl)) rfl
theorem wsX9_canvas : Cond.selects RX9 yX9_canvas yX9_canvas ∈ lw_big := bg (in4 (List.mem_of_getElem? (i := 44) rfl)) rfl
theorem wcX9_tableAt : Cond.code yX9_tableAt cX9_tableAt 3 (some (.object "PictureReel$Table")) ∈ lw_big := bg (in3 (List.mem_of_getElem? (i := 139) rfl)) rfl
theorem wmX9_tableAt : Cond.instanceMethod yX9_tableAt ∈ lw_big := bg (in3 (List.mem_of_getElem? (i := 138) rfl)) rfl
theorem wsX9_tableAt : Cond.selects RX9 yX9_tableAt yX9_tableAt ∈ lw_big := bg (in0 (List.mem_of_getElem? (i := 23) rfl)) rfl
theorem wcX9_isSide : Cond.code yX9_isSide cX9_isSide 1 (some .boolean) ∈ lw_big := bg (in2 (List.mem_of_getElem? (i := 211) rfl)) rfl
theorem wtX9_isSide : Cond.static yX9_isSide ∈ lw_big := bg (in2 (List.mem_of_getElem? (i := 210) rfl)) rfl
theorem wcX9_isByte : Cond.code yX9_isByte cX9_isByte 1 (some .boolean) ∈ lw_big := bg (in3 (List.mem_of_getElem? (i := 130) rfl)) rfl
theorem wtX9_isByte : Cond.static yX9_isByte ∈ lw_big := bg (in3 (List.mem_of_getElem? (i := 129) rfl)) rfl
theorem wcX9_isTableSize : Cond.code yX9_isTableSize cX9_isTableSize 1 (some .boolean) ∈ lw_big := bg (in3 (List.mem_of_getElem? (i := 121) rfl)) rfl
theorem wtX9_isTableSize : Cond.static yX9_isTableSize ∈ lw_big := bg (in3 (List.mem_of_getElem? (i := 120) rfl)) rfl
theorem wcX10_init : Cond.code yX10_init cX10_init 1 none ∈ lw_big := bg (in4 (List.mem_of_getElem? (i := 72) rfl)) rfl
theorem wmX10_init : Cond.instanceMethod yX10_init ∈ lw_big := bg (in4 (List.mem_of_getElem? (i := 71) rfl)) rfl
theorem wcX10_field : Cond.code yX10_field cX10_field 4 (some .int) ∈ lw_big := bg (in5 (List.mem_of_getElem? (i := 29) rfl)) rfl
theorem wmX10_field : Cond.instanceMethod yX10_field ∈ lw_big := bg (in5 (List.mem_of_getElem? (i := 28) rfl)) rfl
theorem wsX10_field : Cond.selects RX10 yX10_field yX10_field ∈ lw_big := bg (in0 (List.mem_of_getElem? (i := 51) rfl)) rfl
theorem wcX10_setField : Cond.code yX10_setField cX10_setField 5 none ∈ lw_big := bg (in5 (List.mem_of_getElem? (i := 13) rfl)) rfl
theorem wmX10_setField : Cond.instanceMethod yX10_setField ∈ lw_big := bg (in5 (List.mem_of_getElem? (i := 12) rfl)) rfl
theorem wsX10_setField : Cond.selects RX10 yX10_setField yX10_setField ∈ lw_big := bg (in0 (List.mem_of_getElem? (i := 47) rfl)) rfl
theorem wcX10_indexAt : Cond.code yX10_indexAt cX10_indexAt 4 (some .int) ∈ lw_big := bg (in5 (List.mem_of_getElem? (i := 172) rfl)) rfl
theorem wmX10_indexAt : Cond.instanceMethod yX10_indexAt ∈ lw_big := bg (in5 (List.mem_of_getElem? (i := 171) rfl)) rfl
theorem wsX10_indexAt : Cond.selects RX10 yX10_indexAt yX10_indexAt ∈ lw_big := bg (in0 (List.mem_of_getElem? (i := 76) rfl)) rfl
theorem wcX10_setIndex : Cond.code yX10_setIndex cX10_setIndex 5 none ∈ lw_big := bg (in5 (List.mem_of_getElem? (i := 60) rfl)) rfl
theorem wmX10_setIndex : Cond.instanceMethod yX10_setIndex ∈ lw_big := bg (in5 (List.mem_of_getElem? (i := 59) rfl)) rfl
theorem wsX10_setIndex : Cond.selects RX10 yX10_setIndex yX10_setIndex ∈ lw_big := bg (in0 (List.mem_of_getElem? (i := 58) rfl)) rfl
theorem wcX10_localAt : Cond.code yX10_localAt cX10_localAt 3 (some .int) ∈ lw_big := bg (in5 (List.mem_of_getElem? (i := 9) rfl)) rfl
theorem wtX10_localAt : Cond.static yX10_localAt ∈ lw_big := bg (in5 (List.mem_of_getElem? (i := 8) rfl)) rfl
theorem wcX10_frames : Cond.code yX10_frames cX10_frames 1 (some .int) ∈ lw_big := bg (in5 (List.mem_of_getElem? (i := 85) rfl)) rfl
theorem wmX10_frames : Cond.instanceMethod yX10_frames ∈ lw_big := bg (in5 (List.mem_of_getElem? (i := 84) rfl)) rfl
theorem wsX10_frames : Cond.selects RX10 yX10_frames yX10_frames ∈ lw_big := bg (in0 (List.mem_of_getElem? (i := 64) rfl)) rfl
theorem wcX10_isFrame : Cond.code yX10_isFrame cX10_isFrame 2 (some .boolean) ∈ lw_big := bg (in5 (List.mem_of_getElem? (i := 111) rfl)) rfl
theorem wmX10_isFrame : Cond.instanceMethod yX10_isFrame ∈ lw_big := bg (in5 (List.mem_of_getElem? (i := 110) rfl)) rfl
theorem wsX10_isFrame : Cond.selects RX10 yX10_isFrame yX10_isFrame ∈ lw_big := bg (in0 (List.mem_of_getElem? (i := 66) rfl)) rfl
theorem wcX10_places : Cond.code yX10_places cX10_places 3 (some .int) ∈ lw_big := bg (in5 (List.mem_of_getElem? (i := 25) rfl)) rfl
theorem wmX10_places : Cond.instanceMethod yX10_places ∈ lw_big := bg (in5 (List.mem_of_getElem? (i := 24) rfl)) rfl
theorem wsX10_places : Cond.selects RX10 yX10_places yX10_places ∈ lw_big := bg (in0 (List.mem_of_getElem? (i := 50) rfl)) rfl
theorem wcX10_colours : Cond.code yX10_colours cX10_colours 3 (some .int) ∈ lw_big := bg (in5 (List.mem_of_getElem? (i := 33) rfl)) rfl
theorem wmX10_colours : Cond.instanceMethod yX10_colours ∈ lw_big := bg (in5 (List.mem_of_getElem? (i := 32) rfl)) rfl
theorem wsX10_colours : Cond.selects RX10 yX10_colours yX10_colours ∈ lw_big := bg (in0 (List.mem_of_getElem? (i := 52) rfl)) rfl
theorem wcX10_within : Cond.code yX10_within cX10_within 4 (some .int) ∈ lw_big := bg (in4 (List.mem_of_getElem? (i := 198) rfl)) rfl
theorem wtX10_within : Cond.static yX10_within ∈ lw_big := bg (in4 (List.mem_of_getElem? (i := 197) rfl)) rfl
theorem wcX10_feed : Cond.code yX10_feed cX10_feed 7 (some .int) ∈ lw_big := bg (in4 (List.mem_of_getElem? (i := 195) rfl)) rfl
theorem wmX10_feed : Cond.instanceMethod yX10_feed ∈ lw_big := bg (in4 (List.mem_of_getElem? (i := 193) rfl)) rfl
theorem wsX10_feed : Cond.selects RX10 yX10_feed yX10_feed ∈ lw_big := bg (in4 (List.mem_of_getElem? (i := 194) rfl)) rfl
theorem wcX10_take : Cond.code yX10_take cX10_take 2 (some .int) ∈ lw_big := bg (in4 (List.mem_of_getElem? (i := 202) rfl)) rfl
theorem wmX10_take : Cond.instanceMethod yX10_take ∈ lw_big := bg (in4 (List.mem_of_getElem? (i := 200) rfl)) rfl
theorem wsX10_take : Cond.selects RX10 yX10_take yX10_take ∈ lw_big := bg (in4 (List.mem_of_getElem? (i := 201) rfl)) rfl
theorem wcX10_wrong : Cond.code yX10_wrong cX10_wrong 3 none ∈ lw_big := bg (in4 (List.mem_of_getElem? (i := 226) rfl)) rfl
theorem wmX10_wrong : Cond.instanceMethod yX10_wrong ∈ lw_big := bg (in4 (List.mem_of_getElem? (i := 225) rfl)) rfl
theorem wsX10_wrong : Cond.selects RX10 yX10_wrong yX10_wrong ∈ lw_big := bg (in0 (List.mem_of_getElem? (i := 41) rfl)) rfl
theorem wcX10_good : Cond.code yX10_good cX10_good 1 (some .boolean) ∈ lw_big := bg (in4 (List.mem_of_getElem? (i := 222) rfl)) rfl
theorem wmX10_good : Cond.instanceMethod yX10_good ∈ lw_big := bg (in4 (List.mem_of_getElem? (i := 221) rfl)) rfl
theorem wsX10_good : Cond.selects RX10 yX10_good yX10_good ∈ lw_big := bg (in0 (List.mem_of_getElem? (i := 40) rfl)) rfl
theorem wcX10_one : Cond.code yX10_one cX10_one 1 (some .int) ∈ lw_big := bg (in4 (List.mem_of_getElem? (i := 218) rfl)) rfl
theorem wmX10_one : Cond.instanceMethod yX10_one ∈ lw_big := bg (in4 (List.mem_of_getElem? (i := 217) rfl)) rfl
theorem wsX10_one : Cond.selects RX10 yX10_one yX10_one ∈ lw_big := bg (in0 (List.mem_of_getElem? (i := 39) rfl)) rfl
theorem wcX10_two : Cond.code yX10_two cX10_two 2 (some .int) ∈ lw_big := bg (in4 (List.mem_of_getElem? (i := 230) rfl)) rfl
theorem wmX10_two : Cond.instanceMethod yX10_two ∈ lw_big := bg (in4 (List.mem_of_getElem? (i := 229) rfl)) rfl
theorem wsX10_two : Cond.selects RX10 yX10_two yX10_two ∈ lw_big := bg (in0 (List.mem_of_getElem? (i := 42) rfl)) rfl
theorem wcX10_read : Cond.code yX10_read cX10_read 2 (some .int) ∈ lw_big := bg (in4 (List.mem_of_getElem? (i := 206) rfl)) rfl
theorem wmX10_read : Cond.instanceMethod yX10_read ∈ lw_big := bg (in4 (List.mem_of_getElem? (i := 204) rfl)) rfl
theorem wsX10_read : Cond.selects RX10 yX10_read yX10_read ∈ lw_big := bg (in4 (List.mem_of_getElem? (i := 205) rfl)) rfl
theorem wcX10_must : Cond.code yX10_must cX10_must 3 none ∈ lw_big := bg (in4 (List.mem_of_getElem? (i := 214) rfl)) rfl
theorem wmX10_must : Cond.instanceMethod yX10_must ∈ lw_big := bg (in4 (List.mem_of_getElem? (i := 213) rfl)) rfl
theorem wsX10_must : Cond.selects RX10 yX10_must yX10_must ∈ lw_big := bg (in0 (List.mem_of_getElem? (i := 38) rfl)) rfl
theorem wcX10_readHead : Cond.code yX10_readHead cX10_readHead 5 none ∈ lw_big := bg (in4 (List.mem_of_getElem? (i := 210) rfl)) rfl
theorem wmX10_readHead : Cond.instanceMethod yX10_readHead ∈ lw_big := bg (in4 (List.mem_of_getElem? (i := 209) rfl)) rfl
theorem wsX10_readHead : Cond.selects RX10 yX10_readHead yX10_readHead ∈ lw_big := bg (in0 (List.mem_of_getElem? (i := 37) rfl)) rfl
theorem wcX10_readTable : Cond.code yX10_readTable cX10_readTable 6 none ∈ lw_big := bg (in4 (List.mem_of_getElem? (i := 234) rfl)) rfl
theorem wmX10_readTable : Cond.instanceMethod yX10_readTable ∈ lw_big := bg (in4 (List.mem_of_getElem? (i := 233) rfl)) rfl
theorem wsX10_readTable : Cond.selects RX10 yX10_readTable yX10_readTable ∈ lw_big := bg (in0 (List.mem_of_getElem? (i := 43) rfl)) rfl
theorem wcX10_forget : Cond.code yX10_forget cX10_forget 1 none ∈ lw_big := bg (in5 (List.mem_of_getElem? (i := 2) rfl)) rfl
theorem wmX10_forget : Cond.instanceMethod yX10_forget ∈ lw_big := bg (in5 (List.mem_of_getElem? (i := 1) rfl)) rfl
theorem wsX10_forget : Cond.selects RX10 yX10_forget yX10_forget ∈ lw_big := bg (in0 (List.mem_of_getElem? (i := 45) rfl)) rfl
theorem wcX10_readBlocks : Cond.code yX10_readBlocks cX10_readBlocks 4 none ∈ lw_big := bg (in4 (List.mem_of_getElem? (i := 238) rfl)) rfl
theorem wmX10_readBlocks : Cond.instanceMethod yX10_readBlocks ∈ lw_big := bg (in4 (List.mem_of_getElem? (i := 237) rfl)) rfl
theorem wsX10_readBlocks : Cond.selects RX10 yX10_readBlocks yX10_readBlocks ∈ lw_big := bg (in0 (List.mem_of_getElem? (i := 44) rfl)) rfl
theorem wcX10_length : Cond.code yX10_length cX10_length 3 none ∈ lw_big := bg (in5 (List.mem_of_getElem? (i := 73) rfl)) rfl
theorem wmX10_length : Cond.instanceMethod yX10_length ∈ lw_big := bg (in5 (List.mem_of_getElem? (i := 72) rfl)) rfl
theorem wsX10_length : Cond.selects RX10 yX10_length yX10_length ∈ lw_big := bg (in0 (List.mem_of_getElem? (i := 61) rfl)) rfl
theorem wcX10_skip : Cond.code yX10_skip cX10_skip 3 none ∈ lw_big := bg (in5 (List.mem_of_getElem? (i := 77) rfl)) rfl
theorem wmX10_skip : Cond.instanceMethod yX10_skip ∈ lw_big := bg (in5 (List.mem_of_getElem? (i := 76) rfl)) rfl
theorem wsX10_skip : Cond.selects RX10 yX10_skip yX10_skip ∈ lw_big := bg (in0 (List.mem_of_getElem? (i := 62) rfl)) rfl
theorem wcX10_rows : Cond.code yX10_rows cX10_rows 2 none ∈ lw_big := bg (in5 (List.mem_of_getElem? (i := 81) rfl)) rfl
theorem wmX10_rows : Cond.instanceMethod yX10_rows ∈ lw_big := bg (in5 (List.mem_of_getElem? (i := 80) rfl)) rfl
theorem wsX10_rows : Cond.selects RX10 yX10_rows yX10_rows ∈ lw_big := bg (in0 (List.mem_of_getElem? (i := 63) rfl)) rfl
theorem wcX10_readMore : Cond.code yX10_readMore cX10_readMore 5 none ∈ lw_big := bg (in5 (List.mem_of_getElem? (i := 69) rfl)) rfl
theorem wmX10_readMore : Cond.instanceMethod yX10_readMore ∈ lw_big := bg (in5 (List.mem_of_getElem? (i := 68) rfl)) rfl
theorem wsX10_readMore : Cond.selects RX10 yX10_readMore yX10_readMore ∈ lw_big := bg (in0 (List.mem_of_getElem? (i := 60) rfl)) rfl
theorem wcX10_readImage : Cond.code yX10_readImage cX10_readImage 12 none ∈ lw_big := bg (in5 (List.mem_of_getElem? (i := 6) rfl)) rfl
theorem wmX10_readImage : Cond.instanceMethod yX10_readImage ∈ lw_big := bg (in5 (List.mem_of_getElem? (i := 5) rfl)) rfl
theorem wsX10_readImage : Cond.selects RX10 yX10_readImage yX10_readImage ∈ lw_big := bg (in0 (List.mem_of_getElem? (i := 46) rfl)) rfl
theorem wcX10_gather : Cond.code yX10_gather cX10_gather 3 none ∈ lw_big := bg (in5 (List.mem_of_getElem? (i := 17) rfl)) rfl
theorem wmX10_gather : Cond.instanceMethod yX10_gather ∈ lw_big := bg (in5 (List.mem_of_getElem? (i := 16) rfl)) rfl
theorem wsX10_gather : Cond.selects RX10 yX10_gather yX10_gather ∈ lw_big := bg (in0 (List.mem_of_getElem? (i := 48) rfl)) rfl
theorem wcX10_restart : Cond.code yX10_restart cX10_restart 2 none ∈ lw_big := bg (in5 (List.mem_of_getElem? (i := 41) rfl)) rfl
theorem wmX10_restart : Cond.instanceMethod yX10_restart ∈ lw_big := bg (in5 (List.mem_of_getElem? (i := 40) rfl)) rfl
theorem wsX10_restart : Cond.selects RX10 yX10_restart yX10_restart ∈ lw_big := bg (in0 (List.mem_of_getElem? (i := 54) rfl)) rfl
theorem wcX10_alone : Cond.code yX10_alone cX10_alone 3 none ∈ lw_big := bg (in5 (List.mem_of_getElem? (i := 37) rfl)) rfl
theorem wmX10_alone : Cond.instanceMethod yX10_alone ∈ lw_big := bg (in5 (List.mem_of_getElem? (i := 36) rfl)) rfl
theorem wsX10_alone : Cond.selects RX10 yX10_alone yX10_alone ∈ lw_big := bg (in0 (List.mem_of_getElem? (i := 53) rfl)) rfl
theorem wcX10_tell : Cond.code yX10_tell cX10_tell 2 none ∈ lw_big := bg (in5 (List.mem_of_getElem? (i := 65) rfl)) rfl
theorem wmX10_tell : Cond.instanceMethod yX10_tell ∈ lw_big := bg (in5 (List.mem_of_getElem? (i := 64) rfl)) rfl
theorem wsX10_tell : Cond.selects RX10 yX10_tell yX10_tell ∈ lw_big := bg (in0 (List.mem_of_getElem? (i := 59) rfl)) rfl
theorem wcX10_code : Cond.code yX10_code cX10_code 3 (some .int) ∈ lw_big := bg (in5 (List.mem_of_getElem? (i := 45) rfl)) rfl
theorem wmX10_code : Cond.instanceMethod yX10_code ∈ lw_big := bg (in5 (List.mem_of_getElem? (i := 44) rfl)) rfl
theorem wsX10_code : Cond.selects RX10 yX10_code yX10_code ∈ lw_big := bg (in0 (List.mem_of_getElem? (i := 55) rfl)) rfl
theorem wcX10_codes : Cond.code yX10_codes cX10_codes 11 (some .boolean) ∈ lw_big := bg (in5 (List.mem_of_getElem? (i := 21) rfl)) rfl
theorem wmX10_codes : Cond.instanceMethod yX10_codes ∈ lw_big := bg (in5 (List.mem_of_getElem? (i := 20) rfl)) rfl
theorem wsX10_codes : Cond.selects RX10 yX10_codes yX10_codes ∈ lw_big := bg (in0 (List.mem_of_getElem? (i := 49) rfl)) rfl
theorem wcX10_put : Cond.code yX10_put cX10_put 9 (some .boolean) ∈ lw_big := bg (in5 (List.mem_of_getElem? (i := 49) rfl)) rfl
theorem wmX10_put : Cond.instanceMethod yX10_put ∈ lw_big := bg (in5 (List.mem_of_getElem? (i := 48) rfl)) rfl
theorem wsX10_put : Cond.selects RX10 yX10_put yX10_put ∈ lw_big := bg (in0 (List.mem_of_getElem? (i := 56) rfl)) rfl
theorem wcX10_placeOf : Cond.code yX10_placeOf cX10_placeOf 5 (some .int) ∈ lw_big := bg (in5 (List.mem_of_getElem? (i := 53) rfl)) rfl
theorem wmX10_placeOf : Cond.instanceMethod yX10_placeOf ∈ lw_big := bg (in5 (List.mem_of_getElem? (i := 52) rfl)) rfl
theorem wsX10_placeOf : Cond.selects RX10 yX10_placeOf yX10_placeOf ∈ lw_big := bg (in0 (List.mem_of_getElem? (i := 57) rfl)) rfl
theorem wcX10_line : Cond.code yX10_line cX10_line 5 (some .int) ∈ lw_big := bg (in5 (List.mem_of_getElem? (i := 56) rfl)) rfl
theorem wtX10_line : Cond.static yX10_line ∈ lw_big := bg (in5 (List.mem_of_getElem? (i := 55) rfl)) rfl
theorem wcX10_fault : Cond.code yX10_fault cX10_fault 2 (some .int) ∈ lw_big := bg (in5 (List.mem_of_getElem? (i := 89) rfl)) rfl
theorem wmX10_fault : Cond.instanceMethod yX10_fault ∈ lw_big := bg (in5 (List.mem_of_getElem? (i := 87) rfl)) rfl
theorem wsX10_fault : Cond.selects RX10 yX10_fault yX10_fault ∈ lw_big := bg (in5 (List.mem_of_getElem? (i := 88) rfl)) rfl
theorem wcX10_isTable : Cond.code yX10_isTable cX10_isTable 1 (some .boolean) ∈ lw_big := bg (in5 (List.mem_of_getElem? (i := 99) rfl)) rfl
theorem wtX10_isTable : Cond.static yX10_isTable ∈ lw_big := bg (in5 (List.mem_of_getElem? (i := 98) rfl)) rfl
theorem wcX10_isWithin : Cond.code yX10_isWithin cX10_isWithin 3 (some .boolean) ∈ lw_big := bg (in5 (List.mem_of_getElem? (i := 96) rfl)) rfl
theorem wtX10_isWithin : Cond.static yX10_isWithin ∈ lw_big := bg (in5 (List.mem_of_getElem? (i := 95) rfl)) rfl
theorem wcX10_begin : Cond.code yX10_begin cX10_begin 6 (some .boolean) ∈ lw_big := bg (in5 (List.mem_of_getElem? (i := 93) rfl)) rfl
theorem wmX10_begin : Cond.instanceMethod yX10_begin ∈ lw_big := bg (in5 (List.mem_of_getElem? (i := 91) rfl)) rfl
theorem wsX10_begin : Cond.selects RX10 yX10_begin yX10_begin ∈ lw_big := bg (in5 (List.mem_of_getElem? (i := 92) rfl)) rfl
theorem wcX10_isColour : Cond.code yX10_isColour cX10_isColour 3 (some .boolean) ∈ lw_big := bg (in5 (List.mem_of_getElem? (i := 107) rfl)) rfl
theorem wmX10_isColour : Cond.instanceMethod yX10_isColour ∈ lw_big := bg (in5 (List.mem_of_getElem? (i := 106) rfl)) rfl
theorem wsX10_isColour : Cond.selects RX10 yX10_isColour yX10_isColour ∈ lw_big := bg (in0 (List.mem_of_getElem? (i := 65) rfl)) rfl
theorem wcX10_colour : Cond.code yX10_colour cX10_colour 4 (some .boolean) ∈ lw_big := bg (in5 (List.mem_of_getElem? (i := 103) rfl)) rfl
theorem wmX10_colour : Cond.instanceMethod yX10_colour ∈ lw_big := bg (in5 (List.mem_of_getElem? (i := 101) rfl)) rfl
theorem wsX10_colour : Cond.selects RX10 yX10_colour yX10_colour ∈ lw_big := bg (in5 (List.mem_of_getElem? (i := 102) rfl)) rfl
theorem wcX10_frame : Cond.code yX10_frame cX10_frame 11 (some .int) ∈ lw_big := bg (in5 (List.mem_of_getElem? (i := 116) rfl)) rfl
theorem wmX10_frame : Cond.instanceMethod yX10_frame ∈ lw_big := bg (in5 (List.mem_of_getElem? (i := 114) rfl)) rfl
theorem wsX10_frame : Cond.selects RX10 yX10_frame yX10_frame ∈ lw_big := bg (in5 (List.mem_of_getElem? (i := 115) rfl)) rfl
theorem wcX10_control : Cond.code yX10_control cX10_control 6 (some .boolean) ∈ lw_big := bg (in5 (List.mem_of_getElem? (i := 120) rfl)) rfl
theorem wmX10_control : Cond.instanceMethod yX10_control ∈ lw_big := bg (in5 (List.mem_of_getElem? (i := 118) rfl)) rfl
theorem wsX10_control : Cond.selects RX10 yX10_control yX10_control ∈ lw_big := bg (in5 (List.mem_of_getElem? (i := 119) rfl)) rfl
theorem wcX10_paint : Cond.code yX10_paint cX10_paint 7 (some .boolean) ∈ lw_big := bg (in5 (List.mem_of_getElem? (i := 125) rfl)) rfl
theorem wmX10_paint : Cond.instanceMethod yX10_paint ∈ lw_big := bg (in5 (List.mem_of_getElem? (i := 123) rfl)) rfl
theorem wsX10_paint : Cond.selects RX10 yX10_paint yX10_paint ∈ lw_big := bg (in5 (List.mem_of_getElem? (i := 124) rfl)) rfl
theorem wcX10_say : Cond.code yX10_say cX10_say 2 none ∈ lw_big := bg (in5 (List.mem_of_getElem? (i := 133) rfl)) rfl
theorem wmX10_say : Cond.instanceMethod yX10_say ∈ lw_big := bg (in5 (List.mem_of_getElem? (i := 132) rfl)) rfl
theorem wsX10_say : Cond.selects RX10 yX10_say yX10_say ∈ lw_big := bg (in0 (List.mem_of_getElem? (i := 67) rfl)) rfl
theorem wcX10_sayTwo : Cond.code yX10_sayTwo cX10_sayTwo 2 none ∈ lw_big := bg (in5 (List.mem_of_getElem? (i := 137) rfl)) rfl
theorem wmX10_sayTwo : Cond.instanceMethod yX10_sayTwo ∈ lw_big := bg (in5 (List.mem_of_getElem? (i := 136) rfl)) rfl
theorem wsX10_sayTwo : Cond.selects RX10 yX10_sayTwo yX10_sayTwo ∈ lw_big := bg (in0 (List.mem_of_getElem? (i := 68) rfl)) rfl
theorem wcX10_sayTable : Cond.code yX10_sayTable cX10_sayTable 5 none ∈ lw_big := bg (in5 (List.mem_of_getElem? (i := 144) rfl)) rfl
theorem wmX10_sayTable : Cond.instanceMethod yX10_sayTable ∈ lw_big := bg (in5 (List.mem_of_getElem? (i := 143) rfl)) rfl
theorem wsX10_sayTable : Cond.selects RX10 yX10_sayTable yX10_sayTable ∈ lw_big := bg (in0 (List.mem_of_getElem? (i := 69) rfl)) rfl
theorem wcX10_bitsOf : Cond.code yX10_bitsOf cX10_bitsOf 2 (some .int) ∈ lw_big := bg (in5 (List.mem_of_getElem? (i := 140) rfl)) rfl
theorem wtX10_bitsOf : Cond.static yX10_bitsOf ∈ lw_big := bg (in5 (List.mem_of_getElem? (i := 139) rfl)) rfl
theorem wcX10_write : Cond.code yX10_write cX10_write 3 (some .int) ∈ lw_big := bg (in5 (List.mem_of_getElem? (i := 129) rfl)) rfl
theorem wmX10_write : Cond.instanceMethod yX10_write ∈ lw_big := bg (in5 (List.mem_of_getElem? (i := 127) rfl)) rfl
theorem wsX10_write : Cond.selects RX10 yX10_write yX10_write ∈ lw_big := bg (in5 (List.mem_of_getElem? (i := 128) rfl)) rfl
theorem wcX10_sayFrame : Cond.code yX10_sayFrame cX10_sayFrame 5 none ∈ lw_big := bg (in5 (List.mem_of_getElem? (i := 148) rfl)) rfl
theorem wmX10_sayFrame : Cond.instanceMethod yX10_sayFrame ∈ lw_big := bg (in5 (List.mem_of_getElem? (i := 147) rfl)) rfl
theorem wsX10_sayFrame : Cond.selects RX10 yX10_sayFrame yX10_sayFrame ∈ lw_big := bg (in0 (List.mem_of_getElem? (i := 70) rfl)) rfl
theorem wcX10_sayRow : Cond.code yX10_sayRow cX10_sayRow 2 none ∈ lw_big := bg (in5 (List.mem_of_getElem? (i := 160) rfl)) rfl
theorem wmX10_sayRow : Cond.instanceMethod yX10_sayRow ∈ lw_big := bg (in5 (List.mem_of_getElem? (i := 159) rfl)) rfl
theorem wsX10_sayRow : Cond.selects RX10 yX10_sayRow yX10_sayRow ∈ lw_big := bg (in0 (List.mem_of_getElem? (i := 73) rfl)) rfl
theorem wcX10_sayBits : Cond.code yX10_sayBits cX10_sayBits 3 none ∈ lw_big := bg (in5 (List.mem_of_getElem? (i := 156) rfl)) rfl
theorem wmX10_sayBits : Cond.instanceMethod yX10_sayBits ∈ lw_big := bg (in5 (List.mem_of_getElem? (i := 155) rfl)) rfl
theorem wsX10_sayBits : Cond.selects RX10 yX10_sayBits yX10_sayBits ∈ lw_big := bg (in0 (List.mem_of_getElem? (i := 72) rfl)) rfl
theorem wcX10_indexOf : Cond.code yX10_indexOf cX10_indexOf 3 (some .int) ∈ lw_big := bg (in5 (List.mem_of_getElem? (i := 168) rfl)) rfl
theorem wmX10_indexOf : Cond.instanceMethod yX10_indexOf ∈ lw_big := bg (in5 (List.mem_of_getElem? (i := 167) rfl)) rfl
theorem wsX10_indexOf : Cond.selects RX10 yX10_indexOf yX10_indexOf ∈ lw_big := bg (in0 (List.mem_of_getElem? (i := 75) rfl)) rfl
theorem wcX10_stands : Cond.code yX10_stands cX10_stands 7 (some .boolean) ∈ lw_big := bg (in5 (List.mem_of_getElem? (i := 176) rfl)) rfl
theorem wmX10_stands : Cond.instanceMethod yX10_stands ∈ lw_big := bg (in5 (List.mem_of_getElem? (i := 175) rfl)) rfl
theorem wsX10_stands : Cond.selects RX10 yX10_stands yX10_stands ∈ lw_big := bg (in0 (List.mem_of_getElem? (i := 77) rfl)) rfl
theorem wcX10_sayCodes : Cond.code yX10_sayCodes cX10_sayCodes 6 none ∈ lw_big := bg (in5 (List.mem_of_getElem? (i := 152) rfl)) rfl
theorem wmX10_sayCodes : Cond.instanceMethod yX10_sayCodes ∈ lw_big := bg (in5 (List.mem_of_getElem? (i := 151) rfl)) rfl
theorem wsX10_sayCodes : Cond.selects RX10 yX10_sayCodes yX10_sayCodes ∈ lw_big := bg (in0 (List.mem_of_getElem? (i := 71) rfl)) rfl
theorem wcX10_sayLongest : Cond.code yX10_sayLongest cX10_sayLongest 11 (some .int) ∈ lw_big := bg (in5 (List.mem_of_getElem? (i := 164) rfl)) rfl
theorem wmX10_sayLongest : Cond.instanceMethod yX10_sayLongest ∈ lw_big := bg (in5 (List.mem_of_getElem? (i := 163) rfl)) rfl
theorem wsX10_sayLongest : Cond.selects RX10 yX10_sayLongest yX10_sayLongest ∈ lw_big := bg (in0 (List.mem_of_getElem? (i := 74) rfl)) rfl
theorem wcX10_out : Cond.code yX10_out cX10_out 2 (some .int) ∈ lw_big := bg (in5 (List.mem_of_getElem? (i := 180) rfl)) rfl
theorem wmX10_out : Cond.instanceMethod yX10_out ∈ lw_big := bg (in5 (List.mem_of_getElem? (i := 178) rfl)) rfl
theorem wsX10_out : Cond.selects RX10 yX10_out yX10_out ∈ lw_big := bg (in5 (List.mem_of_getElem? (i := 179) rfl)) rfl
theorem wcX10_about : Cond.code yX10_about cX10_about 2 (some .int) ∈ lw_big := bg (in5 (List.mem_of_getElem? (i := 184) rfl)) rfl
theorem wmX10_about : Cond.instanceMethod yX10_about ∈ lw_big := bg (in5 (List.mem_of_getElem? (i := 182) rfl)) rfl
theorem wsX10_about : Cond.selects RX10 yX10_about yX10_about ∈ lw_big := bg (in5 (List.mem_of_getElem? (i := 183) rfl)) rfl
theorem wcX10_frameOf : Cond.code yX10_frameOf cX10_frameOf 3 (some .int) ∈ lw_big := bg (in5 (List.mem_of_getElem? (i := 188) rfl)) rfl
theorem wmX10_frameOf : Cond.instanceMethod yX10_frameOf ∈ lw_big := bg (in5 (List.mem_of_getElem? (i := 186) rfl)) rfl
theorem wsX10_frameOf : Cond.selects RX10 yX10_frameOf yX10_frameOf ∈ lw_big := bg (in5 (List.mem_of_getElem? (i := 187) rfl)) rfl
theorem wcX10_colourOf : Cond.code yX10_colourOf cX10_colourOf 3 (some .int) ∈ lw_big := bg (in5 (List.mem_of_getElem? (i := 192) rfl)) rfl
theorem wmX10_colourOf : Cond.instanceMethod yX10_colourOf ∈ lw_big := bg (in5 (List.mem_of_getElem? (i := 190) rfl)) rfl
theorem wsX10_colourOf : Cond.selects RX10 yX10_colourOf yX10_colourOf ∈ lw_big := bg (in5 (List.mem_of_getElem? (i := 191) rfl)) rfl
theorem wcX10_index : Cond.code yX10_index cX10_index 3 (some .int) ∈ lw_big := bg (in5 (List.mem_of_getElem? (i := 196) rfl)) rfl
theorem wmX10_index : Cond.instanceMethod yX10_index ∈ lw_big := bg (in5 (List.mem_of_getElem? (i := 194) rfl)) rfl
theorem wsX10_index : Cond.selects RX10 yX10_index yX10_index ∈ lw_big := bg (in5 (List.mem_of_getElem? (i := 195) rfl)) rfl
theorem wcX10_covers : Cond.code yX10_covers cX10_covers 7 (some .int) ∈ lw_big := bg (in5 (List.mem_of_getElem? (i := 204) rfl)) rfl
theorem wmX10_covers : Cond.instanceMethod yX10_covers ∈ lw_big := bg (in5 (List.mem_of_getElem? (i := 203) rfl)) rfl
theorem wsX10_covers : Cond.selects RX10 yX10_covers yX10_covers ∈ lw_big := bg (in0 (List.mem_of_getElem? (i := 78) rfl)) rfl
theorem wcX10_canvas : Cond.code yX10_canvas cX10_canvas 10 (some .int) ∈ lw_big := bg (in5 (List.mem_of_getElem? (i := 200) rfl)) rfl
theorem wmX10_canvas : Cond.instanceMethod yX10_canvas ∈ lw_big := bg (in5 (List.mem_of_getElem? (i := 198) rfl)) rfl
theorem wsX10_canvas : Cond.selects RX10 yX10_canvas yX10_canvas ∈ lw_big := bg (in5 (List.mem_of_getElem? (i := 199) rfl)) rfl
theorem wcJ6_numberOfTrailingZeros_0f7a4 : Cond.code yJ6_numberOfTrailingZeros_0f7a4 cJ6_numberOfTrailingZeros_0f7a4 2 (some .int) ∈ lw_big := bg (in3 (List.mem_of_getElem? (i := 199) rfl)) rfl
theorem wtJ6_numberOfTrailingZeros_0f7a4 : Cond.static yJ6_numberOfTrailingZeros_0f7a4 ∈ lw_big := bg (in3 (List.mem_of_getElem? (i := 198) rfl)) rfl
theorem wcJ6_bitCount_0f7a4 : Cond.code yJ6_bitCount_0f7a4 cJ6_bitCount_0f7a4 1 (some .int) ∈ lw_big := bg (in3 (List.mem_of_getElem? (i := 124) rfl)) rfl
theorem wtJ6_bitCount_0f7a4 : Cond.static yJ6_bitCount_0f7a4 ∈ lw_big := bg (in3 (List.mem_of_getElem? (i := 123) rfl)) rfl
theorem wcJ9_max_7cf53 : Cond.code yJ9_max_7cf53 cJ9_max_7cf53 2 (some .int) ∈ lw_big := bg (in3 (List.mem_of_getElem? (i := 58) rfl)) rfl
theorem wtJ9_max_7cf53 : Cond.static yJ9_max_7cf53 ∈ lw_big := bg (in3 (List.mem_of_getElem? (i := 57) rfl)) rfl
theorem wcJ9_min_7cf53 : Cond.code yJ9_min_7cf53 cJ9_min_7cf53 2 (some .int) ∈ lw_big := bg (in2 (List.mem_of_getElem? (i := 177) rfl)) rfl
theorem wtJ9_min_7cf53 : Cond.static yJ9_min_7cf53 ∈ lw_big := bg (in2 (List.mem_of_getElem? (i := 176) rfl)) rfl
theorem wmO : Cond.instanceMethod objectInit ∈ lw_big := bg (in1 (List.mem_of_getElem? (i := 21) rfl)) rfl
theorem wcO : Cond.code objectInit ⟨#[0xb1]⟩ 1 none ∈ lw_big := bg (in1 (List.mem_of_getElem? (i := 22) rfl)) rfl
theorem wtC : Cond.static arraycopyName ∈ lw_big := bg (in2 (List.mem_of_getElem? (i := 165) rfl)) rfl
theorem wvC : Cond.native arraycopyName ∈ lw_big := bg (in2 (List.mem_of_getElem? (i := 166) rfl)) rfl
theorem wa_int : Cond.arrayClass .int ∈ lw_big := bg (in1 (List.mem_of_getElem? (i := 50) rfl)) rfl
theorem wa_byte : Cond.arrayClass .byte ∈ lw_big := bg (in4 (List.mem_of_getElem? (i := 190) rfl)) rfl
theorem wa_short : Cond.arrayClass .short ∈ lw_big := bg (in4 (List.mem_of_getElem? (i := 191) rfl)) rfl
end
section
/-! the memory: ints and references by address and place; shapes; the world that holds them -/
abbrev Mm : Type := (Nat → Nat → Int32) × (Nat → Nat → Nat)
def u1 {α : Type} (f : Nat → α) (k : Nat) (v : α) : Nat → α := fun j => if j = k then v else f j
def u2 {α : Type} (f : Nat → Nat → α) (a k : Nat) (v : α) : Nat → Nat → α := fun b => if b = a then u1 (f a) k v else f b
def s2 {α : Type} (f : Nat → α) (a : Nat) (v : α) : Nat → α := fun b => if b = a then v else f b
def si (μ : Mm) (a k : Nat) (v : Int32) : Mm := (u2 μ.1 a k v, μ.2)
def sr (μ : Mm) (a k : Nat) (v : Nat) : Mm := (μ.1, u2 μ.2 a k v)
def sa (μ : Mm) (a : Nat) (f : Nat → Int32) : Mm := (s2 μ.1 a f, μ.2)
abbrev Sg : Type := Nat → Option (Nat × Nat)
def dm (σ : Sg) : Nat → Prop := fun q => σ q ≠ none
theorem dm_of {σ : Sg} {a : Nat} {sh : Nat × Nat} (h : σ a = some sh) : dm σ a := by unfold dm; rw [h]; exact fun q => by cases q
def fl (t : Nat) (ri : Nat → Int32) (rr : Nat → Nat) : List Value := match t with
  | 0 => [.ref (rr 0), .int (ri 1), .int (ri 2)]
  | 1 => [.ref (rr 0), .ref (rr 1), .ref (rr 2), .ref (rr 3), .ref (rr 4), .ref (rr 5), .int (ri 6), .int (ri 7), .int (ri 8), .int (ri 9), .int (ri 10), .int (ri 11)]
  | 2 => [.ref (rr 0), .ref (rr 1), .ref (rr 2), .ref (rr 3), .ref (rr 4), .int (ri 5), .int (ri 6), .int (ri 7), .int (ri 8), .int (ri 9), .int (ri 10), .int (ri 11)]
  | 3 => [.int (ri 0), .int (ri 1), .int (ri 2), .int (ri 3), .int (ri 4), .ref (rr 5), .ref (rr 6), .ref (rr 7)]
  | 4 => [.int (ri 0), .int (ri 1), .int (ri 2), .int (ri 3), .int (ri 4), .ref (rr 5), .ref (rr 6)]
  | 5 => [.ref (rr 0), .ref (rr 1), .ref (rr 2), .ref (rr 3), .int (ri 4), .int (ri 5), .int (ri 6), .int (ri 7), .int (ri 8), .int (ri 9), .int (ri 10)]
  | 6 => [.ref (rr 0), .ref (rr 1)]
  | 7 => [.ref (rr 0), .int (ri 1)]
  | 8 => [.int (ri 0), .int (ri 1), .int (ri 2), .int (ri 3)]
  | 9 => [.ref (rr 0), .ref (rr 1), .ref (rr 2), .ref (rr 3), .ref (rr 4), .int (ri 5)]
  | 10 => [.ref (rr 0), .ref (rr 1), .int (ri 2), .int (ri 3), .int (ri 4), .int (ri 5), .int (ri 6), .ref (rr 7), .ref (rr 8), .ref (rr 9), .ref (rr 10), .ref (rr 11), .int (ri 12), .int (ri 13), .int (ri 14), .int (ri 15), .int (ri 16), .int (ri 17), .int (ri 18), .int (ri 19), .int (ri 20), .ref (rr 21), .int (ri 22), .int (ri 23), .ref (rr 24), .ref (rr 25), .ref (rr 26), .ref (rr 27), .int (ri 28), .int (ri 29), .int (ri 30), .int (ri 31), .int (ri 32), .int (ri 33), .int (ri 34), .ref (rr 35), .ref (rr 36), .ref (rr 37)]
  | _ => []
/-- what a reference at a place of an object leads to: the number of its kind, its length -/
def ex (t k : Nat) : Option (Nat × Nat) := match t, k with
  | 0, 0 => some (11, 12000)
  | 1, 0 => some (0, 0)
  | 1, 1 => some (11, 4096)
  | 1, 2 => some (11, 4096)
  | 1, 3 => some (11, 4096)
  | 1, 4 => some (11, 4096)
  | 1, 5 => some (11, 4096)
  | 2, 0 => some (0, 0)
  | 2, 1 => some (11, 4096)
  | 2, 2 => some (11, 4096)
  | 2, 3 => some (11, 4096)
  | 2, 4 => some (11, 4096)
  | 3, 5 => some (7, 0)
  | 3, 6 => some (8, 0)
  | 3, 7 => some (11, 4096)
  | 4, 5 => some (7, 0)
  | 4, 6 => some (14, 24)
  | 5, 0 => some (0, 0)
  | 5, 1 => some (1, 0)
  | 5, 2 => some (8, 0)
  | 5, 3 => some (4, 0)
  | 6, 0 => some (2, 0)
  | 6, 1 => some (0, 0)
  | 7, 0 => some (11, 256)
  | 9, 0 => some (0, 0)
  | 9, 1 => some (5, 0)
  | 9, 2 => some (6, 0)
  | 9, 3 => some (4, 0)
  | 9, 4 => some (0, 0)
  | 10, 0 => some (12, 12020)
  | 10, 1 => some (12, 12020)
  | 10, 7 => some (11, 12)
  | 10, 8 => some (11, 512)
  | 10, 9 => some (11, 480)
  | 10, 10 => some (11, 12288)
  | 10, 11 => some (13, 196608)
  | 10, 21 => some (12, 12020)
  | 10, 24 => some (13, 4096)
  | 10, 25 => some (13, 4096)
  | 10, 26 => some (13, 4096)
  | 10, 27 => some (13, 4096)
  | 10, 35 => some (12, 256)
  | 10, 36 => some (13, 4096)
  | 10, 37 => some (13, 4096)
  | _, _ => none
def ce (cA : Nat → ClassId) (sh : Nat × Nat) (ri : Nat → Int32) (rr : Nat → Nat) : va_E :=
  if sh.1 = 11 then .inl (cA 0, sh.2, .inl ri) else if sh.1 = 12 then .inl (cA 1, sh.2, .inl ri) else if sh.1 = 13 then .inl (cA 2, sh.2, .inl ri)
  else if sh.1 = 14 then .inl (cA 3, sh.2, .inr (.inr (.inr (.inr (fun j => some (rr j)))))) else .inr (sh.1, fl sh.1 ri rr)
def cf (cA : Nat → ClassId) (σ : Sg) (μ : Mm) : Nat → va_E := fun a => ce cA ((σ a).getD (99, 0)) (μ.1 a) (μ.2 a)
/-- references hold what their places say -/
def WT (σ : Sg) (rr : Nat → Nat → Nat) : Prop := (∀ a t k sh, σ a = some (t, 0) → ex t k = some sh → σ (rr a k) = some sh) ∧ (∀ a n k, σ a = some (14, n) → k < n → σ (rr a k) = some (3, 0))
def MW (D : va_G) (cA : Nat → ClassId) (σ : Sg) (μ : Mm) (H : Heap) : Prop := WT σ μ.2 ∧ ∃ L : List Nat, (∀ a, a ∈ L ↔ dm σ a) ∧ va_P D vwCl (va_pl L (cf cA σ μ)) H ∧ va_D (dm σ) (va_pl L (cf cA σ μ))
theorem cf_at {cA : Nat → ClassId} {σ : Sg} {μ : Mm} {a : Nat} {sh : Nat × Nat} (h : σ a = some sh) : cf cA σ μ a = ce cA sh (μ.1 a) (μ.2 a) := by simp [cf, h]
theorem pl_at {cA : Nat → ClassId} {σ : Sg} {μ : Mm} {L : List Nat} (hL : ∀ a, a ∈ L ↔ dm σ a) {a : Nat} {sh : Nat × Nat} (h : σ a = some sh) : ∃ k : Nat, (va_pl L (cf cA σ μ))[k]? = some (a, ce cA sh (μ.1 a) (μ.2 a)) := by
  obtain ⟨k, hk⟩ := va_pl_get (X := []) (f := cf cA σ μ) ((hL a).mpr (dm_of h))
  rw [cf_at h] at hk
  exact ⟨k, hk⟩
theorem pl_set {cA : Nat → ClassId} {σ : Sg} {μ μ' : Mm} {L : List Nat} (hL : ∀ a, a ∈ L ↔ dm σ a) (hD : va_D (dm σ) (va_pl L (cf cA σ μ))) {a k : Nat} {sh : Nat × Nat} {e : va_E} (h : σ a = some sh) (hk : (va_pl L (cf cA σ μ))[k]? = some (a, ce cA sh (μ.1 a) (μ.2 a)))
    (he : e = ce cA sh (μ'.1 a) (μ'.2 a)) (ho : ∀ b, b ≠ a → μ'.1 b = μ.1 b ∧ μ'.2 b = μ.2 b) : (va_pl L (cf cA σ μ)).set k (a, e) = va_pl L (cf cA σ μ') := by
  have h1 := va_pl_set (X := []) (f := cf cA σ μ) (e := e) hD ((hL a).mpr (dm_of h)) (by rw [cf_at h]; exact hk)
  have h2 : va_up (cf cA σ μ) a e = cf cA σ μ' := by
    funext b
    by_cases hb : b = a
    · subst hb
      simp only [va_up, if_pos, cf_at h]
      exact he
    · simp only [va_up, if_neg hb, cf]
      rw [(ho b hb).1, (ho b hb).2]
  rw [h2] at h1
  exact h1
theorem u2_o {α : Type} {f : Nat → Nat → α} {a k : Nat} {v : α} {b : Nat} (h : b ≠ a) : u2 f a k v b = f b := by simp [u2, h]
theorem u2_s {α : Type} {f : Nat → Nat → α} {a k : Nat} {v : α} : u2 f a k v a = u1 (f a) k v := by simp [u2]
theorem s2_o {α : Type} {f : Nat → α} {a : Nat} {v : α} {b : Nat} (h : b ≠ a) : s2 f a v b = f b := by simp [s2, h]
theorem s2_s {α : Type} {f : Nat → α} {a : Nat} {v : α} : s2 f a v a = v := by simp [s2]
abbrev tyA (cA : Nat → ClassId) : List (ClassId × FieldType) := [(cA 0, .int), (cA 1, .byte), (cA 2, .short), (cA 3, .object RX3)]
/-- static arrays that nobody writes -/
def sT (k : Nat) : Nat → Int32 := fun j => match k with
  | 0 => ([71, 73, 70, 56, 57, 97] : List Int32).getD j 0
  | 1 => ([0, 4, 2, 1] : List Int32).getD j 0
  | _ => ([3, 3, 2, 1] : List Int32).getD j 0
abbrev nwF : Cond := .fieldLinkNest RX5 91 RX6 "START" "[I" RX9
abbrev nwM : Cond := .methodLinkNest RX5 100 yX9_isSide RX9
def Kx (D : va_G) (cA : Nat → ClassId) (tS : Nat → Nat) (σ : Sg) (U : State) : Prop :=
  va_K D vwCl (tyA cA) U ∧ va_Nw nwF U ∧ va_Nw nwM U ∧
  (va_Z RX6 "START" "[I" (.ref (tS 0)) (dm σ) U U.heap ∧ va_T .int (tS 0) 6 (fun j => .int (sT 0 j)) (dm σ) U U.heap) ∧
  (va_Z RX3 "PASS_STARTS" "[I" (.ref (tS 1)) (dm σ) U U.heap ∧ va_T .int (tS 1) 4 (fun j => .int (sT 1 j)) (dm σ) U U.heap) ∧
  (va_Z RX3 "PASS_SHIFTS" "[I" (.ref (tS 2)) (dm σ) U U.heap ∧ va_T .int (tS 2) 4 (fun j => .int (sT 2 j)) (dm σ) U U.heap)
theorem Kx.go {D : va_G} {cA : Nat → ClassId} {tS : Nat → Nat} {σ : Sg} {s U : State} {H : Heap} {locs : List Loc} (h : Kx D cA tS σ s) (hS : va_S (dm σ) s.heap H locs) (hU : U.heap = H) (hW : s.WarmedH U.vm) : Kx D cA tS σ U := by
  obtain ⟨h1, h2, h3, ⟨z0, t0⟩, ⟨z1, t1⟩, ⟨z2, t2⟩⟩ := h
  have hk := hS.2.1
  refine ⟨va_K.moved hW.alike h1, va_Nw.warmF hW h2, va_Nw.warmM hW h3, ⟨?_, ?_⟩, ⟨?_, ?_⟩, ⟨?_, ?_⟩⟩ <;> rw [hU]
  · exact (z0.kept hk).moved hW.alike
  · exact (t0.kept hk).moved hW.alike
  · exact (z1.kept hk).moved hW.alike
  · exact (t1.kept hk).moved hW.alike
  · exact (z2.kept hk).moved hW.alike
  · exact (t2.kept hk).moved hW.alike
theorem Kx.blind {D : va_G} {cA : Nat → ClassId} {tS : Nat → Nat} {σ : Sg} {U : State} (g : JFrame) (mk : MethodId) (a : Array Value) (h : Kx D cA tS σ U) : Kx D cA tS σ (U.calling g mk a) := by
  obtain ⟨h1, h2, h3, ⟨z0, t0⟩, ⟨z1, t1⟩, ⟨z2, t2⟩⟩ := h
  have al : U.vm.Alike (U.calling g mk a).vm := Vm.Alike.refl U.vm
  exact ⟨va_K.moved (u := U) al h1, va_Nw.same rfl rfl h2, va_Nw.same rfl rfl h3, ⟨va_Z.moved (u := U) al z0, va_T.moved (u := U) al t0⟩, ⟨va_Z.moved (u := U) al z1, va_T.moved (u := U) al t1⟩, ⟨va_Z.moved (u := U) al z2, va_T.moved (u := U) al t2⟩⟩
/-! a method's body: what stays the same, and what runs -/
def Cx (p : Program) (s : State) (m : MethodId) (args : Array Value) (meth : Method) (c : Code) (D : va_G) (cA : Nat → ClassId) (tS : Nat → Nat) (σ : Sg) (cc : ByteArray) (ret : Option FieldType) (nL : Nat) (own : String) : Prop :=
  p.tables.exec = Jvm.exec ∧ c.code = cc ∧ meth.sig.returnType = ret ∧ c.maxLocals = nL ∧ s.vm.findClass own = some m.cls ∧ (∀ w ∈ lw_big, w.before args s = true) ∧ meth.locks = false ∧ Kx D cA tS σ s
def GG (p : Program) (l : Launch) (e : Env) (R : Room) (s : State) (m : MethodId) (args : Array Value) (below : List Frame) (meth : Method) (c : Code) (D : va_G) (cA : Nat → ClassId) (σ : Sg) (nL : Nat) (Q : State → Prop) (pc : Nat) (lv : List (Nat × Value)) (st : List Value) (μ : Mm) : Prop :=
  ∀ (H : Heap) (locs : List Loc) (ls : Array Slot), MW D cA σ μ H → va_S (dm σ) s.heap H locs → lv_has ls nL lv → W p l e R s m args below meth c H locs 0 0 Q (F0 m pc ls st)
def PcM (D : va_G) (cA : Nat → ClassId) (tS : Nat → Nat) (σ : Sg) (As : List Value) (μ : Mm) : Array Value → State → Prop := va_Pc As (fun U => MW D cA σ μ U.heap ∧ Kx D cA tS σ U)
def Ct (l : Launch) (D : va_G) (cA : Nat → ClassId) (tS : Nat → Nat) (σ : Sg) (y : MethodName) (cc : ByteArray) (mL : Nat) (rt : Option FieldType) (rm : Room) (As : List Value) (μ : Mm) (Qc : Array Value → State → Outcome → State → Prop) : Prop :=
  Met l y (.code y cc mL rt :: lw_big) rm (PcM D cA tS σ As μ) Qc 0 0 (dm σ)
def QI (D : va_G) (cA : Nat → ClassId) (σ : Sg) (r : Int32) (μ : Mm) : Array Value → State → Outcome → State → Prop := va_Qi (fun (x : Int32) (_ : Unit) => x = r) (fun _ t => MW D cA σ μ t.heap) (dm σ)
def QV (D : va_G) (cA : Nat → ClassId) (σ : Sg) (μ : Mm) : Array Value → State → Outcome → State → Prop := va_Qv (fun (_ : Unit) => True) (fun _ t => MW D cA σ μ t.heap) (dm σ)
def QQ (D : va_G) (cA : Nat → ClassId) (σ : Sg) (r : Option Nat) (μ : Mm) : Array Value → State → Outcome → State → Prop := va_Qq (fun (x : Option Nat) (_ : Unit) => x = r) (fun _ t => MW D cA σ μ t.heap) (dm σ)
theorem PcM.blind {D : va_G} {cA : Nat → ClassId} {tS : Nat → Nat} {σ : Sg} {As : List Value} {μ : Mm} : FrameBlind (PcM D cA tS σ As μ) := fun a U g mk q => ⟨q.1, q.2.1, Kx.blind g mk a q.2.2⟩
theorem PcM.at {D : va_G} {cA : Nat → ClassId} {tS : Nat → Nat} {σ : Sg} {As : List Value} {μ : Mm} {s : State} {H : Heap} {locs : List Loc} (hM : MW D cA σ μ H) (hK : Kx D cA tS σ s) (hS : va_S (dm σ) s.heap H locs) : ∀ U : State, U.heap = H → s.WarmedH U.vm → PcM D cA tS σ As μ As.toArray U := fun U hU hW => ⟨rfl, by rw [hU]; exact hM, hK.go hS hU hW⟩
theorem Ct.of {l : Launch} {D : va_G} {cA : Nat → ClassId} {tS : Nat → Nat} {σ : Sg} {y : MethodName} {cc : ByteArray} {mL : Nat} {rt : Option FieldType} {rm : Room} {As : List Value} {μ : Mm} {Qc : Array Value → State → Outcome → State → Prop} (hy : plainName y.cls = true) (hn : (lg_sl As).length ≤ mL)
    (body : ∀ (p : Program) (e : Env) (s : State) (m : MethodId) (args : Array Value) (below : List Frame) (meth : Method) (c : Code), Cx p s m args meth c D cA tS σ cc rt mL y.cls → GG p l e rm s m args below meth c D cA σ mL (MQ below Qc args s 0 0 (dm σ)) 0 (lv_args 0 As) [] μ) : Ct l D cA tS σ y cc mL rt rm As μ Qc := by
  refine Met.ofW (cc := cc) (maxL := mL) (ret := rt) hy rfl ?_
  intro p e s m args below meth c s₁ B hml hv
  obtain ⟨rfl, hM, hK⟩ := hv
  have hts := atoms_spec (ws := .code y cc mL rt :: lw_big) B.pre
  have hown : s.vm.findClass y.cls = some m.cls := findClass_of_methodNamed B.named
  have hl := lv_entry As (n := mL) hn
  rw [lg_entry_eq]
  exact body p e s m As.toArray below meth c ⟨B.exec, B.bytes, B.returns, hml, hown, fun w h => hts w (List.mem_cons_of_mem _ h), B.notSynchronized, hK⟩ s.heap [] _ hM va_S.rf hl
end
section
section GR
variable {p : Program} {l : Launch} {e : Env} {R : Room} {s : State} {m : MethodId} {args : Array Value} {below : List Frame} {meth : Method} {c : Code} {D : va_G} {cA : Nat → ClassId} {tS : Nat → Nat} {σ : Sg} {cc : ByteArray} {ret : Option FieldType} {nL : Nat} {own : String} {Q : State → Prop} {pc : Nat} {lv : List (Nat × Value)} {st : List Value} {μ : Mm}
theorem g_wt (k : WT σ μ.2 → GG p l e R s m args below meth c D cA σ nL Q pc lv st μ) : GG p l e R s m args below meth c D cA σ nL Q pc lv st μ := fun H locs ls hM hS hl => k hM.1 H locs ls hM hS hl
theorem g_lv {lv' : List (Nat × Value)} (ks : List Nat) (hk : lv_pick lv ks = lv') (k : GG p l e R s m args below meth c D cA σ nL Q pc lv' st μ) : GG p l e R s m args below meth c D cA σ nL Q pc lv st μ := fun H locs ls hM hS hl => k H locs ls hM hS (lv_sub hl ks hk)
theorem g_iconst (C : Cx p s m args meth c D cA tS σ cc ret nL own) {n : Int} {v : Int32} (hd : decode cc pc = .ok (.iconst n, 1)) (hv : Int32.ofInt n = v) (k : GG p l e R s m args below meth c D cA σ nL Q (pc + 1) lv (.int v :: st) μ) : GG p l e R s m args below meth c D cA σ nL Q pc lv st μ := fun H locs ls hM hS hl => lv_iconst C.1 C.2.1 hd hv (k H locs ls hM hS hl)
theorem g_bipush (C : Cx p s m args meth c D cA tS σ cc ret nL own) {n : Int} {v : Int32} (hd : decode cc pc = .ok (.bipush n, 2)) (hv : (Int8.ofInt n).toInt32 = v) (k : GG p l e R s m args below meth c D cA σ nL Q (pc + 2) lv (.int v :: st) μ) : GG p l e R s m args below meth c D cA σ nL Q pc lv st μ := fun H locs ls hM hS hl => lv_bipush C.1 C.2.1 hd hv (k H locs ls hM hS hl)
theorem g_sipush (C : Cx p s m args meth c D cA tS σ cc ret nL own) {n : Int} {v : Int32} (hd : decode cc pc = .ok (.sipush n, 3)) (hv : (Int16.ofInt n).toInt32 = v) (k : GG p l e R s m args below meth c D cA σ nL Q (pc + 3) lv (.int v :: st) μ) : GG p l e R s m args below meth c D cA σ nL Q pc lv st μ := fun H locs ls hM hS hl => lv_sipush C.1 C.2.1 hd hv (k H locs ls hM hS hl)
theorem g_ldc (C : Cx p s m args meth c D cA tS σ cc ret nL own) {i : Nat} {v : Int32} (hd : decode cc pc = .ok (.ldc i, 2)) (hw : Cond.constant own i v ∈ lw_big) (k : GG p l e R s m args below meth c D cA σ nL Q (pc + 2) lv (.int v :: st) μ) : GG p l e R s m args below meth c D cA σ nL Q pc lv st μ := fun H locs ls hM hS hl => lv_ldc C.1 C.2.1 C.2.2.2.2.1 (C.2.2.2.2.2.1 _ hw) hd (k H locs ls hM hS hl)
theorem g_null (C : Cx p s m args meth c D cA tS σ cc ret nL own) (hd : decode cc pc = .ok (.aconst_null, 1)) (k : GG p l e R s m args below meth c D cA σ nL Q (pc + 1) lv (va_rf none :: st) μ) : GG p l e R s m args below meth c D cA σ nL Q pc lv st μ := fun H locs ls hM hS hl => lv_null C.1 C.2.1 hd (k H locs ls hM hS hl)
theorem g_iload (C : Cx p s m args meth c D cA tS σ cc ret nL own) {i : Nat} {x : Int32} (hd : decode cc pc = .ok (.iload i, 2)) (j : Nat) (hj : lv[j]? = some (i, .int x)) (k : GG p l e R s m args below meth c D cA σ nL Q (pc + 2) lv (.int x :: st) μ) : GG p l e R s m args below meth c D cA σ nL Q pc lv st μ := fun H locs ls hM hS hl => lv_iload C.1 C.2.1 hd (lv_at hl j hj) (k H locs ls hM hS hl)
theorem g_iload_n (C : Cx p s m args meth c D cA tS σ cc ret nL own) {k : Fin 4} {x : Int32} (hd : decode cc pc = .ok (.iload_n k, 1)) (j : Nat) (hj : lv[j]? = some ((k : Nat), .int x)) (k : GG p l e R s m args below meth c D cA σ nL Q (pc + 1) lv (.int x :: st) μ) : GG p l e R s m args below meth c D cA σ nL Q pc lv st μ := fun H locs ls hM hS hl => lv_iload_n C.1 C.2.1 hd rfl (lv_at hl j hj) (k H locs ls hM hS hl)
theorem g_aload (C : Cx p s m args meth c D cA tS σ cc ret nL own) {i : Nat} {x : Nat} (hd : decode cc pc = .ok (.aload i, 2)) (j : Nat) (hj : lv[j]? = some (i, .ref x)) (k : GG p l e R s m args below meth c D cA σ nL Q (pc + 2) lv (.ref x :: st) μ) : GG p l e R s m args below meth c D cA σ nL Q pc lv st μ := fun H locs ls hM hS hl => lv_aload C.1 C.2.1 hd (lv_at hl j hj) (k H locs ls hM hS hl)
theorem g_aload_n (C : Cx p s m args meth c D cA tS σ cc ret nL own) {k : Fin 4} {x : Nat} (hd : decode cc pc = .ok (.aload_n k, 1)) (j : Nat) (hj : lv[j]? = some ((k : Nat), .ref x)) (k : GG p l e R s m args below meth c D cA σ nL Q (pc + 1) lv (.ref x :: st) μ) : GG p l e R s m args below meth c D cA σ nL Q pc lv st μ := fun H locs ls hM hS hl => lv_aload_n C.1 C.2.1 hd rfl (lv_at hl j hj) (k H locs ls hM hS hl)
def lset (lv : List (Nat × Value)) (i : Nat) (v : Value) : List (Nat × Value) := (i, v) :: lv.filter (fun q => !(q.1 == i) && !(q.1 + 1 == i && q.2.category == 2))
theorem g_istore (C : Cx p s m args meth c D cA tS σ cc ret nL own) {i : Nat} {x : Int32} {lv' : List (Nat × Value)} (hd : decode cc pc = .ok (.istore i, 2)) (hn : i < nL) (hl' : lset lv i (.int x) = lv') (k : GG p l e R s m args below meth c D cA σ nL Q (pc + 2) lv' st μ) : GG p l e R s m args below meth c D cA σ nL Q pc lv (.int x :: st) μ := fun H locs ls hM hS hl => lv_istore C.1 C.2.1 hd hl hn hl' (fun ls' hl2 => k H locs ls' hM hS hl2)
theorem g_istore_n (C : Cx p s m args meth c D cA tS σ cc ret nL own) {k : Fin 4} {x : Int32} {lv' : List (Nat × Value)} (hd : decode cc pc = .ok (.istore_n k, 1)) (hn : (k : Nat) < nL) (hl' : lset lv (k : Nat) (.int x) = lv') (k : GG p l e R s m args below meth c D cA σ nL Q (pc + 1) lv' st μ) : GG p l e R s m args below meth c D cA σ nL Q pc lv (.int x :: st) μ := fun H locs ls hM hS hl => lv_istore_n C.1 C.2.1 hd rfl hl hn hl' (fun ls' hl2 => k H locs ls' hM hS hl2)
theorem g_astore (C : Cx p s m args meth c D cA tS σ cc ret nL own) {i : Nat} {x : Nat} {lv' : List (Nat × Value)} (hd : decode cc pc = .ok (.astore i, 2)) (hn : i < nL) (hl' : lset lv i (.ref x) = lv') (k : GG p l e R s m args below meth c D cA σ nL Q (pc + 2) lv' st μ) : GG p l e R s m args below meth c D cA σ nL Q pc lv (.ref x :: st) μ := fun H locs ls hM hS hl => lv_astore C.1 C.2.1 hd hl hn hl' (fun ls' hl2 => k H locs ls' hM hS hl2)
theorem g_astore_n (C : Cx p s m args meth c D cA tS σ cc ret nL own) {k : Fin 4} {x : Nat} {lv' : List (Nat × Value)} (hd : decode cc pc = .ok (.astore_n k, 1)) (hn : (k : Nat) < nL) (hl' : lset lv (k : Nat) (.ref x) = lv') (k : GG p l e R s m args below meth c D cA σ nL Q (pc + 1) lv' st μ) : GG p l e R s m args below meth c D cA σ nL Q pc lv (.ref x :: st) μ := fun H locs ls hM hS hl => lv_astore_n C.1 C.2.1 hd rfl hl hn hl' (fun ls' hl2 => k H locs ls' hM hS hl2)
theorem g_iinc (C : Cx p s m args meth c D cA tS σ cc ret nL own) {i : Nat} {n : Int} {x v : Int32} {lv' : List (Nat × Value)} (hd : decode cc pc = .ok (.iinc i n, 3)) (hn : i < nL) (j : Nat) (hj : lv[j]? = some (i, .int x)) (w : Int32) (hw : Int32.ofInt n = w) (hv : x + w = v) (hl' : lset lv i (.int v) = lv') (k : GG p l e R s m args below meth c D cA σ nL Q (pc + 3) lv' st μ) : GG p l e R s m args below meth c D cA σ nL Q pc lv st μ := fun H locs ls hM hS hl => lv_iinc C.1 C.2.1 hd hl hj (by rw [hw]; exact hv) hn hl' (fun ls' hl2 => k H locs ls' hM hS hl2)
theorem g_dup (C : Cx p s m args meth c D cA tS σ cc ret nL own) {v : Value} (hd : decode cc pc = .ok (.dup, 1)) (hc : v.category = 1) (k : GG p l e R s m args below meth c D cA σ nL Q (pc + 1) lv (v :: v :: st) μ) : GG p l e R s m args below meth c D cA σ nL Q pc lv (v :: st) μ := fun H locs ls hM hS hl => lv_dup C.1 C.2.1 hd hc (k H locs ls hM hS hl)
theorem g_pop (C : Cx p s m args meth c D cA tS σ cc ret nL own) {v : Value} (hd : decode cc pc = .ok (.pop, 1)) (hc : v.category = 1) (k : GG p l e R s m args below meth c D cA σ nL Q (pc + 1) lv st μ) : GG p l e R s m args below meth c D cA σ nL Q pc lv (v :: st) μ := fun H locs ls hM hS hl => lv_pop C.1 C.2.1 hd hc (k H locs ls hM hS hl)
theorem g_iadd (C : Cx p s m args meth c D cA tS σ cc ret nL own) {x y : Int32} (hd : decode cc pc = .ok (.iadd, 1)) (k : GG p l e R s m args below meth c D cA σ nL Q (pc + 1) lv (.int (x + y) :: st) μ) : GG p l e R s m args below meth c D cA σ nL Q pc lv (.int y :: .int x :: st) μ := fun H locs ls hM hS hl => lv_iadd C.1 C.2.1 hd (k H locs ls hM hS hl)
theorem g_isub (C : Cx p s m args meth c D cA tS σ cc ret nL own) {x y : Int32} (hd : decode cc pc = .ok (.isub, 1)) (k : GG p l e R s m args below meth c D cA σ nL Q (pc + 1) lv (.int (x - y) :: st) μ) : GG p l e R s m args below meth c D cA σ nL Q pc lv (.int y :: .int x :: st) μ := fun H locs ls hM hS hl => lv_isub C.1 C.2.1 hd (k H locs ls hM hS hl)
theorem g_imul (C : Cx p s m args meth c D cA tS σ cc ret nL own) {x y : Int32} (hd : decode cc pc = .ok (.imul, 1)) (k : GG p l e R s m args below meth c D cA σ nL Q (pc + 1) lv (.int (x * y) :: st) μ) : GG p l e R s m args below meth c D cA σ nL Q pc lv (.int y :: .int x :: st) μ := fun H locs ls hM hS hl => lv_imul C.1 C.2.1 hd (k H locs ls hM hS hl)
theorem g_iand (C : Cx p s m args meth c D cA tS σ cc ret nL own) {x y : Int32} (hd : decode cc pc = .ok (.iand, 1)) (k : GG p l e R s m args below meth c D cA σ nL Q (pc + 1) lv (.int (x &&& y) :: st) μ) : GG p l e R s m args below meth c D cA σ nL Q pc lv (.int y :: .int x :: st) μ := fun H locs ls hM hS hl => lv_iand C.1 C.2.1 hd (k H locs ls hM hS hl)
theorem g_ior (C : Cx p s m args meth c D cA tS σ cc ret nL own) {x y : Int32} (hd : decode cc pc = .ok (.ior, 1)) (k : GG p l e R s m args below meth c D cA σ nL Q (pc + 1) lv (.int (x ||| y) :: st) μ) : GG p l e R s m args below meth c D cA σ nL Q pc lv (.int y :: .int x :: st) μ := fun H locs ls hM hS hl => lv_ior C.1 C.2.1 hd (k H locs ls hM hS hl)
theorem g_ixor (C : Cx p s m args meth c D cA tS σ cc ret nL own) {x y : Int32} (hd : decode cc pc = .ok (.ixor, 1)) (k : GG p l e R s m args below meth c D cA σ nL Q (pc + 1) lv (.int (x ^^^ y) :: st) μ) : GG p l e R s m args below meth c D cA σ nL Q pc lv (.int y :: .int x :: st) μ := fun H locs ls hM hS hl => lv_ixor C.1 C.2.1 hd (k H locs ls hM hS hl)
theorem g_ishl (C : Cx p s m args meth c D cA tS σ cc ret nL own) {x y : Int32} (hd : decode cc pc = .ok (.ishl, 1)) (k : GG p l e R s m args below meth c D cA σ nL Q (pc + 1) lv (.int (x <<< (y &&& 31)) :: st) μ) : GG p l e R s m args below meth c D cA σ nL Q pc lv (.int y :: .int x :: st) μ := fun H locs ls hM hS hl => lv_ishl C.1 C.2.1 hd (k H locs ls hM hS hl)
theorem g_ishr (C : Cx p s m args meth c D cA tS σ cc ret nL own) {x y : Int32} (hd : decode cc pc = .ok (.ishr, 1)) (k : GG p l e R s m args below meth c D cA σ nL Q (pc + 1) lv (.int (x >>> (y &&& 31)) :: st) μ) : GG p l e R s m args below meth c D cA σ nL Q pc lv (.int y :: .int x :: st) μ := fun H locs ls hM hS hl => lv_ishr C.1 C.2.1 hd (k H locs ls hM hS hl)
theorem g_idiv (C : Cx p s m args meth c D cA tS σ cc ret nL own) {x y : Int32} (hd : decode cc pc = .ok (.idiv, 1)) (hne : ¬ y = 0) (k : GG p l e R s m args below meth c D cA σ nL Q (pc + 1) lv (.int (x / y) :: st) μ) : GG p l e R s m args below meth c D cA σ nL Q pc lv (.int y :: .int x :: st) μ := fun H locs ls hM hS hl => lv_idiv C.1 C.2.1 hd hne (k H locs ls hM hS hl)
theorem g_irem (C : Cx p s m args meth c D cA tS σ cc ret nL own) {x y : Int32} (hd : decode cc pc = .ok (.irem, 1)) (hne : ¬ y = 0) (k : GG p l e R s m args below meth c D cA σ nL Q (pc + 1) lv (.int (x - x / y * y) :: st) μ) : GG p l e R s m args below meth c D cA σ nL Q pc lv (.int y :: .int x :: st) μ := fun H locs ls hM hS hl => lv_irem C.1 C.2.1 hd hne (k H locs ls hM hS hl)
theorem g_iushr (C : Cx p s m args meth c D cA tS σ cc ret nL own) {x y : Int32} (hd : decode cc pc = .ok (.iushr, 1)) (k : GG p l e R s m args below meth c D cA σ nL Q (pc + 1) lv (.int ((x.toUInt32 >>> (y.toUInt32 &&& Int32.toUInt32 31)).toInt32) :: st) μ) : GG p l e R s m args below meth c D cA σ nL Q pc lv (.int y :: .int x :: st) μ := fun H locs ls hM hS hl => lv_iushr C.1 C.2.1 hd rfl (k H locs ls hM hS hl)
theorem g_i2b (C : Cx p s m args meth c D cA tS σ cc ret nL own) {x : Int32} (hd : decode cc pc = .ok (.i2b, 1)) (k : GG p l e R s m args below meth c D cA σ nL Q (pc + 1) lv (.int x.toInt8.toInt32 :: st) μ) : GG p l e R s m args below meth c D cA σ nL Q pc lv (.int x :: st) μ := fun H locs ls hM hS hl => lv_i2b C.1 C.2.1 hd rfl (k H locs ls hM hS hl)
theorem g_i2s (C : Cx p s m args meth c D cA tS σ cc ret nL own) {x : Int32} (hd : decode cc pc = .ok (.i2s, 1)) (k : GG p l e R s m args below meth c D cA σ nL Q (pc + 1) lv (.int x.toInt16.toInt32 :: st) μ) : GG p l e R s m args below meth c D cA σ nL Q pc lv (.int x :: st) μ := fun H locs ls hM hS hl => lv_i2s C.1 C.2.1 hd rfl (k H locs ls hM hS hl)
theorem g_if_eq (C : Cx p s m args meth c D cA tS σ cc ret nL own) {x : Int32} {off : Int} (tgt : Nat) (hd : decode cc pc = .ok (.ifCond .eq off, 3)) (ht : (pc : Int) + off = (tgt : Int)) (kt : x = 0 → GG p l e R s m args below meth c D cA σ nL Q tgt lv st μ) (kf : ¬ x = 0 → GG p l e R s m args below meth c D cA σ nL Q (pc + 3) lv st μ) : GG p l e R s m args below meth c D cA σ nL Q pc lv (.int x :: st) μ := fun H locs ls hM hS hl => lv_if_eq C.1 C.2.1 hd ht (fun q => kt q H locs ls hM hS hl) (fun q => kf q H locs ls hM hS hl)
theorem g_icmp_eq (C : Cx p s m args meth c D cA tS σ cc ret nL own) {x y : Int32} {off : Int} (tgt : Nat) (hd : decode cc pc = .ok (.if_icmp .eq off, 3)) (ht : (pc : Int) + off = (tgt : Int)) (kt : x = y → GG p l e R s m args below meth c D cA σ nL Q tgt lv st μ) (kf : ¬ x = y → GG p l e R s m args below meth c D cA σ nL Q (pc + 3) lv st μ) : GG p l e R s m args below meth c D cA σ nL Q pc lv (.int y :: .int x :: st) μ := fun H locs ls hM hS hl => lv_icmp_eq C.1 C.2.1 hd ht (fun q => kt q H locs ls hM hS hl) (fun q => kf q H locs ls hM hS hl)
theorem g_if_ne (C : Cx p s m args meth c D cA tS σ cc ret nL own) {x : Int32} {off : Int} (tgt : Nat) (hd : decode cc pc = .ok (.ifCond .ne off, 3)) (ht : (pc : Int) + off = (tgt : Int)) (kt : ¬ x = 0 → GG p l e R s m args below meth c D cA σ nL Q tgt lv st μ) (kf : x = 0 → GG p l e R s m args below meth c D cA σ nL Q (pc + 3) lv st μ) : GG p l e R s m args below meth c D cA σ nL Q pc lv (.int x :: st) μ := fun H locs ls hM hS hl => lv_if_ne C.1 C.2.1 hd ht (fun q => kt q H locs ls hM hS hl) (fun q => kf q H locs ls hM hS hl)
theorem g_icmp_ne (C : Cx p s m args meth c D cA tS σ cc ret nL own) {x y : Int32} {off : Int} (tgt : Nat) (hd : decode cc pc = .ok (.if_icmp .ne off, 3)) (ht : (pc : Int) + off = (tgt : Int)) (kt : ¬ x = y → GG p l e R s m args below meth c D cA σ nL Q tgt lv st μ) (kf : x = y → GG p l e R s m args below meth c D cA σ nL Q (pc + 3) lv st μ) : GG p l e R s m args below meth c D cA σ nL Q pc lv (.int y :: .int x :: st) μ := fun H locs ls hM hS hl => lv_icmp_ne C.1 C.2.1 hd ht (fun q => kt q H locs ls hM hS hl) (fun q => kf q H locs ls hM hS hl)
theorem g_if_lt (C : Cx p s m args meth c D cA tS σ cc ret nL own) {x : Int32} {off : Int} (tgt : Nat) (hd : decode cc pc = .ok (.ifCond .lt off, 3)) (ht : (pc : Int) + off = (tgt : Int)) (kt : x < 0 → GG p l e R s m args below meth c D cA σ nL Q tgt lv st μ) (kf : ¬ x < 0 → GG p l e R s m args below meth c D cA σ nL Q (pc + 3) lv st μ) : GG p l e R s m args below meth c D cA σ nL Q pc lv (.int x :: st) μ := fun H locs ls hM hS hl => lv_if_lt C.1 C.2.1 hd ht (fun q => kt q H locs ls hM hS hl) (fun q => kf q H locs ls hM hS hl)
theorem g_icmp_lt (C : Cx p s m args meth c D cA tS σ cc ret nL own) {x y : Int32} {off : Int} (tgt : Nat) (hd : decode cc pc = .ok (.if_icmp .lt off, 3)) (ht : (pc : Int) + off = (tgt : Int)) (kt : x < y → GG p l e R s m args below meth c D cA σ nL Q tgt lv st μ) (kf : ¬ x < y → GG p l e R s m args below meth c D cA σ nL Q (pc + 3) lv st μ) : GG p l e R s m args below meth c D cA σ nL Q pc lv (.int y :: .int x :: st) μ := fun H locs ls hM hS hl => lv_icmp_lt C.1 C.2.1 hd ht (fun q => kt q H locs ls hM hS hl) (fun q => kf q H locs ls hM hS hl)
theorem g_if_ge (C : Cx p s m args meth c D cA tS σ cc ret nL own) {x : Int32} {off : Int} (tgt : Nat) (hd : decode cc pc = .ok (.ifCond .ge off, 3)) (ht : (pc : Int) + off = (tgt : Int)) (kt : 0 ≤ x → GG p l e R s m args below meth c D cA σ nL Q tgt lv st μ) (kf : ¬ 0 ≤ x → GG p l e R s m args below meth c D cA σ nL Q (pc + 3) lv st μ) : GG p l e R s m args below meth c D cA σ nL Q pc lv (.int x :: st) μ := fun H locs ls hM hS hl => lv_if_ge C.1 C.2.1 hd ht (fun q => kt q H locs ls hM hS hl) (fun q => kf q H locs ls hM hS hl)
theorem g_icmp_ge (C : Cx p s m args meth c D cA tS σ cc ret nL own) {x y : Int32} {off : Int} (tgt : Nat) (hd : decode cc pc = .ok (.if_icmp .ge off, 3)) (ht : (pc : Int) + off = (tgt : Int)) (kt : y ≤ x → GG p l e R s m args below meth c D cA σ nL Q tgt lv st μ) (kf : ¬ y ≤ x → GG p l e R s m args below meth c D cA σ nL Q (pc + 3) lv st μ) : GG p l e R s m args below meth c D cA σ nL Q pc lv (.int y :: .int x :: st) μ := fun H locs ls hM hS hl => lv_icmp_ge C.1 C.2.1 hd ht (fun q => kt q H locs ls hM hS hl) (fun q => kf q H locs ls hM hS hl)
theorem g_if_gt (C : Cx p s m args meth c D cA tS σ cc ret nL own) {x : Int32} {off : Int} (tgt : Nat) (hd : decode cc pc = .ok (.ifCond .gt off, 3)) (ht : (pc : Int) + off = (tgt : Int)) (kt : 0 < x → GG p l e R s m args below meth c D cA σ nL Q tgt lv st μ) (kf : ¬ 0 < x → GG p l e R s m args below meth c D cA σ nL Q (pc + 3) lv st μ) : GG p l e R s m args below meth c D cA σ nL Q pc lv (.int x :: st) μ := fun H locs ls hM hS hl => lv_if_gt C.1 C.2.1 hd ht (fun q => kt q H locs ls hM hS hl) (fun q => kf q H locs ls hM hS hl)
theorem g_icmp_gt (C : Cx p s m args meth c D cA tS σ cc ret nL own) {x y : Int32} {off : Int} (tgt : Nat) (hd : decode cc pc = .ok (.if_icmp .gt off, 3)) (ht : (pc : Int) + off = (tgt : Int)) (kt : y < x → GG p l e R s m args below meth c D cA σ nL Q tgt lv st μ) (kf : ¬ y < x → GG p l e R s m args below meth c D cA σ nL Q (pc + 3) lv st μ) : GG p l e R s m args below meth c D cA σ nL Q pc lv (.int y :: .int x :: st) μ := fun H locs ls hM hS hl => lv_icmp_gt C.1 C.2.1 hd ht (fun q => kt q H locs ls hM hS hl) (fun q => kf q H locs ls hM hS hl)
theorem g_if_le (C : Cx p s m args meth c D cA tS σ cc ret nL own) {x : Int32} {off : Int} (tgt : Nat) (hd : decode cc pc = .ok (.ifCond .le off, 3)) (ht : (pc : Int) + off = (tgt : Int)) (kt : x ≤ 0 → GG p l e R s m args below meth c D cA σ nL Q tgt lv st μ) (kf : ¬ x ≤ 0 → GG p l e R s m args below meth c D cA σ nL Q (pc + 3) lv st μ) : GG p l e R s m args below meth c D cA σ nL Q pc lv (.int x :: st) μ := fun H locs ls hM hS hl => lv_if_le C.1 C.2.1 hd ht (fun q => kt q H locs ls hM hS hl) (fun q => kf q H locs ls hM hS hl)
theorem g_icmp_le (C : Cx p s m args meth c D cA tS σ cc ret nL own) {x y : Int32} {off : Int} (tgt : Nat) (hd : decode cc pc = .ok (.if_icmp .le off, 3)) (ht : (pc : Int) + off = (tgt : Int)) (kt : x ≤ y → GG p l e R s m args below meth c D cA σ nL Q tgt lv st μ) (kf : ¬ x ≤ y → GG p l e R s m args below meth c D cA σ nL Q (pc + 3) lv st μ) : GG p l e R s m args below meth c D cA σ nL Q pc lv (.int y :: .int x :: st) μ := fun H locs ls hM hS hl => lv_icmp_le C.1 C.2.1 hd ht (fun q => kt q H locs ls hM hS hl) (fun q => kf q H locs ls hM hS hl)
theorem g_goto (C : Cx p s m args meth c D cA tS σ cc ret nL own) {off : Int} (tgt : Nat) (hd : decode cc pc = .ok (.goto off, 3)) (ht : (pc : Int) + off = (tgt : Int)) (k : GG p l e R s m args below meth c D cA σ nL Q tgt lv st μ) : GG p l e R s m args below meth c D cA σ nL Q pc lv st μ := fun H locs ls hM hS hl => lv_goto C.1 C.2.1 hd ht (k H locs ls hM hS hl)
theorem g_ifnull (C : Cx p s m args meth c D cA tS σ cc ret nL own) {x : Nat} {off : Int} (hd : decode cc pc = .ok (.ifnull off, 3)) (k : GG p l e R s m args below meth c D cA σ nL Q (pc + 3) lv st μ) : GG p l e R s m args below meth c D cA σ nL Q pc lv (.ref x :: st) μ := fun H locs ls hM hS hl => lv_ifnull C.1 C.2.1 hd (k H locs ls hM hS hl)
theorem g_ifnullN (C : Cx p s m args meth c D cA tS σ cc ret nL own) {off : Int} (tgt : Nat) (hd : decode cc pc = .ok (.ifnull off, 3)) (ht : (pc : Int) + off = (tgt : Int)) (k : GG p l e R s m args below meth c D cA σ nL Q tgt lv st μ) : GG p l e R s m args below meth c D cA σ nL Q pc lv (va_rf none :: st) μ := fun H locs ls hM hS hl => lv_ifnullN C.1 C.2.1 hd ht (k H locs ls hM hS hl)
theorem g_ifnonnull (C : Cx p s m args meth c D cA tS σ cc ret nL own) {x : Nat} {off : Int} (tgt : Nat) (hd : decode cc pc = .ok (.ifnonnull off, 3)) (ht : (pc : Int) + off = (tgt : Int)) (k : GG p l e R s m args below meth c D cA σ nL Q tgt lv st μ) : GG p l e R s m args below meth c D cA σ nL Q pc lv (.ref x :: st) μ := fun H locs ls hM hS hl => lv_ifnonnull C.1 C.2.1 hd ht (k H locs ls hM hS hl)
theorem g_ifnonnullN (C : Cx p s m args meth c D cA tS σ cc ret nL own) {off : Int} (hd : decode cc pc = .ok (.ifnonnull off, 3)) (k : GG p l e R s m args below meth c D cA σ nL Q (pc + 3) lv st μ) : GG p l e R s m args below meth c D cA σ nL Q pc lv (va_rf none :: st) μ := fun H locs ls hM hS hl => lv_ifnonnullN C.1 C.2.1 hd (k H locs ls hM hS hl)
theorem sw_in {x : Int32} {v : Int32} {n : Int} (h : x = v) (hv : v.toInt = n) : x.toInt = n := by rw [h]; exact hv
/-- a table switch: the case is known -/
theorem g_tabIn (C : Cx p s m args meth c D cA tS σ cc ret nL own) {dflt lo hi : Int} {offs : Array Int} {len : Nat} {x : Int32} {off : Int} (tgt : Nat) (n : Int) (hd : decode cc pc = .ok (.tableswitch dflt lo hi offs, len)) (hx : x.toInt = n) (h1 : ¬ n < lo) (h2 : ¬ hi < n) (ho : offs[(n - lo).toNat]? = some off) (ht : (pc : Int) + off = (tgt : Int)) (k : GG p l e R s m args below meth c D cA σ nL Q tgt lv st μ) : GG p l e R s m args below meth c D cA σ nL Q pc lv (.int x :: st) μ := fun H locs ls hM hS hl => lv_tableIn C.1 C.2.1 hd (by rw [hx]; exact h1) (by rw [hx]; exact h2) (by rw [hx]; exact ho) ht (k H locs ls hM hS hl)
theorem g_tabOut (C : Cx p s m args meth c D cA tS σ cc ret nL own) {dflt lo hi : Int} {offs : Array Int} {len : Nat} {x : Int32} (tgt : Nat) (hd : decode cc pc = .ok (.tableswitch dflt lo hi offs, len)) (hx : x.toInt < lo ∨ hi < x.toInt) (ht : (pc : Int) + dflt = (tgt : Int)) (k : GG p l e R s m args below meth c D cA σ nL Q tgt lv st μ) : GG p l e R s m args below meth c D cA σ nL Q pc lv (.int x :: st) μ := fun H locs ls hM hS hl => lv_tableOut C.1 C.2.1 hd hx ht (k H locs ls hM hS hl)
theorem g_look (C : Cx p s m args meth c D cA tS σ cc ret nL own) {dflt : Int} {ps : Array (Int × Int)} {len : Nat} {x : Int32} {off : Int} (tgt : Nat) (hd : decode cc pc = .ok (.lookupswitch dflt ps, len)) (hp : (ps.toList.zip (ps.toList.drop 1)).all (fun (a, next) => a.1 < next.1) = true) (ho : Op.lookupswitch.offset ps.toList dflt x.toInt = off) (ht : (pc : Int) + off = (tgt : Int)) (k : GG p l e R s m args below meth c D cA σ nL Q tgt lv st μ) : GG p l e R s m args below meth c D cA σ nL Q pc lv (.int x :: st) μ := fun H locs ls hM hS hl => lv_lookup C.1 C.2.1 hd hp ho ht (k H locs ls hM hS hl)
/-! fields -/
theorem g_geti (C : Cx p s m args meth c D cA tS σ cc ret nL own) {a t N ix j : Nat} {ref fn fd Cn : String} {T : u_T} (ha : σ a = some (t, 0)) (ht : t < 11) (hc : vwCl[t]? = some (Cn, T, N)) (hu : ∀ w ∈ u_ws Cn T N, w ∈ lw_big) (hj : j < N) (hf : T j = (ref, fn, fd, (T j).2.2.2)) (hw : Cond.fieldLink own ix ref fn fd ∈ lw_big) (hv : (fl t (μ.1 a) (μ.2 a))[j]? = some (.int (μ.1 a j))) (hd : decode cc pc = .ok (.getfield ix, 3))
    (k : GG p l e R s m args below meth c D cA σ nL Q (pc + 3) lv (.int (μ.1 a j) :: st) μ) : GG p l e R s m args below meth c D cA σ nL Q pc lv (.ref a :: st) μ := by
  intro H locs ls hM hS hl
  obtain ⟨hT, L, hL, hP, hD⟩ := id hM
  obtain ⟨q, hq⟩ := pl_at (cA := cA) (μ := μ) hL ha
  have he : ce cA (t, 0) (μ.1 a) (μ.2 a) = .inr (t, fl t (μ.1 a) (μ.2 a)) := by simp only [ce]; rw [if_neg (by omega), if_neg (by omega), if_neg (by omega), if_neg (by omega)]
  rw [he] at hq
  refine va_get (ref := ref) C.1 C.2.1 C.2.2.2.2.2.1 hu C.2.2.2.2.1 C.2.2.2.2.2.2.2.1 hP q hq hc j hj (C.2.2.2.2.2.1 _ ?_) (fun x hx => ?_) hv hd (k H locs ls hM hS hl)
  · rw [hf]; exact hw
  · rw [hf] at hx ⊢; exact hx
theorem g_getr (C : Cx p s m args meth c D cA tS σ cc ret nL own) {a t N ix j : Nat} {ref fn fd Cn : String} {T : u_T} (ha : σ a = some (t, 0)) (ht : t < 11) (hc : vwCl[t]? = some (Cn, T, N)) (hu : ∀ w ∈ u_ws Cn T N, w ∈ lw_big) (hj : j < N) (hf : T j = (ref, fn, fd, (T j).2.2.2)) (hw : Cond.fieldLink own ix ref fn fd ∈ lw_big) (hv : (fl t (μ.1 a) (μ.2 a))[j]? = some (.ref (μ.2 a j))) (hd : decode cc pc = .ok (.getfield ix, 3))
    (k : GG p l e R s m args below meth c D cA σ nL Q (pc + 3) lv (.ref (μ.2 a j) :: st) μ) : GG p l e R s m args below meth c D cA σ nL Q pc lv (.ref a :: st) μ := by
  intro H locs ls hM hS hl
  obtain ⟨hT, L, hL, hP, hD⟩ := id hM
  obtain ⟨q, hq⟩ := pl_at (cA := cA) (μ := μ) hL ha
  have he : ce cA (t, 0) (μ.1 a) (μ.2 a) = .inr (t, fl t (μ.1 a) (μ.2 a)) := by simp only [ce]; rw [if_neg (by omega), if_neg (by omega), if_neg (by omega), if_neg (by omega)]
  rw [he] at hq
  refine va_get (ref := ref) C.1 C.2.1 C.2.2.2.2.2.1 hu C.2.2.2.2.1 C.2.2.2.2.2.2.2.1 hP q hq hc j hj (C.2.2.2.2.2.1 _ ?_) (fun x hx => ?_) hv hd (k H locs ls hM hS hl)
  · rw [hf]; exact hw
  · rw [hf] at hx ⊢; exact hx
theorem g_puti (C : Cx p s m args meth c D cA tS σ cc ret nL own) {a t N ix j : Nat} {v : Int32} {ref fn fd Cn : String} {T : u_T} {ty0 : Nat → FieldType} {ty : FieldType} (ha : σ a = some (t, 0)) (ht : t < 11) (hc : vwCl[t]? = some (Cn, T, N)) (hu : ∀ w ∈ u_ws Cn T N, w ∈ lw_big) (hty : ∀ k, k < N → parseFieldDescriptor (T k).2.2.1 = some (ty0 k)) (hnm : ∀ a, a < N → ∀ b, b < N → a ≠ b → (T a).2.1 ≠ (T b).2.1) (hj : j < N) (hf : T j = (ref, fn, fd, false)) (hw : Cond.fieldLink own ix ref fn fd ∈ lw_big) (hp : ty0 j = ty) (hn : narrow ty (.int v) = .int v) (hfit : fits ty (.int v) = true) (hs : ∀ ri rr, (fl t ri rr).set j (.int v) = fl t (u1 ri j v) rr) (hlen : ∀ ri rr, j < (fl t ri rr).length) (hd : decode cc pc = .ok (.putfield ix, 3))
    (k : GG p l e R s m args below meth c D cA σ nL Q (pc + 3) lv st (si μ a j v)) : GG p l e R s m args below meth c D cA σ nL Q pc lv (.int v :: .ref a :: st) μ := by
  intro H locs ls hM hS hl
  obtain ⟨hT, L, hL, hP, hD⟩ := hM
  obtain ⟨q, hq⟩ := pl_at (cA := cA) (μ := μ) hL ha
  have he : ∀ ri rr, ce cA (t, 0) ri rr = .inr (t, fl t ri rr) := fun ri rr => by simp only [ce]; rw [if_neg (by omega), if_neg (by omega), if_neg (by omega), if_neg (by omega)]
  have hset := pl_set (μ' := si μ a j v) (e := .inr (t, (fl t (μ.1 a) (μ.2 a)).set j (.int v))) hL hD ha hq (by rw [he, hs]; simp only [si, u2_s]) (fun b hb => ⟨by simp only [si]; exact u2_o hb, rfl⟩)
  rw [he] at hq
  refine va_put (ref := ref) C.1 C.2.1 C.2.2.2.2.2.1 hu ty0 hty hnm C.2.2.2.2.1 C.2.2.2.2.2.2.2.1 hP hD hS q hq hc j hj (C.2.2.2.2.2.1 _ ?_) (fun x hx => ?_) (by rw [hf]) (by rw [hty j hj, hp]) hn hfit (hlen _ _) hd (fun H1 locs1 hP1 hD1 hS1 => ?_)
  · rw [hf]; exact hw
  · rw [hf] at hx ⊢; exact hx
  · rw [hset] at hP1 hD1
    exact k H1 locs1 ls ⟨hT, L, hL, hP1, hD1⟩ hS1 hl
theorem g_putr (C : Cx p s m args meth c D cA tS σ cc ret nL own) {a t N ix j v : Nat} {sh : Nat × Nat} {ref fn fd Cn : String} {T : u_T} {ty0 : Nat → FieldType} {ty : FieldType} (ha : σ a = some (t, 0)) (ht : t < 11) (hx : ex t j = some sh) (hsv : σ v = some sh) (hc : vwCl[t]? = some (Cn, T, N)) (hu : ∀ w ∈ u_ws Cn T N, w ∈ lw_big) (hty : ∀ k, k < N → parseFieldDescriptor (T k).2.2.1 = some (ty0 k)) (hnm : ∀ a, a < N → ∀ b, b < N → a ≠ b → (T a).2.1 ≠ (T b).2.1) (hj : j < N) (hf : T j = (ref, fn, fd, false)) (hw : Cond.fieldLink own ix ref fn fd ∈ lw_big) (hp : ty0 j = ty) (hn : narrow ty (.ref v) = .ref v) (hfit : fits ty (.ref v) = true) (hs : ∀ ri rr, (fl t ri rr).set j (.ref v) = fl t ri (u1 rr j v)) (hlen : ∀ ri rr, j < (fl t ri rr).length) (hd : decode cc pc = .ok (.putfield ix, 3))
    (k : GG p l e R s m args below meth c D cA σ nL Q (pc + 3) lv st (sr μ a j v)) : GG p l e R s m args below meth c D cA σ nL Q pc lv (.ref v :: .ref a :: st) μ := by
  intro H locs ls hM hS hl
  obtain ⟨hT, L, hL, hP, hD⟩ := hM
  obtain ⟨q, hq⟩ := pl_at (cA := cA) (μ := μ) hL ha
  have he : ∀ ri rr, ce cA (t, 0) ri rr = .inr (t, fl t ri rr) := fun ri rr => by simp only [ce]; rw [if_neg (by omega), if_neg (by omega), if_neg (by omega), if_neg (by omega)]
  have hset := pl_set (μ' := sr μ a j v) (e := .inr (t, (fl t (μ.1 a) (μ.2 a)).set j (.ref v))) hL hD ha hq (by rw [he, hs]; simp only [sr, u2_s]) (fun b hb => ⟨rfl, by simp only [sr]; exact u2_o hb⟩)
  rw [he] at hq
  refine va_put (ref := ref) C.1 C.2.1 C.2.2.2.2.2.1 hu ty0 hty hnm C.2.2.2.2.1 C.2.2.2.2.2.2.2.1 hP hD hS q hq hc j hj (C.2.2.2.2.2.1 _ ?_) (fun x hx => ?_) (by rw [hf]) (by rw [hty j hj, hp]) hn hfit (hlen _ _) hd (fun H1 locs1 hP1 hD1 hS1 => ?_)
  · rw [hf]; exact hw
  · rw [hf] at hx ⊢; exact hx
  · rw [hset] at hP1 hD1
    refine k H1 locs1 ls ⟨⟨fun b t' j' sh' h1 h2 => ?_, fun b n j' h1 h2 => ?_⟩, L, hL, hP1, hD1⟩ hS1 hl
    · show σ (u2 μ.2 a j v b j') = some sh'
      by_cases hb : b = a
      · subst hb
        rw [ha] at h1
        cases h1
        rw [u2_s]
        by_cases hjj : j' = j
        · subst hjj
          rw [hx] at h2
          cases h2
          simpa [u1] using hsv
        · simpa [u1, hjj] using hT.1 b _ j' sh' ha h2
      · rw [u2_o hb]
        exact hT.1 b t' j' sh' h1 h2
    · show σ (u2 μ.2 a j v b j') = some (3, 0)
      have hb : b ≠ a := fun h => by subst h; rw [ha] at h1; cases h1; omega
      rw [u2_o hb]
      exact hT.2 b n j' h1 h2
/-! arrays -/
theorem g_iald (C : Cx p s m args meth c D cA tS σ cc ret nL own) {a n : Nat} {i : Int32} (ha : σ a = some (11, n)) (hin : vp_in i n) (hd : decode cc pc = .ok (.iaload, 1)) (k : GG p l e R s m args below meth c D cA σ nL Q (pc + 1) lv (.int (μ.1 a i.toNatClampNeg) :: st) μ) : GG p l e R s m args below meth c D cA σ nL Q pc lv (.int i :: .ref a :: st) μ := by
  intro H locs ls hM hS hl
  obtain ⟨hT, L, hL, hP, hD⟩ := id hM
  obtain ⟨q, hq⟩ := pl_at (cA := cA) (μ := μ) hL ha
  exact va_iald C.1 C.2.1 C.2.2.2.2.2.2.2.1 hP q 0 (f := μ.1 a) hq rfl hin hd (k H locs ls hM hS hl)
theorem g_iast (C : Cx p s m args meth c D cA tS σ cc ret nL own) {a n : Nat} {i x : Int32} (ha : σ a = some (11, n)) (hin : vp_in i n) (hd : decode cc pc = .ok (.iastore, 1)) (k : GG p l e R s m args below meth c D cA σ nL Q (pc + 1) lv st (si μ a i.toNatClampNeg (x))) : GG p l e R s m args below meth c D cA σ nL Q pc lv (.int x :: .int i :: .ref a :: st) μ := by
  intro H locs ls hM hS hl
  obtain ⟨hT, L, hL, hP, hD⟩ := hM
  obtain ⟨q, hq⟩ := pl_at (cA := cA) (μ := μ) hL ha
  have hset := pl_set (μ' := si μ a i.toNatClampNeg (x)) (e := .inl (cA 0, n, .inl (upd (μ.1 a) i.toNatClampNeg (x)))) hL hD ha hq (by simp only [si, u2_s]; rfl) (fun b hb => ⟨by simp only [si]; exact u2_o hb, rfl⟩)
  refine va_iast C.1 C.2.1 C.2.2.2.2.2.2.2.1 hP hD hS q 0 (f := μ.1 a) hq rfl hin hd (fun H1 locs1 hP1 hD1 hS1 => ?_)
  rw [hset] at hP1 hD1
  exact k H1 locs1 ls ⟨hT, L, hL, hP1, hD1⟩ hS1 hl
theorem g_bald (C : Cx p s m args meth c D cA tS σ cc ret nL own) {a n : Nat} {i : Int32} (ha : σ a = some (12, n)) (hin : vp_in i n) (hd : decode cc pc = .ok (.baload, 1)) (k : GG p l e R s m args below meth c D cA σ nL Q (pc + 1) lv (.int (μ.1 a i.toNatClampNeg) :: st) μ) : GG p l e R s m args below meth c D cA σ nL Q pc lv (.int i :: .ref a :: st) μ := by
  intro H locs ls hM hS hl
  obtain ⟨hT, L, hL, hP, hD⟩ := id hM
  obtain ⟨q, hq⟩ := pl_at (cA := cA) (μ := μ) hL ha
  exact va_bald C.1 C.2.1 C.2.2.2.2.2.2.2.1 hP q 1 (f := μ.1 a) hq rfl hin hd (k H locs ls hM hS hl)
theorem g_bast (C : Cx p s m args meth c D cA tS σ cc ret nL own) {a n : Nat} {i x : Int32} (ha : σ a = some (12, n)) (hin : vp_in i n) (hd : decode cc pc = .ok (.bastore, 1)) (k : GG p l e R s m args below meth c D cA σ nL Q (pc + 1) lv st (si μ a i.toNatClampNeg (vp_nar .byte x))) : GG p l e R s m args below meth c D cA σ nL Q pc lv (.int x :: .int i :: .ref a :: st) μ := by
  intro H locs ls hM hS hl
  obtain ⟨hT, L, hL, hP, hD⟩ := hM
  obtain ⟨q, hq⟩ := pl_at (cA := cA) (μ := μ) hL ha
  have hset := pl_set (μ' := si μ a i.toNatClampNeg (vp_nar .byte x)) (e := .inl (cA 1, n, .inl (upd (μ.1 a) i.toNatClampNeg (vp_nar .byte x)))) hL hD ha hq (by simp only [si, u2_s]; rfl) (fun b hb => ⟨by simp only [si]; exact u2_o hb, rfl⟩)
  refine va_bast C.1 C.2.1 C.2.2.2.2.2.2.2.1 hP hD hS q 1 (f := μ.1 a) hq rfl hin hd (fun H1 locs1 hP1 hD1 hS1 => ?_)
  rw [hset] at hP1 hD1
  exact k H1 locs1 ls ⟨hT, L, hL, hP1, hD1⟩ hS1 hl
theorem g_shald (C : Cx p s m args meth c D cA tS σ cc ret nL own) {a n : Nat} {i : Int32} (ha : σ a = some (13, n)) (hin : vp_in i n) (hd : decode cc pc = .ok (.saload, 1)) (k : GG p l e R s m args below meth c D cA σ nL Q (pc + 1) lv (.int (μ.1 a i.toNatClampNeg) :: st) μ) : GG p l e R s m args below meth c D cA σ nL Q pc lv (.int i :: .ref a :: st) μ := by
  intro H locs ls hM hS hl
  obtain ⟨hT, L, hL, hP, hD⟩ := id hM
  obtain ⟨q, hq⟩ := pl_at (cA := cA) (μ := μ) hL ha
  exact va_sald C.1 C.2.1 C.2.2.2.2.2.2.2.1 hP q 2 (f := μ.1 a) hq rfl hin hd (k H locs ls hM hS hl)
theorem g_shast (C : Cx p s m args meth c D cA tS σ cc ret nL own) {a n : Nat} {i x : Int32} (ha : σ a = some (13, n)) (hin : vp_in i n) (hd : decode cc pc = .ok (.sastore, 1)) (k : GG p l e R s m args below meth c D cA σ nL Q (pc + 1) lv st (si μ a i.toNatClampNeg (vp_nar .short x))) : GG p l e R s m args below meth c D cA σ nL Q pc lv (.int x :: .int i :: .ref a :: st) μ := by
  intro H locs ls hM hS hl
  obtain ⟨hT, L, hL, hP, hD⟩ := hM
  obtain ⟨q, hq⟩ := pl_at (cA := cA) (μ := μ) hL ha
  have hset := pl_set (μ' := si μ a i.toNatClampNeg (vp_nar .short x)) (e := .inl (cA 2, n, .inl (upd (μ.1 a) i.toNatClampNeg (vp_nar .short x)))) hL hD ha hq (by simp only [si, u2_s]; rfl) (fun b hb => ⟨by simp only [si]; exact u2_o hb, rfl⟩)
  refine va_sast C.1 C.2.1 C.2.2.2.2.2.2.2.1 hP hD hS q 2 (f := μ.1 a) hq rfl hin hd (fun H1 locs1 hP1 hD1 hS1 => ?_)
  rw [hset] at hP1 hD1
  exact k H1 locs1 ls ⟨hT, L, hL, hP1, hD1⟩ hS1 hl
theorem g_aald (C : Cx p s m args meth c D cA tS σ cc ret nL own) {a n : Nat} {i : Int32} (ha : σ a = some (14, n)) (hin : vp_in i n) (hd : decode cc pc = .ok (.aaload, 1)) (k : GG p l e R s m args below meth c D cA σ nL Q (pc + 1) lv (.ref (μ.2 a i.toNatClampNeg) :: st) μ) : GG p l e R s m args below meth c D cA σ nL Q pc lv (.int i :: .ref a :: st) μ := by
  intro H locs ls hM hS hl
  obtain ⟨hT, L, hL, hP, hD⟩ := id hM
  obtain ⟨q, hq⟩ := pl_at (cA := cA) (μ := μ) hL ha
  exact va_aldq C.1 C.2.1 C.2.2.2.2.2.2.2.1 hP q 3 (f := fun j => some (μ.2 a j)) hq rfl hin hd (k H locs ls hM hS hl)
/-- static arrays -/
theorem g_gets {x : Nat} {Cn fn : String} (C : Cx p s m args meth c D cA tS σ cc ret nL own) {ix : Nat} (hZ : Kx D cA tS σ s → va_Z Cn fn "[I" (.ref (tS x)) (dm σ) s s.heap) (hw : Cond.fieldLink own ix Cn fn "[I" ∈ lw_big) (hd : decode cc pc = .ok (.getstatic ix, 3)) (k : GG p l e R s m args below meth c D cA σ nL Q (pc + 3) lv (.ref (tS x) :: st) μ) : GG p l e R s m args below meth c D cA σ nL Q pc lv st μ := fun H locs ls hM hS hl => va_gets C.1 C.2.1 (hZ C.2.2.2.2.2.2.2) hS C.2.2.2.2.1 (C.2.2.2.2.2.1 _ hw) (fun _ h => h) hd (k H locs ls hM hS hl)
theorem g_slen {x n : Nat} (C : Cx p s m args meth c D cA tS σ cc ret nL own) {v : Int32} (hZ : Kx D cA tS σ s → va_T .int (tS x) n (fun j => .int (sT x j)) (dm σ) s s.heap) (hv : Int32.ofNat n = v) (hd : decode cc pc = .ok (.arraylength, 1)) (k : GG p l e R s m args below meth c D cA σ nL Q (pc + 1) lv (.int v :: st) μ) : GG p l e R s m args below meth c D cA σ nL Q pc lv (.ref (tS x) :: st) μ := fun H locs ls hM hS hl => va_tlen C.1 C.2.1 (hZ C.2.2.2.2.2.2.2) hS hv hd (k H locs ls hM hS hl)
theorem g_sald {x n : Nat} (C : Cx p s m args meth c D cA tS σ cc ret nL own) {i : Int32} (hZ : Kx D cA tS σ s → va_T .int (tS x) n (fun j => .int (sT x j)) (dm σ) s s.heap) (hin : vp_in i n) (hd : decode cc pc = .ok (.iaload, 1)) (k : GG p l e R s m args below meth c D cA σ nL Q (pc + 1) lv (.int (sT x i.toNatClampNeg) :: st) μ) : GG p l e R s m args below meth c D cA σ nL Q pc lv (.int i :: .ref (tS x) :: st) μ := fun H locs ls hM hS hl => va_ti C.1 C.2.1 (hZ C.2.2.2.2.2.2.2) hS hin rfl hd (k H locs ls hM hS hl)
/-! ends -/
theorem g_ireturn {r : Int32} {μ' : Mm} (C : Cx p s m args meth c D cA tS σ cc (some .int) nL own) (hr : r = r) (hd : decode cc pc = .ok (.ireturn, 1)) : GG p l e R s m args below meth c D cA σ nL (MQ below (QI D cA σ r μ') args s 0 0 (dm σ)) pc lv [.int r] μ' := fun H locs ls hM hS hl => W.iret (hlocks := C.2.2.2.2.2.2.1) C.1 C.2.1 C.2.2.1 (fun t ht hW => ⟨⟨r, (), rfl, rfl, by show MW D cA σ μ' t.heap; rw [ht]; exact hM⟩, hS.F ht⟩) hS.2.2 hd
theorem g_zreturn {r : Int32} {μ' : Mm} (C : Cx p s m args meth c D cA tS σ cc (some .boolean) nL own) (hr : narrow .boolean (.int r) = .int r) (hd : decode cc pc = .ok (.ireturn, 1)) : GG p l e R s m args below meth c D cA σ nL (MQ below (QI D cA σ r μ') args s 0 0 (dm σ)) pc lv [.int r] μ' := fun H locs ls hM hS hl => W.zret (hlocks := C.2.2.2.2.2.2.1) C.1 C.2.1 C.2.2.1 hr (fun t ht hW => ⟨⟨r, (), rfl, rfl, by show MW D cA σ μ' t.heap; rw [ht]; exact hM⟩, hS.F ht⟩) hS.2.2 hd
theorem g_return {μ' : Mm} (C : Cx p s m args meth c D cA tS σ cc none nL own) (hd : decode cc pc = .ok (.return_, 1)) : GG p l e R s m args below meth c D cA σ nL (MQ below (QV D cA σ μ') args s 0 0 (dm σ)) pc lv [] μ' := fun H locs ls hM hS hl => W.vret (hlocks := C.2.2.2.2.2.2.1) C.1 C.2.1 C.2.2.1 (fun t ht hW => ⟨⟨(), rfl, trivial, by show MW D cA σ μ' t.heap; rw [ht]; exact hM⟩, hS.F ht⟩) hS.2.2 hd
end GR
end
section
def lt' {α β : Type} (e : α) (f : α → β) : β := f e
theorem nm {α β : Type} {e : α} {f : α → β} {r : β} (h : lt' e f = r) : ∃ x, x = e ∧ f x = r := ⟨e, rfl, h⟩
theorem ip {α : Type} {c : Prop} {d : Decidable c} {a b r : α} (q : c) (h : @ite α c d a b = r) : a = r := by rw [if_pos q] at h; exact h
theorem iq {α : Type} {c : Prop} {d : Decidable c} {a b r : α} (q : ¬ c) (h : @ite α c d a b = r) : b = r := by rw [if_neg q] at h; exact h
def gd {α : Type} (b : Bool) (x : Option α) : Option α := if b = true then x else none
theorem gs {α : Type} {b : Bool} {x : Option α} {r : α} (h : gd b x = some r) : b = true ∧ x = some r := by
  unfold gd at h
  split at h
  · exact ⟨by assumption, h⟩
  · cases h
def bd {α β : Type} (x : Option α) (f : α → Option β) : Option β := match x with
  | none => none
  | some y => f y
theorem bs {α β : Type} {x : Option α} {f : α → Option β} {r : β} (h : bd x f = some r) : ∃ y, x = some y ∧ f y = some r := by
  cases x with
  | none => cases h
  | some y => exact ⟨y, rfl, h⟩
def oc {α : Type} (x : Option Nat) (a : α) (b : Nat → α) : α := match x with
  | none => a
  | some y => b y
theorem oc0 {α : Type} {a : α} {b : Nat → α} {r : α} (h : oc none a b = r) : a = r := h
theorem oc1 {α : Type} {y : Nat} {a : α} {b : Nat → α} {r : α} (h : oc (some y) a b = r) : b y = r := h
def ib (i : Int32) (n : Nat) : Bool := !(decide (i < 0)) && decide (i.toNatClampNeg < n)
theorem ib_in {i : Int32} {n : Nat} (h : ib i n = true) : vp_in i n := by
  simp only [ib, Bool.and_eq_true, Bool.not_eq_true', decide_eq_false_iff_not, decide_eq_true_eq] at h
  rintro (q | q)
  · exact h.1 q
  · omega
theorem ib_lt {i : Int32} {n : Nat} (h : ib i n = true) : i.toNatClampNeg < n := by
  simp only [ib, Bool.and_eq_true, decide_eq_true_eq] at h
  exact h.2
def nz (x : Int32) : Bool := !(decide (x = 0))
theorem nz_ne {x : Int32} (h : nz x = true) : ¬ x = 0 := by simpa [nz] using h
def b01 (x : Int32) : Bool := decide (x = 0) || decide (x = 1)
theorem b01_n {x : Int32} (h : b01 x = true) : narrow .boolean (.int x) = .int x ∧ fits .boolean (.int x) = true := by
  simp only [b01, Bool.or_eq_true, decide_eq_true_eq] at h
  rcases h with rfl | rfl <;> exact ⟨rfl, rfl⟩
def cpk (sp dp n : Int32) (n0 n1 : Nat) : Bool := !(decide (sp < 0)) && !(decide (dp < 0)) && !(decide (n < 0)) && decide (sp.toNatClampNeg + n.toNatClampNeg ≤ n0) && decide (dp.toNatClampNeg + n.toNatClampNeg ≤ n1)
def rmO (f lo : Nat) : Room := { frames := f, cells := 0, slots := 0, locals := lo }
def MI (y : MethodName) (bytes : ByteArray) (mL : Nat) (rt : Option FieldType) (Cn : String) (n : Nat) : Prop :=
  Cond.code y bytes mL rt ∈ lw_big ∧ Cond.instanceMethod y ∈ lw_big ∧ Cond.selects Cn y y ∈ lw_big ∧ Cond.initialized Cn ∈ lw_big ∧ (y.cls = Cn ∧ y.cls ≠ "java/lang/invoke/MethodHandle" ∧ y.cls ≠ "java/lang/invoke/VarHandle" ∧ (parseMethodDescriptor y.desc).map (fun d => d.parameters.length) = some n)
def MS (y : MethodName) (bytes : ByteArray) (mL : Nat) (rt : Option FieldType) (n : Nat) : Prop :=
  Cond.code y bytes mL rt ∈ lw_big ∧ Cond.static y ∈ lw_big ∧ Cond.initialized y.cls ∈ lw_big ∧ (y.cls ≠ "java/lang/invoke/MethodHandle" ∧ y.cls ≠ "java/lang/invoke/VarHandle" ∧ (parseMethodDescriptor y.desc).map (fun d => d.parameters.length) = some n)
def QR (D : va_G) (cA : Nat → ClassId) (σ : Sg) (sh : Nat × Nat) (r : Option Nat) (μ : Mm) : Array Value → State → Outcome → State → Prop := va_Qq (fun (x : Option Nat) (_ : Unit) => x = r ∧ ∀ b, r = some b → σ b = some sh) (fun _ t => MW D cA σ μ t.heap) (dm σ)
section GC
variable {p : Program} {l : Launch} {e : Env} {R : Room} {s : State} {m : MethodId} {args : Array Value} {below : List Frame} {meth : Method} {c : Code} {D : va_G} {cA : Nat → ClassId} {tS : Nat → Nat} {σ : Sg} {cc : ByteArray} {ret : Option FieldType} {nL : Nat} {own : String} {Q : State → Prop} {pc : Nat} {lv : List (Nat × Value)} {st : List Value} {μ : Mm}
theorem g_topi {x v : Int32} (hx : x = v) (k : GG p l e R s m args below meth c D cA σ nL Q pc lv (.int x :: st) μ) : GG p l e R s m args below meth c D cA σ nL Q pc lv (.int v :: st) μ := by subst hx; exact k
theorem g_topr {x v : Nat} (hx : x = v) (k : GG p l e R s m args below meth c D cA σ nL Q pc lv (.ref x :: st) μ) : GG p l e R s m args below meth c D cA σ nL Q pc lv (.ref v :: st) μ := by subst hx; exact k
theorem g_top2r {x v : Nat} {w : Value} (hx : x = v) (k : GG p l e R s m args below meth c D cA σ nL Q pc lv (w :: .ref x :: st) μ) : GG p l e R s m args below meth c D cA σ nL Q pc lv (w :: .ref v :: st) μ := by subst hx; exact k
theorem g_topq {x v : Option Nat} (hx : x = v) (k : GG p l e R s m args below meth c D cA σ nL Q pc lv (va_rf x :: st) μ) : GG p l e R s m args below meth c D cA σ nL Q pc lv (va_rf v :: st) μ := by subst hx; exact k
theorem g_mu {μ1 μ2 : Mm} (hx : μ1 = μ2) (k : GG p l e R s m args below meth c D cA σ nL Q pc lv st μ1) : GG p l e R s m args below meth c D cA σ nL Q pc lv st μ2 := by subst hx; exact k
theorem g_aload_nq (C : Cx p s m args meth c D cA tS σ cc ret nL own) {k : Fin 4} {x : Option Nat} (hd : decode cc pc = .ok (.aload_n k, 1)) (j : Nat) (hj : lv[j]? = some ((k : Nat), va_rf x)) (k : GG p l e R s m args below meth c D cA σ nL Q (pc + 1) lv (va_rf x :: st) μ) : GG p l e R s m args below meth c D cA σ nL Q pc lv st μ := fun H locs ls hM hS hl => by
  cases x with
  | none => exact lv_aload_nN C.1 C.2.1 hd rfl (lv_at hl j hj) (k H locs ls hM hS hl)
  | some y => exact lv_aload_n C.1 C.2.1 hd rfl (lv_at hl j hj) (k H locs ls hM hS hl)
theorem g_aloadq (C : Cx p s m args meth c D cA tS σ cc ret nL own) {i : Nat} {x : Option Nat} (hd : decode cc pc = .ok (.aload i, 2)) (j : Nat) (hj : lv[j]? = some (i, va_rf x)) (k : GG p l e R s m args below meth c D cA σ nL Q (pc + 2) lv (va_rf x :: st) μ) : GG p l e R s m args below meth c D cA σ nL Q pc lv st μ := fun H locs ls hM hS hl => by
  cases x with
  | none => exact lv_aloadN C.1 C.2.1 hd (lv_at hl j hj) (k H locs ls hM hS hl)
  | some y => exact lv_aload C.1 C.2.1 hd (lv_at hl j hj) (k H locs ls hM hS hl)
theorem g_astore_nq (C : Cx p s m args meth c D cA tS σ cc ret nL own) {k : Fin 4} {x : Option Nat} {lv' : List (Nat × Value)} (hd : decode cc pc = .ok (.astore_n k, 1)) (hn : (k : Nat) < nL) (hl' : lset lv (k : Nat) (va_rf x) = lv') (k : GG p l e R s m args below meth c D cA σ nL Q (pc + 1) lv' st μ) : GG p l e R s m args below meth c D cA σ nL Q pc lv (va_rf x :: st) μ := fun H locs ls hM hS hl => by
  cases x with
  | none => exact lv_astore_nN C.1 C.2.1 hd rfl hl hn hl' (fun ls' hl2 => k H locs ls' hM hS hl2)
  | some y => exact lv_astore_n C.1 C.2.1 hd rfl hl hn hl' (fun ls' hl2 => k H locs ls' hM hS hl2)
theorem g_astoreq (C : Cx p s m args meth c D cA tS σ cc ret nL own) {i : Nat} {x : Option Nat} {lv' : List (Nat × Value)} (hd : decode cc pc = .ok (.astore i, 2)) (hn : i < nL) (hl' : lset lv i (va_rf x) = lv') (k : GG p l e R s m args below meth c D cA σ nL Q (pc + 2) lv' st μ) : GG p l e R s m args below meth c D cA σ nL Q pc lv (va_rf x :: st) μ := fun H locs ls hM hS hl => by
  cases x with
  | none => exact lv_astoreN C.1 C.2.1 hd hl hn hl' (fun ls' hl2 => k H locs ls' hM hS hl2)
  | some y => exact lv_astore C.1 C.2.1 hd hl hn hl' (fun ls' hl2 => k H locs ls' hM hS hl2)
theorem g_dup2 (C : Cx p s m args meth c D cA tS σ cc ret nL own) {v w : Value} (hd : decode cc pc = .ok (.dup2, 1)) (hv : v.category = 1) (hw : w.category = 1) (k : GG p l e R s m args below meth c D cA σ nL Q (pc + 1) lv (v :: w :: v :: w :: st) μ) : GG p l e R s m args below meth c D cA σ nL Q pc lv (v :: w :: st) μ := fun H locs ls hM hS hl => lv_dup2_11 C.1 C.2.1 hd hv hw (k H locs ls hM hS hl)
theorem g_areturn {r : Option Nat} {μ' : Mm} {sh : Nat × Nat} {rt : FieldType} (C : Cx p s m args meth c D cA tS σ cc (some rt) nL own) (hrt : (∃ n, rt = .object n) ∨ ∃ t, rt = .array t) (hr : ∀ b, r = some b → σ b = some sh) (hd : decode cc pc = .ok (.areturn, 1)) : GG p l e R s m args below meth c D cA σ nL (MQ below (QR D cA σ sh r μ') args s 0 0 (dm σ)) pc lv [va_rf r] μ' := fun H locs ls hM hS hl => W.aret (hlocks := C.2.2.2.2.2.2.1) C.1 C.2.1 C.2.2.1 hrt (va_rf_or r) (fun t ht hW => ⟨⟨r, (), rfl, ⟨rfl, hr⟩, by show MW D cA σ μ' t.heap; rw [ht]; exact hM⟩, hS.F ht⟩) hS.2.2 hd
theorem g_ldc_w (C : Cx p s m args meth c D cA tS σ cc ret nL own) {i : Nat} {v : Int32} (hd : decode cc pc = .ok (.ldc_w i, 3)) (hw : Cond.constant own i v ∈ lw_big) (k : GG p l e R s m args below meth c D cA σ nL Q (pc + 3) lv (.int v :: st) μ) : GG p l e R s m args below meth c D cA σ nL Q pc lv st μ := fun H locs ls hM hS hl => lv_ldcw C.1 C.2.1 C.2.2.2.2.1 (C.2.2.2.2.2.1 _ hw) hd (k H locs ls hM hS hl)
theorem g_getsN {x : Nat} {Cn fn host : String} (C : Cx p s m args meth c D cA tS σ cc ret nL own) {ix : Nat} (hZ : Kx D cA tS σ s → va_Z Cn fn "[I" (.ref (tS x)) (dm σ) s s.heap) (hw : Kx D cA tS σ s → va_Nw (.fieldLinkNest own ix Cn fn "[I" host) s) (hd : decode cc pc = .ok (.getstatic ix, 3)) (k : GG p l e R s m args below meth c D cA σ nL Q (pc + 3) lv (.ref (tS x) :: st) μ) : GG p l e R s m args below meth c D cA σ nL Q pc lv st μ := fun H locs ls hM hS hl => va_getsN C.1 C.2.1 (hZ C.2.2.2.2.2.2.2) hS C.2.2.2.2.1 (va_Nw.use rfl (hw C.2.2.2.2.2.2.2)) (fun _ h => h) hd (k H locs ls hM hS hl)
theorem goodV {ix : Nat} {y : MethodName} {Cn : String} {bytes : ByteArray} {mL n : Nat} {rt : Option FieldType} (hm : MI y bytes mL rt Cn n) (hlk : Cond.methodLink own ix y ∈ lw_big) : GoodIn lw_big (wsV own ix Cn y (.code y bytes mL rt :: lw_big)) := by
  have key : ∀ w, w ∈ lw_big → w ∈ lw_big ∧ ((w.onTables && w.keeps) = true ∨ ∃ ty, w = .arrayClass ty) := fun w h => ⟨h, big_good h⟩
  intro w hw
  simp only [wsV, List.mem_append, List.mem_cons, List.not_mem_nil, or_false] at hw
  rcases hw with (rfl | rfl | rfl | rfl) | (rfl | h)
  · exact key _ hlk
  · exact key _ hm.2.1
  · exact key _ hm.2.2.1
  · exact key _ hm.2.2.2.1
  · exact key _ hm.1
  · exact key _ h
theorem goodS {ix : Nat} {y : MethodName} {bytes : ByteArray} {mL n : Nat} {rt : Option FieldType} (hm : MS y bytes mL rt n) (hlk : Cond.methodLink own ix y ∈ lw_big) : GoodIn lw_big (va_wsS own ix y (.code y bytes mL rt :: lw_big)) := by
  have key : ∀ w, w ∈ lw_big → w ∈ lw_big ∧ ((w.onTables && w.keeps) = true ∨ ∃ ty, w = .arrayClass ty) := fun w h => ⟨h, big_good h⟩
  intro w hw
  simp only [va_wsS, List.mem_append, List.mem_cons, List.not_mem_nil, or_false] at hw
  rcases hw with (rfl | rfl | rfl) | (rfl | h)
  · exact key _ hlk
  · exact key _ hm.2.1
  · exact key _ hm.2.2.1
  · exact key _ hm.1
  · exact key _ h
variable {y : MethodName} {bytes : ByteArray} {mL n ix b t N f lo : Nat} {rt : Option FieldType} {As rest : List Value} {Qc : Array Value → State → Outcome → State → Prop} {Cn : String} {T : u_T} {μ' : Mm}
theorem g_runV (C : Cx p s m args meth c D cA tS σ cc ret nL own) (hc : Ct l D cA tS σ y bytes mL rt (rmO f lo) (.ref b :: As) μ Qc) (hm : MI y bytes mL rt Cn n) (hlk : Cond.methodLink own ix y ∈ lw_big) (hb : σ b = some (t, 0)) (ht : t < 11) (hcl : vwCl[t]? = some (Cn, T, N)) (hn : As.length = n) (hst : st = As.reverse ++ .ref b :: rest) (hw8 : (rest.map fun v => v.category).sum ≤ 8) (hd : decode cc pc = .ok (.invokevirtual ix, 3)) (hR : f + 1 ≤ R.frames ∧ 8 + (mL + 11) + lo ≤ R.locals) {H : Heap} {locs : List Loc} {ls : Array Slot} (hM : MW D cA σ μ H) (hS : va_S (dm σ) s.heap H locs) (hl : lv_has ls nL lv) :
    va_Run p l e R s m args below meth c H locs 0 0 0 0 (F0 m pc ls st) rest (Qc (Value.ref b :: As).toArray) (dm σ) := by
  obtain ⟨hT, L, hL, hP, hD⟩ := id hM
  obtain ⟨q, hq⟩ := pl_at (cA := cA) (μ := μ) hL hb
  have he : ce cA (t, 0) (μ.1 b) (μ.2 b) = .inr (t, fl t (μ.1 b) (μ.2 b)) := by simp only [ce]; rw [if_neg (by omega), if_neg (by omega), if_neg (by omega), if_neg (by omega)]
  rw [he] at hq
  exact va_runV (g := F0 m pc ls st) (As := As) ⟨C.1, C.2.1, C.2.2.2.1, C.2.2.2.2.1, C.2.2.2.2.2.1⟩ hc (cwV n C.2.2.2.2.2.1 (goodV hm hlk) rfl rfl rfl hm.2.2.2.2 hR) ⟨PcM.blind, va_recv C.2.2.2.2.2.2.2.1 hP hcl hq, PcM.at hM C.2.2.2.2.2.2.2 hS⟩ rfl hn hl.1 hst (lv_room hw8) hd ⟨Nat.zero_le _, Nat.zero_le _⟩
theorem g_runS (C : Cx p s m args meth c D cA tS σ cc ret nL own) (hc : Ct l D cA tS σ y bytes mL rt (rmO f lo) As μ Qc) (hm : MS y bytes mL rt n) (hlk : Cond.methodLink own ix y ∈ lw_big) (hn : As.length = n) (hst : st = As.reverse ++ rest) (hw8 : (rest.map fun v => v.category).sum ≤ 8) (hd : decode cc pc = .ok (.invokestatic ix, 3)) (hR : f + 1 ≤ R.frames ∧ 8 + (mL + 11) + lo ≤ R.locals) {H : Heap} {locs : List Loc} {ls : Array Slot} (hM : MW D cA σ μ H) (hS : va_S (dm σ) s.heap H locs) (hl : lv_has ls nL lv) :
    va_Run p l e R s m args below meth c H locs 0 0 0 0 (F0 m pc ls st) rest (Qc As.toArray) (dm σ) :=
  va_runS (g := F0 m pc ls st) (As := As) ⟨C.1, C.2.1, C.2.2.2.1, C.2.2.2.2.1, C.2.2.2.2.2.1⟩ hc (va_cwS n C.2.2.2.2.2.1 (goodS hm hlk) rfl rfl rfl hm.2.2.2 hR) ⟨PcM.blind, PcM.at hM C.2.2.2.2.2.2.2 hS⟩ rfl hn hl.1 hst (lv_room hw8) hd ⟨Nat.zero_le _, Nat.zero_le _⟩
theorem g_runN {host : String} (C : Cx p s m args meth c D cA tS σ cc ret nL own) (hc : Ct l D cA tS σ y bytes mL rt (rmO f lo) As μ Qc) (hm : MS y bytes mL rt n) (hlk : Kx D cA tS σ s → va_Nw (.methodLinkNest own ix y host) s) (hn : As.length = n) (hst : st = As.reverse ++ rest) (hw8 : (rest.map fun v => v.category).sum ≤ 8) (hd : decode cc pc = .ok (.invokestatic ix, 3)) (hR : f + 1 ≤ R.frames ∧ 8 + (mL + 11) + lo ≤ R.locals) {H : Heap} {locs : List Loc} {ls : Array Slot} (hM : MW D cA σ μ H) (hS : va_S (dm σ) s.heap H locs) (hl : lv_has ls nL lv) :
    va_Run p l e R s m args below meth c H locs 0 0 0 0 (F0 m pc ls st) rest (Qc As.toArray) (dm σ) :=
  va_runSN (g := F0 m pc ls st) (As := As) (host := host) ⟨C.1, C.2.1, C.2.2.2.1, C.2.2.2.2.1, C.2.2.2.2.2.1⟩ hc ⟨va_cnB n C.2.2.2.2.2.1 (big_gi (fun _ h => h) hm.1) rfl rfl rfl (hlk C.2.2.2.2.2.2.2) (C.2.2.2.2.2.1 _ hm.2.2.1) hm.2.2.2 hR, C.2.2.2.2.2.1 _ hm.2.1, trivial⟩ ⟨PcM.blind, PcM.at hM C.2.2.2.2.2.2.2 hS⟩ rfl hn hl.1 hst (lv_room hw8) hd ⟨Nat.zero_le _, Nat.zero_le _⟩
theorem g_callVI {r : Int32} (C : Cx p s m args meth c D cA tS σ cc ret nL own) (hc : Ct l D cA tS σ y bytes mL rt (rmO f lo) (.ref b :: As) μ (QI D cA σ r μ')) (hm : MI y bytes mL rt Cn n) (hlk : Cond.methodLink own ix y ∈ lw_big) (hb : σ b = some (t, 0)) (ht : t < 11) (hcl : vwCl[t]? = some (Cn, T, N)) (hn : As.length = n) (hst : st = As.reverse ++ .ref b :: rest) (hw8 : (rest.map fun v => v.category).sum ≤ 8) (hd : decode cc pc = .ok (.invokevirtual ix, 3)) (hR : f + 1 ≤ R.frames ∧ 8 + (mL + 11) + lo ≤ R.locals)
    (k : GG p l e R s m args below meth c D cA σ nL Q (pc + 3) lv (.int r :: rest) μ') : GG p l e R s m args below meth c D cA σ nL Q pc lv st μ := fun H locs ls hM hS hl => va_calli (g_runV C hc hm hlk hb ht hcl hn hst hw8 hd hR hM hS hl) hS (fun _ _ h => h) (fun _ h => h) (fun x u t H1 locs1 ht hvm hp hB hz hk hS1 => by rw [show x = r from hp]; exact k H1 locs1 ls (ht ▸ hB) hS1 hl)
theorem g_callVV  (C : Cx p s m args meth c D cA tS σ cc ret nL own) (hc : Ct l D cA tS σ y bytes mL rt (rmO f lo) (.ref b :: As) μ (QV D cA σ μ')) (hm : MI y bytes mL rt Cn n) (hlk : Cond.methodLink own ix y ∈ lw_big) (hb : σ b = some (t, 0)) (ht : t < 11) (hcl : vwCl[t]? = some (Cn, T, N)) (hn : As.length = n) (hst : st = As.reverse ++ .ref b :: rest) (hw8 : (rest.map fun v => v.category).sum ≤ 8) (hd : decode cc pc = .ok (.invokevirtual ix, 3)) (hR : f + 1 ≤ R.frames ∧ 8 + (mL + 11) + lo ≤ R.locals)
    (k : GG p l e R s m args below meth c D cA σ nL Q (pc + 3) lv rest μ') : GG p l e R s m args below meth c D cA σ nL Q pc lv st μ := fun H locs ls hM hS hl => va_callv (g_runV C hc hm hlk hb ht hcl hn hst hw8 hd hR hM hS hl) hS (fun _ _ h => h) (fun _ h => h) (fun u t H1 locs1 ht hvm hp hB hz hk hS1 => k H1 locs1 ls (ht ▸ hB) hS1 hl)
theorem g_callVQ {r : Option Nat} {sh : Nat × Nat} (C : Cx p s m args meth c D cA tS σ cc ret nL own) (hc : Ct l D cA tS σ y bytes mL rt (rmO f lo) (.ref b :: As) μ (QR D cA σ sh r μ')) (hm : MI y bytes mL rt Cn n) (hlk : Cond.methodLink own ix y ∈ lw_big) (hb : σ b = some (t, 0)) (ht : t < 11) (hcl : vwCl[t]? = some (Cn, T, N)) (hn : As.length = n) (hst : st = As.reverse ++ .ref b :: rest) (hw8 : (rest.map fun v => v.category).sum ≤ 8) (hd : decode cc pc = .ok (.invokevirtual ix, 3)) (hR : f + 1 ≤ R.frames ∧ 8 + (mL + 11) + lo ≤ R.locals)
    (k : (∀ b, r = some b → σ b = some sh) → GG p l e R s m args below meth c D cA σ nL Q (pc + 3) lv (va_rf r :: rest) μ') : GG p l e R s m args below meth c D cA σ nL Q pc lv st μ := fun H locs ls hM hS hl => va_callq (g_runV C hc hm hlk hb ht hcl hn hst hw8 hd hR hM hS hl) hS (fun _ _ h => h) (fun _ h => h) (fun x u t H1 locs1 ht hvm hp hB hz hk hS1 => by rw [show x = r from hp.1]; exact k hp.2 H1 locs1 ls (ht ▸ hB) hS1 hl)
theorem g_callSI {r : Int32} (C : Cx p s m args meth c D cA tS σ cc ret nL own) (hc : Ct l D cA tS σ y bytes mL rt (rmO f lo) As μ (QI D cA σ r μ')) (hm : MS y bytes mL rt n) (hlk : Cond.methodLink own ix y ∈ lw_big) (hn : As.length = n) (hst : st = As.reverse ++ rest) (hw8 : (rest.map fun v => v.category).sum ≤ 8) (hd : decode cc pc = .ok (.invokestatic ix, 3)) (hR : f + 1 ≤ R.frames ∧ 8 + (mL + 11) + lo ≤ R.locals)
    (k : GG p l e R s m args below meth c D cA σ nL Q (pc + 3) lv (.int r :: rest) μ') : GG p l e R s m args below meth c D cA σ nL Q pc lv st μ := fun H locs ls hM hS hl => va_calli (g_runS C hc hm hlk hn hst hw8 hd hR hM hS hl) hS (fun _ _ h => h) (fun _ h => h) (fun x u t H1 locs1 ht hvm hp hB hz hk hS1 => by rw [show x = r from hp]; exact k H1 locs1 ls (ht ▸ hB) hS1 hl)
theorem g_callSV  (C : Cx p s m args meth c D cA tS σ cc ret nL own) (hc : Ct l D cA tS σ y bytes mL rt (rmO f lo) As μ (QV D cA σ μ')) (hm : MS y bytes mL rt n) (hlk : Cond.methodLink own ix y ∈ lw_big) (hn : As.length = n) (hst : st = As.reverse ++ rest) (hw8 : (rest.map fun v => v.category).sum ≤ 8) (hd : decode cc pc = .ok (.invokestatic ix, 3)) (hR : f + 1 ≤ R.frames ∧ 8 + (mL + 11) + lo ≤ R.locals)
    (k : GG p l e R s m args below meth c D cA σ nL Q (pc + 3) lv rest μ') : GG p l e R s m args below meth c D cA σ nL Q pc lv st μ := fun H locs ls hM hS hl => va_callv (g_runS C hc hm hlk hn hst hw8 hd hR hM hS hl) hS (fun _ _ h => h) (fun _ h => h) (fun u t H1 locs1 ht hvm hp hB hz hk hS1 => k H1 locs1 ls (ht ▸ hB) hS1 hl)
theorem g_callSQ {r : Option Nat} {sh : Nat × Nat} (C : Cx p s m args meth c D cA tS σ cc ret nL own) (hc : Ct l D cA tS σ y bytes mL rt (rmO f lo) As μ (QR D cA σ sh r μ')) (hm : MS y bytes mL rt n) (hlk : Cond.methodLink own ix y ∈ lw_big) (hn : As.length = n) (hst : st = As.reverse ++ rest) (hw8 : (rest.map fun v => v.category).sum ≤ 8) (hd : decode cc pc = .ok (.invokestatic ix, 3)) (hR : f + 1 ≤ R.frames ∧ 8 + (mL + 11) + lo ≤ R.locals)
    (k : (∀ b, r = some b → σ b = some sh) → GG p l e R s m args below meth c D cA σ nL Q (pc + 3) lv (va_rf r :: rest) μ') : GG p l e R s m args below meth c D cA σ nL Q pc lv st μ := fun H locs ls hM hS hl => va_callq (g_runS C hc hm hlk hn hst hw8 hd hR hM hS hl) hS (fun _ _ h => h) (fun _ h => h) (fun x u t H1 locs1 ht hvm hp hB hz hk hS1 => by rw [show x = r from hp.1]; exact k hp.2 H1 locs1 ls (ht ▸ hB) hS1 hl)
theorem g_callNI {r : Int32} (C : Cx p s m args meth c D cA tS σ cc ret nL own) {host : String} (hc : Ct l D cA tS σ y bytes mL rt (rmO f lo) As μ (QI D cA σ r μ')) (hm : MS y bytes mL rt n) (hlk : Kx D cA tS σ s → va_Nw (.methodLinkNest own ix y host) s) (hn : As.length = n) (hst : st = As.reverse ++ rest) (hw8 : (rest.map fun v => v.category).sum ≤ 8) (hd : decode cc pc = .ok (.invokestatic ix, 3)) (hR : f + 1 ≤ R.frames ∧ 8 + (mL + 11) + lo ≤ R.locals)
    (k : GG p l e R s m args below meth c D cA σ nL Q (pc + 3) lv (.int r :: rest) μ') : GG p l e R s m args below meth c D cA σ nL Q pc lv st μ := fun H locs ls hM hS hl => va_calli (g_runN C hc hm hlk hn hst hw8 hd hR hM hS hl) hS (fun _ _ h => h) (fun _ h => h) (fun x u t H1 locs1 ht hvm hp hB hz hk hS1 => by rw [show x = r from hp]; exact k H1 locs1 ls (ht ▸ hB) hS1 hl)
theorem g_callNV  (C : Cx p s m args meth c D cA tS σ cc ret nL own) {host : String} (hc : Ct l D cA tS σ y bytes mL rt (rmO f lo) As μ (QV D cA σ μ')) (hm : MS y bytes mL rt n) (hlk : Kx D cA tS σ s → va_Nw (.methodLinkNest own ix y host) s) (hn : As.length = n) (hst : st = As.reverse ++ rest) (hw8 : (rest.map fun v => v.category).sum ≤ 8) (hd : decode cc pc = .ok (.invokestatic ix, 3)) (hR : f + 1 ≤ R.frames ∧ 8 + (mL + 11) + lo ≤ R.locals)
    (k : GG p l e R s m args below meth c D cA σ nL Q (pc + 3) lv rest μ') : GG p l e R s m args below meth c D cA σ nL Q pc lv st μ := fun H locs ls hM hS hl => va_callv (g_runN C hc hm hlk hn hst hw8 hd hR hM hS hl) hS (fun _ _ h => h) (fun _ h => h) (fun u t H1 locs1 ht hvm hp hB hz hk hS1 => k H1 locs1 ls (ht ▸ hB) hS1 hl)
theorem g_callNQ {r : Option Nat} {sh : Nat × Nat} (C : Cx p s m args meth c D cA tS σ cc ret nL own) {host : String} (hc : Ct l D cA tS σ y bytes mL rt (rmO f lo) As μ (QR D cA σ sh r μ')) (hm : MS y bytes mL rt n) (hlk : Kx D cA tS σ s → va_Nw (.methodLinkNest own ix y host) s) (hn : As.length = n) (hst : st = As.reverse ++ rest) (hw8 : (rest.map fun v => v.category).sum ≤ 8) (hd : decode cc pc = .ok (.invokestatic ix, 3)) (hR : f + 1 ≤ R.frames ∧ 8 + (mL + 11) + lo ≤ R.locals)
    (k : (∀ b, r = some b → σ b = some sh) → GG p l e R s m args below meth c D cA σ nL Q (pc + 3) lv (va_rf r :: rest) μ') : GG p l e R s m args below meth c D cA σ nL Q pc lv st μ := fun H locs ls hM hS hl => va_callq (g_runN C hc hm hlk hn hst hw8 hd hR hM hS hl) hS (fun _ _ h => h) (fun _ h => h) (fun x u t H1 locs1 ht hvm hp hB hz hk hS1 => by rw [show x = r from hp.1]; exact k hp.2 H1 locs1 ls (ht ▸ hB) hS1 hl)
theorem g_copy (C : Cx p s m args meth c D cA tS σ cc ret nL own) {a0 a1 n0 n1 : Nat} {sp dp k : Int32} (h0 : σ a0 = some (11, n0)) (h1 : σ a1 = some (11, n1)) (hk : cpk sp dp k n0 n1 = true) (hlk : Cond.methodLink own ix arraycopyName ∈ lw_big) (hini : Cond.initialized "java/lang/System" ∈ lw_big) (hR : 1 ≤ R.frames ∧ (rest.map fun v => v.category).sum + (nativeFrameWords "java/lang/System" "arraycopy" 5 + 11) ≤ R.locals) (hd : decode cc pc = .ok (.invokestatic ix, 3))
    (kk : GG p l e R s m args below meth c D cA σ nL Q (pc + 3) lv rest (sa μ a1 (va_cpy (μ.1 a0) (μ.1 a1) sp.toNatClampNeg dp.toNatClampNeg k.toNatClampNeg))) : GG p l e R s m args below meth c D cA σ nL Q pc lv (.int k :: .int dp :: .ref a1 :: .int sp :: .ref a0 :: rest) μ := by
  intro H locs ls hM hS hl
  obtain ⟨hT, L, hL, hP, hD⟩ := hM
  obtain ⟨q0, hq0⟩ := pl_at (cA := cA) (μ := μ) hL h0
  obtain ⟨q1, hq1⟩ := pl_at (cA := cA) (μ := μ) hL h1
  simp only [cpk, Bool.and_eq_true, Bool.not_eq_true', decide_eq_false_iff_not, decide_eq_true_eq] at hk
  obtain ⟨⟨⟨⟨k1, k2⟩, k3⟩, k4⟩, k5⟩ := hk
  have hset := pl_set (μ' := sa μ a1 (va_cpy (μ.1 a0) (μ.1 a1) sp.toNatClampNeg dp.toNatClampNeg k.toNatClampNeg)) (e := .inl (cA 0, n1, .inl (va_cpy (μ.1 a0) (μ.1 a1) sp.toNatClampNeg dp.toNatClampNeg k.toNatClampNeg))) hL hD h1 hq1 (by simp only [sa, s2_s]; rfl) (fun b hb => ⟨by simp only [sa]; exact s2_o hb, rfl⟩)
  refine va_copyi C.1 C.2.1 (by rw [C.2.2.2.1]; exact hl.1.symm) C.2.2.2.2.1 (C.2.2.2.2.2.1 _ hlk) (C.2.2.2.2.2.1 _ wvC) (C.2.2.2.2.2.1 _ wtC) (C.2.2.2.2.2.1 _ hini) C.2.2.2.2.2.2.2.1 hP hD hS q0 q1 0 0 (f := μ.1 a0) (g := μ.1 a1) hq0 hq1 rfl rfl rfl k1 k2 k3 k4 k5 (fun _ _ => rfl) hR.1 hR.2 hd (fun H1 locs1 hP1 hD1 hS1 => ?_)
  rw [hset] at hP1 hD1
  exact kk H1 locs1 ls ⟨hT, L, hL, hP1, hD1⟩ hS1 hl
end GC
end
section
def fX0_clear (a0 : Nat) (μ : Mm) : Mm :=
  lt' (si μ a0 1 0) fun μ1 =>
  lt' (si μ1 a0 2 0) fun μ2 =>
  μ2
def fX0_add (a0 : Nat) (v1 : Int32) (μ : Mm) : Option (Mm) :=
  if (μ.1 a0 1) < 12000 then
    gd (ib (μ.1 a0 1) 12000) <|
    lt' (si μ (μ.2 a0 0) (μ.1 a0 1).toNatClampNeg (v1 &&& 255)) fun μ1 =>
    lt' (si μ1 a0 1 ((μ1.1 a0 1) + 1)) fun μ2 =>
    some μ2
  else
    lt' (si μ a0 2 1) fun μ3 =>
    some μ3
def fX0_addTwo (a0 : Nat) (v1 : Int32) (μ : Mm) : Option (Mm) :=
  bd (fX0_add a0 v1 μ) fun μ1 =>
  bd (fX0_add a0 (v1 >>> (8 &&& 31)) μ1) fun μ2 =>
  some μ2
def fX0_addFour (a0 : Nat) (v1 : Int32) (μ : Mm) : Option (Mm) :=
  bd (fX0_add a0 (v1 >>> (24 &&& 31)) μ) fun μ1 =>
  bd (fX0_add a0 (v1 >>> (16 &&& 31)) μ1) fun μ2 =>
  bd (fX0_add a0 (v1 >>> (8 &&& 31)) μ2) fun μ3 =>
  bd (fX0_add a0 v1 μ3) fun μ4 =>
  some μ4
def fX0_at (a0 : Nat) (v1 : Int32) (μ : Mm) : Option (Int32) :=
  if v1 < 0 then
    some (-1)
  else
    if (μ.1 a0 1) ≤ v1 then
      some (-1)
    else
      gd (ib v1 12000) <|
      some (μ.1 (μ.2 a0 0) v1.toNatClampNeg)
def fX0_copyFrom (a0 : Nat) (a1 : Nat) (μ : Mm) : Option (Mm) :=
  gd (cpk 0 0 (μ.1 a1 1) 12000 12000) <|
  lt' (sa μ (μ.2 a0 0) (va_cpy (μ.1 (μ.2 a1 0)) (μ.1 (μ.2 a0 0)) (0 : Int32).toNatClampNeg (0 : Int32).toNatClampNeg (μ.1 a1 1).toNatClampNeg)) fun μ1 =>
  lt' (si μ1 a0 1 (μ1.1 a1 1)) fun μ2 =>
  gd (b01 (μ2.1 a1 2)) <|
  lt' (si μ2 a0 2 (μ2.1 a1 2)) fun μ3 =>
  some μ3
def fX1_forget (a0 : Nat) (μ : Mm) : Mm :=
  lt' (si μ a0 8 ((μ.1 a0 6) + 1)) fun μ1 =>
  lt' (si μ1 a0 9 ((1 <<< ((μ1.1 a0 6) &&& 31)) + 2)) fun μ2 =>
  lt' (si μ2 a0 10 (-1)) fun μ3 =>
  μ3
def fX1_tell (a0 : Nat) (v1 : Int32) (μ : Mm) : Option (Mm) :=
  gd (ib (μ.1 a0 9) 4096) <|
  lt' (si μ (μ.2 a0 2) (μ.1 a0 9).toNatClampNeg (μ.1 a0 10)) fun μ1 =>
  gd (ib (μ1.1 a0 10) 4096) <|
  gd (ib (μ1.1 a0 9) 4096) <|
  lt' (si μ1 (μ1.2 a0 3) (μ1.1 a0 9).toNatClampNeg (μ1.1 (μ1.2 a0 3) (μ1.1 a0 10).toNatClampNeg)) fun μ3 =>
  gd (ib (μ3.1 a0 9) 4096) <|
  lt' (si μ3 (μ3.2 a0 4) (μ3.1 a0 9).toNatClampNeg v1) fun μ4 =>
  gd (ib (μ4.1 a0 10) 4096) <|
  gd (ib (μ4.1 a0 9) 4096) <|
  lt' (si μ4 (μ4.2 a0 5) (μ4.1 a0 9).toNatClampNeg ((μ4.1 (μ4.2 a0 5) (μ4.1 a0 10).toNatClampNeg) + 1)) fun μ6 =>
  lt' (si μ6 a0 9 ((μ6.1 a0 9) + 1)) fun μ7 =>
  if (μ7.1 a0 9) = (1 <<< ((μ7.1 a0 8) &&& 31)) then
    if (12 : Int32) ≤ (μ7.1 a0 8) then
      some μ7
    else
      lt' (si μ7 a0 8 ((μ7.1 a0 8) + 1)) fun μ8 =>
      some μ8
  else
    some μ7
def fX1_isKnown_L75 (a0 : Nat) (v1 : Int32) (o0 : Nat) (o1 : Nat) (t2 : Int32) (μ : Mm) : Option (Int32 × Mm) :=
  gd (ib t2 4096) <|
  bd (fX1_tell o0 (μ.1 o1 t2.toNatClampNeg) μ) fun μ2 =>
  lt' (si μ2 a0 10 v1) fun μ3 =>
  some (1, μ3)
def fX1_isKnown_L50 (a0 : Nat) (v1 : Int32) (v2 : Int32) (μ : Mm) : Option (Int32 × Mm) :=
  if v2 = 0 then
    lt' (si μ a0 10 v1) fun μ1 =>
    some (1, μ1)
  else
    if v1 = (μ.1 a0 9) then
      fX1_isKnown_L75 a0 v1 a0 (μ.2 a0 3) (μ.1 a0 10) μ
    else
      fX1_isKnown_L75 a0 v1 a0 (μ.2 a0 3) v1 μ
def fX1_isKnown_L23 (a0 : Nat) (v1 : Int32) (t0 : Int32) (μ : Mm) : Option (Int32 × Mm) :=
  if v1 < 0 then
    some (0, μ)
  else
    if (μ.1 a0 9) < v1 then
      some (0, μ)
    else
      if v1 = (μ.1 a0 9) then
        if t0 = 0 then
          some (0, μ)
        else
          fX1_isKnown_L50 a0 v1 t0 μ
      else
        fX1_isKnown_L50 a0 v1 t0 μ
def fX1_isKnown_L22 (a0 : Nat) (v1 : Int32) (μ : Mm) : Option (Int32 × Mm) :=
  fX1_isKnown_L23 a0 v1 0 μ
def fX1_isKnown (a0 : Nat) (v1 : Int32) (μ : Mm) : Option (Int32 × Mm) :=
  if (μ.1 a0 10) = (-1) then
    fX1_isKnown_L22 a0 v1 μ
  else
    if (4096 : Int32) ≤ (μ.1 a0 9) then
      fX1_isKnown_L22 a0 v1 μ
    else
      fX1_isKnown_L23 a0 v1 1 μ
def fJ9_max_7cf53 (v0 : Int32) (v1 : Int32) : Int32 :=
  if v0 < v1 then
    v1
  else
    v0
def fX1_nextCode (a0 : Nat) (μ : Mm) : Option (Int32 × Mm) :=
  if ((μ.1 a0 7) + (μ.1 a0 8)) ≤ ((μ.1 (μ.2 a0 0) 1) * 8) then
    lt' ((μ.1 a0 7) >>> (3 &&& 31)) fun x1 =>
    bd (fX0_at (μ.2 a0 0) x1 μ) fun x2 =>
    bd (fX0_at (μ.2 a0 0) (x1 + 1) μ) fun x3 =>
    lt' (fJ9_max_7cf53 x3 0) fun x4 =>
    bd (fX0_at (μ.2 a0 0) (x1 + 2) μ) fun x5 =>
    lt' (fJ9_max_7cf53 x5 0) fun x6 =>
    lt' ((x2 ||| (x4 <<< (8 &&& 31))) ||| (x6 <<< (16 &&& 31))) fun x7 =>
    lt' ((x7 >>> (((μ.1 a0 7) &&& 7) &&& 31)) &&& ((1 <<< ((μ.1 a0 8) &&& 31)) - 1)) fun x8 =>
    lt' (si μ a0 7 ((μ.1 a0 7) + (μ.1 a0 8))) fun μ9 =>
    some (x8, μ9)
  else
    some ((-1), μ)
def fX1_putOut_B30 (rec30 : Nat → Int32 → Int32 → Int32 → Int32 → Mm → Option (Int32 × Mm)) (fu : Nat) (a0 : Nat) (v3 : Int32) (v4 : Int32) (v5 : Int32) (v6 : Int32) (μ : Mm) : Option (Int32 × Mm) :=
  if v6 < 0 then
    lt' (si μ a0 11 ((μ.1 a0 11) + v4)) fun μ1 =>
    some (1, μ1)
  else
    gd (ib v5 4096) <|
    if (μ.1 (μ.2 a0 4) v5.toNatClampNeg) < v3 then
      gd (ib v5 4096) <|
      gd (ib ((μ.1 a0 11) + v6) 4096) <|
      lt' (si μ (μ.2 a0 1) ((μ.1 a0 11) + v6).toNatClampNeg (μ.1 (μ.2 a0 4) v5.toNatClampNeg)) fun μ4 =>
      if v6 ≤ 0 then
        lt' (v6 + (-1)) fun x5 =>
        rec30 a0 v3 v4 v5 x5 μ4
      else
        gd (ib v5 4096) <|
        lt' (μ4.1 (μ4.2 a0 2) v5.toNatClampNeg) fun x7 =>
        lt' (v6 + (-1)) fun x8 =>
        rec30 a0 v3 v4 x7 x8 μ4
    else
      some (0, μ)
def fX1_putOut_L30 (fu : Nat) : Nat → Nat → Int32 → Int32 → Int32 → Int32 → Mm → Option (Int32 × Mm)
  | 0 => fun _ _ _ _ _ _ => none
  | n + 1 => fX1_putOut_B30 (fX1_putOut_L30 fu n) fu
def fX1_putOut (fu : Nat) (a0 : Nat) (v1 : Int32) (v2 : Int32) (v3 : Int32) (μ : Mm) : Option (Int32 × Mm) :=
  gd (ib v1 4096) <|
  lt' (μ.1 (μ.2 a0 5) v1.toNatClampNeg) fun x2 =>
  if x2 ≤ (v2 - (μ.1 a0 11)) then
    lt' (x2 - 1) fun x3 =>
    fX1_putOut_L30 fu fu a0 v3 x2 v1 x3 μ
  else
    some (0, μ)
def fX1_start_B17 (rec17 : Nat → Int32 → Mm → Option (Mm)) (fu : Nat) (a0 : Nat) (v2 : Int32) (μ : Mm) : Option (Mm) :=
  if (1 <<< ((μ.1 a0 6) &&& 31)) ≤ v2 then
    lt' (fX1_forget a0 μ) fun μ1 =>
    some μ1
  else
    gd (ib v2 4096) <|
    lt' (si μ (μ.2 a0 3) v2.toNatClampNeg v2) fun μ2 =>
    gd (ib v2 4096) <|
    lt' (si μ2 (μ2.2 a0 4) v2.toNatClampNeg v2) fun μ3 =>
    gd (ib v2 4096) <|
    lt' (si μ3 (μ3.2 a0 5) v2.toNatClampNeg 1) fun μ4 =>
    lt' (v2 + 1) fun x5 =>
    rec17 a0 x5 μ4
def fX1_start_L17 (fu : Nat) : Nat → Nat → Int32 → Mm → Option (Mm)
  | 0 => fun _ _ _ => none
  | n + 1 => fX1_start_B17 (fX1_start_L17 fu n) fu
def fX1_start (fu : Nat) (a0 : Nat) (v1 : Int32) (μ : Mm) : Option (Mm) :=
  lt' (si μ a0 6 v1) fun μ1 =>
  lt' (si μ1 a0 7 0) fun μ2 =>
  lt' (si μ2 a0 11 0) fun μ3 =>
  fX1_start_L17 fu fu a0 0 μ3
def fX1_decode_B24 (rec24 : Nat → Int32 → Int32 → Int32 → Int32 → Mm → Option (Int32 × Mm)) (fu : Nat) (a0 : Nat) (v2 : Int32) (v3 : Int32) (v4 : Int32) (v5 : Int32) (μ : Mm) : Option (Int32 × Mm) :=
  if ((μ.1 (μ.2 a0 0) 1) * 8) ≤ v5 then
    some (0, μ)
  else
    bd (fX1_nextCode a0 μ) fun q1 =>
    lt' q1.1 fun x2 =>
    if x2 = (v4 + 1) then
      if (q1.2.1 a0 11) = v2 then
        if (((q1.2.1 a0 7) - 1) >>> (3 &&& 31)) = ((q1.2.1 (q1.2.2 a0 0) 1) - 1) then
          some (1, q1.2)
        else
          some (0, q1.2)
      else
        some (0, q1.2)
    else
      if x2 = v4 then
        lt' (fX1_forget a0 q1.2) fun μ6 =>
        lt' (v5 + 1) fun x7 =>
        rec24 a0 v2 v3 v4 x7 μ6
      else
        bd (fX1_isKnown a0 x2 q1.2) fun q3 =>
        if q3.1 = 0 then
          some (0, q3.2)
        else
          bd (fX1_putOut fu a0 x2 v2 v3 q3.2) fun q4 =>
          if q4.1 = 0 then
            some (0, q4.2)
          else
            lt' (v5 + 1) fun x5 =>
            rec24 a0 v2 v3 v4 x5 q4.2
def fX1_decode_L24 (fu : Nat) : Nat → Nat → Int32 → Int32 → Int32 → Int32 → Mm → Option (Int32 × Mm)
  | 0 => fun _ _ _ _ _ _ => none
  | n + 1 => fX1_decode_B24 (fX1_decode_L24 fu n) fu
def fX1_decode (fu : Nat) (a0 : Nat) (v1 : Int32) (v2 : Int32) (v3 : Int32) (μ : Mm) : Option (Int32 × Mm) :=
  lt' (1 <<< (v1 &&& 31)) fun x1 =>
  bd (fX1_start fu a0 v1 μ) fun μ2 =>
  bd (fX1_nextCode a0 μ2) fun q3 =>
  if q3.1 = x1 then
    fX1_decode_L24 fu fu a0 v2 v3 x1 0 q3.2
  else
    some (0, q3.2)
def fX2_putCode_B25 (rec25 : Nat → Mm → Option (Mm)) (fu : Nat) (a0 : Nat) (μ : Mm) : Option (Mm) :=
  if (μ.1 a0 11) < 8 then
    some μ
  else
    bd (fX0_add (μ.2 a0 0) (μ.1 a0 10) μ) fun μ1 =>
    lt' (si μ1 a0 10 ((μ1.1 a0 10) >>> (8 &&& 31))) fun μ2 =>
    lt' (si μ2 a0 11 ((μ2.1 a0 11) - 8)) fun μ3 =>
    rec25 a0 μ3
def fX2_putCode_L25 (fu : Nat) : Nat → Nat → Mm → Option (Mm)
  | 0 => fun _ _ => none
  | n + 1 => fX2_putCode_B25 (fX2_putCode_L25 fu n) fu
def fX2_putCode (fu : Nat) (a0 : Nat) (v1 : Int32) (v2 : Int32) (μ : Mm) : Option (Mm) :=
  lt' (si μ a0 10 ((μ.1 a0 10) ||| (v1 <<< ((μ.1 a0 11) &&& 31)))) fun μ1 =>
  lt' (si μ1 a0 11 ((μ1.1 a0 11) + v2)) fun μ2 =>
  fX2_putCode_L25 fu fu a0 μ2
def fX2_putClear_B15 (rec15 : Nat → Int32 → Int32 → Mm → Option (Mm)) (fu : Nat) (a0 : Nat) (v2 : Int32) (v3 : Int32) (μ : Mm) : Option (Mm) :=
  if v2 ≤ v3 then
    lt' (si μ a0 6 ((μ.1 a0 5) + 1)) fun μ1 =>
    lt' (si μ1 a0 7 (v2 + 2)) fun μ2 =>
    lt' (si μ2 a0 8 (-1)) fun μ3 =>
    some μ3
  else
    gd (ib v3 4096) <|
    lt' (si μ (μ.2 a0 2) v3.toNatClampNeg (-1)) fun μ4 =>
    lt' (v3 + 1) fun x5 =>
    rec15 a0 v2 x5 μ4
def fX2_putClear_L15 (fu : Nat) : Nat → Nat → Int32 → Int32 → Mm → Option (Mm)
  | 0 => fun _ _ _ _ => none
  | n + 1 => fX2_putClear_B15 (fX2_putClear_L15 fu n) fu
def fX2_putClear (fu : Nat) (a0 : Nat) (v1 : Int32) (μ : Mm) : Option (Mm) :=
  lt' (1 <<< ((μ.1 a0 5) &&& 31)) fun x1 =>
  bd (fX2_putCode fu a0 x1 v1 μ) fun μ2 =>
  fX2_putClear_L15 fu fu a0 x1 0 μ2
def fX2_childOf_B10 (rec10 : Nat → Int32 → Int32 → Int32 → Mm → Option (Int32)) (fu : Nat) (a0 : Nat) (v2 : Int32) (v3 : Int32) (v4 : Int32) (μ : Mm) : Option (Int32) :=
  if (256 : Int32) ≤ v4 then
    some (-1)
  else
    if v3 = (-1) then
      some (-1)
    else
      gd (ib v3 4096) <|
      if (μ.1 (μ.2 a0 4) v3.toNatClampNeg) = v2 then
        some v3
      else
        gd (ib v3 4096) <|
        lt' (μ.1 (μ.2 a0 3) v3.toNatClampNeg) fun x3 =>
        lt' (v4 + 1) fun x4 =>
        rec10 a0 v2 x3 x4 μ
def fX2_childOf_L10 (fu : Nat) : Nat → Nat → Int32 → Int32 → Int32 → Mm → Option (Int32)
  | 0 => fun _ _ _ _ _ => none
  | n + 1 => fX2_childOf_B10 (fX2_childOf_L10 fu n) fu
def fX2_childOf (fu : Nat) (a0 : Nat) (v1 : Int32) (v2 : Int32) (μ : Mm) : Option (Int32) :=
  gd (ib v1 4096) <|
  lt' (μ.1 (μ.2 a0 2) v1.toNatClampNeg) fun x2 =>
  fX2_childOf_L10 fu fu a0 v2 x2 0 μ
def fX2_longest_B20 (rec20 : Nat → Int32 → Int32 → Mm → Option (Int32 × Mm)) (fu : Nat) (a0 : Nat) (v1 : Int32) (v2 : Int32) (μ : Mm) : Option (Int32 × Mm) :=
  if v1 ≤ (μ.1 a0 9) then
    some (v2, μ)
  else
    gd (ib (μ.1 a0 9) 4096) <|
    bd (fX2_childOf fu a0 v2 (μ.1 (μ.2 a0 1) (μ.1 a0 9).toNatClampNeg) μ) fun x2 =>
    if x2 = (-1) then
      some (v2, μ)
    else
      lt' (si μ a0 9 ((μ.1 a0 9) + 1)) fun μ3 =>
      rec20 a0 v1 x2 μ3
def fX2_longest_L20 (fu : Nat) : Nat → Nat → Int32 → Int32 → Mm → Option (Int32 × Mm)
  | 0 => fun _ _ _ _ => none
  | n + 1 => fX2_longest_B20 (fX2_longest_L20 fu n) fu
def fX2_longest (fu : Nat) (a0 : Nat) (v1 : Int32) (μ : Mm) : Option (Int32 × Mm) :=
  gd (ib (μ.1 a0 9) 4096) <|
  lt' (μ.1 (μ.2 a0 1) (μ.1 a0 9).toNatClampNeg) fun x2 =>
  lt' (si μ a0 9 ((μ.1 a0 9) + 1)) fun μ3 =>
  fX2_longest_L20 fu fu a0 v1 x2 μ3
def fX2_tell (a0 : Nat) (v1 : Int32) (μ : Mm) : Option (Mm) :=
  gd (ib (μ.1 a0 7) 4096) <|
  lt' (si μ (μ.2 a0 4) (μ.1 a0 7).toNatClampNeg v1) fun μ1 =>
  gd (ib (μ1.1 a0 7) 4096) <|
  lt' (si μ1 (μ1.2 a0 2) (μ1.1 a0 7).toNatClampNeg (-1)) fun μ2 =>
  gd (ib (μ2.1 a0 8) 4096) <|
  gd (ib (μ2.1 a0 7) 4096) <|
  lt' (si μ2 (μ2.2 a0 3) (μ2.1 a0 7).toNatClampNeg (μ2.1 (μ2.2 a0 2) (μ2.1 a0 8).toNatClampNeg)) fun μ4 =>
  gd (ib (μ4.1 a0 8) 4096) <|
  lt' (si μ4 (μ4.2 a0 2) (μ4.1 a0 8).toNatClampNeg (μ4.1 a0 7)) fun μ5 =>
  some μ5
def fX2_putLongest_L31 (fu : Nat) (a0 : Nat) (v1 : Int32) (v2 : Int32) (μ : Mm) : Option (Mm) :=
  bd (fX2_longest fu a0 v1 μ) fun q1 =>
  lt' (si q1.2 a0 8 q1.1) fun μ2 =>
  bd (fX2_putCode fu a0 (μ2.1 a0 8) (μ2.1 a0 6) μ2) fun μ3 =>
  if v2 = 0 then
    some μ3
  else
    lt' (si μ3 a0 7 ((μ3.1 a0 7) + 1)) fun μ4 =>
    if (μ4.1 a0 7) = (1 <<< ((μ4.1 a0 6) &&& 31)) then
      if (12 : Int32) ≤ (μ4.1 a0 6) then
        some μ4
      else
        lt' (si μ4 a0 6 ((μ4.1 a0 6) + 1)) fun μ5 =>
        some μ5
    else
      some μ4
def fX2_putLongest_L13 (fu : Nat) (a0 : Nat) (v1 : Int32) (t0 : Int32) (μ : Mm) : Option (Mm) :=
  if t0 = 0 then
    fX2_putLongest_L31 fu a0 v1 t0 μ
  else
    gd (ib (μ.1 a0 9) 4096) <|
    bd (fX2_tell a0 (μ.1 (μ.2 a0 1) (μ.1 a0 9).toNatClampNeg) μ) fun μ2 =>
    fX2_putLongest_L31 fu a0 v1 t0 μ2
def fX2_putLongest (fu : Nat) (a0 : Nat) (v1 : Int32) (μ : Mm) : Option (Mm) :=
  if (μ.1 a0 8) = (-1) then
    fX2_putLongest_L13 fu a0 v1 0 μ
  else
    fX2_putLongest_L13 fu a0 v1 1 μ
def fX2_encode_L81 (fu : Nat) (a0 : Nat) (μ : Mm) : Option (Mm) :=
  bd (fX2_putCode fu a0 ((1 <<< ((μ.1 a0 5) &&& 31)) + 1) (μ.1 a0 6) μ) fun μ1 =>
  if (μ1.1 a0 11) ≤ 0 then
    some μ1
  else
    bd (fX0_add (μ1.2 a0 0) (μ1.1 a0 10) μ1) fun μ2 =>
    some μ2
def fX2_encode_L70 (rec39 : Nat → Int32 → Int32 → Mm → Option (Mm)) (fu : Nat) (a0 : Nat) (v1 : Int32) (v3 : Int32) (μ : Mm) : Option (Mm) :=
  bd (fX2_putLongest fu a0 v1 μ) fun μ1 =>
  lt' (v3 + 1) fun x2 =>
  rec39 a0 v1 x2 μ1
def fX2_encode_B39 (rec39 : Nat → Int32 → Int32 → Mm → Option (Mm)) (fu : Nat) (a0 : Nat) (v1 : Int32) (v3 : Int32) (μ : Mm) : Option (Mm) :=
  if v1 ≤ v3 then
    fX2_encode_L81 fu a0 μ
  else
    if v1 ≤ (μ.1 a0 9) then
      fX2_encode_L81 fu a0 μ
    else
      if (μ.1 a0 7) = 4096 then
        bd (fX2_putClear fu a0 (μ.1 a0 6) μ) fun μ1 =>
        fX2_encode_L70 rec39 fu a0 v1 v3 μ1
      else
        fX2_encode_L70 rec39 fu a0 v1 v3 μ
def fX2_encode_L39 (fu : Nat) : Nat → Nat → Int32 → Int32 → Mm → Option (Mm)
  | 0 => fun _ _ _ _ => none
  | n + 1 => fX2_encode_B39 (fX2_encode_L39 fu n) fu
def fX2_encode (fu : Nat) (a0 : Nat) (v1 : Int32) (v2 : Int32) (μ : Mm) : Option (Mm) :=
  lt' (si μ a0 5 v2) fun μ1 =>
  lt' (fX0_clear (μ1.2 a0 0) μ1) fun μ2 =>
  lt' (si μ2 a0 10 0) fun μ3 =>
  lt' (si μ3 a0 11 0) fun μ4 =>
  lt' (si μ4 a0 9 0) fun μ5 =>
  bd (fX2_putClear fu a0 ((μ5.1 a0 5) + 1) μ5) fun μ6 =>
  fX2_encode_L39 fu fu a0 v1 0 μ6
def fX3_fill_B3 (rec3 : Nat → Int32 → Int32 → Int32 → Mm → Option (Mm)) (fu : Nat) (a0 : Nat) (v2 : Int32) (v3 : Int32) (v4 : Int32) (μ : Mm) : Option (Mm) :=
  if v2 ≤ v4 then
    some μ
  else
    gd (ib v4 4096) <|
    lt' (si μ (μ.2 a0 7) v4.toNatClampNeg v3) fun μ1 =>
    lt' (v4 + 1) fun x2 =>
    rec3 a0 v2 v3 x2 μ1
def fX3_fill_L3 (fu : Nat) : Nat → Nat → Int32 → Int32 → Int32 → Mm → Option (Mm)
  | 0 => fun _ _ _ _ _ => none
  | n + 1 => fX3_fill_B3 (fX3_fill_L3 fu n) fu
def fX3_fill (fu : Nat) (a0 : Nat) (v1 : Int32) (v2 : Int32) (v3 : Int32) (μ : Mm) : Option (Mm) :=
  fX3_fill_L3 fu fu a0 v2 v3 v1 μ
def fX3_size (a0 : Nat) (μ : Mm) : Int32 :=
  (μ.1 a0 2) * (μ.1 a0 3)
def fX8_become (a0 : Nat) (v1 : Int32) (v2 : Int32) (v3 : Int32) (v4 : Int32) (μ : Mm) : Option (Mm) :=
  lt' (si μ a0 0 v1) fun μ1 =>
  lt' (si μ1 a0 1 v2) fun μ2 =>
  lt' (si μ2 a0 2 v3) fun μ3 =>
  gd (b01 v4) <|
  lt' (si μ3 a0 3 v4) fun μ4 =>
  some μ4
def fX8_reset (a0 : Nat) (μ : Mm) : Option (Mm) :=
  bd (fX8_become a0 0 (-1) 0 0 μ) fun μ1 =>
  some μ1
def fX3_reset (fu : Nat) (a0 : Nat) (v1 : Int32) (v2 : Int32) (v3 : Int32) (v4 : Int32) (μ : Mm) : Option (Mm) :=
  lt' (si μ a0 0 v1) fun μ1 =>
  lt' (si μ1 a0 1 v2) fun μ2 =>
  lt' (si μ2 a0 2 v3) fun μ3 =>
  lt' (si μ3 a0 3 v4) fun μ4 =>
  bd (fX8_reset (μ4.2 a0 6) μ4) fun μ5 =>
  lt' (fX3_size a0 μ5) fun x6 =>
  bd (fX3_fill fu a0 0 x6 0 μ5) fun μ7 =>
  some μ7
def fX3_covers (a0 : Nat) (v1 : Int32) (v2 : Int32) (μ : Mm) : Int32 :=
  if v1 < (μ.1 a0 0) then
    0
  else
    if ((μ.1 a0 0) + (μ.1 a0 2)) ≤ v1 then
      0
    else
      if v2 < (μ.1 a0 1) then
        0
      else
        if ((μ.1 a0 1) + (μ.1 a0 3)) ≤ v2 then
          0
        else
          1
def fX3_indexAt (a0 : Nat) (v1 : Int32) (v2 : Int32) (μ : Mm) : Option (Int32) :=
  gd (ib ((((v2 - (μ.1 a0 1)) * (μ.1 a0 2)) + v1) - (μ.1 a0 0)) 4096) <|
  some (μ.1 (μ.2 a0 7) ((((v2 - (μ.1 a0 1)) * (μ.1 a0 2)) + v1) - (μ.1 a0 0)).toNatClampNeg)
def fX3_lineOf_B13 (rec13 : Nat → Int32 → Int32 → Int32 → Mm → Option (Int32)) (fu : Nat) (a0 : Nat) (v1 : Int32) (v2 : Int32) (v3 : Int32) (μ : Mm) : Option (Int32) :=
  if (4 : Int32) ≤ v3 then
    some v1
  else
    gd (ib v3 4) <|
    lt' (sT 1 v3.toNatClampNeg) fun x1 =>
    gd (ib v3 4) <|
    lt' (sT 2 v3.toNatClampNeg) fun x2 =>
    lt' (((((μ.1 a0 3) - x1) + (1 <<< (x2 &&& 31))) - 1) >>> (x2 &&& 31)) fun x3 =>
    if x3 ≤ v2 then
      lt' (v2 - x3) fun x4 =>
      lt' (v3 + 1) fun x5 =>
      rec13 a0 v1 x4 x5 μ
    else
      some (x1 + (v2 <<< (x2 &&& 31)))
def fX3_lineOf_L13 (fu : Nat) : Nat → Nat → Int32 → Int32 → Int32 → Mm → Option (Int32)
  | 0 => fun _ _ _ _ _ => none
  | n + 1 => fX3_lineOf_B13 (fX3_lineOf_L13 fu n) fu
def fX3_lineOf (fu : Nat) (a0 : Nat) (v1 : Int32) (μ : Mm) : Option (Int32) :=
  if (μ.1 a0 4) = 0 then
    some v1
  else
    fX3_lineOf_L13 fu fu a0 v1 v1 0 μ
def fX3_fromStreamOrder_B2 (rec2 : Nat → Nat → Int32 → Mm → Option (Mm)) (fu : Nat) (a0 : Nat) (a1 : Nat) (v2 : Int32) (μ : Mm) : Option (Mm) :=
  if (μ.1 a0 3) ≤ v2 then
    some μ
  else
    bd (fX3_lineOf fu a0 v2 μ) fun x1 =>
    gd (cpk (v2 * (μ.1 a0 2)) (x1 * (μ.1 a0 2)) (μ.1 a0 2) 4096 4096) <|
    lt' (sa μ (μ.2 a0 7) (va_cpy (μ.1 a1) (μ.1 (μ.2 a0 7)) (v2 * (μ.1 a0 2)).toNatClampNeg (x1 * (μ.1 a0 2)).toNatClampNeg (μ.1 a0 2).toNatClampNeg)) fun μ2 =>
    lt' (v2 + 1) fun x3 =>
    rec2 a0 a1 x3 μ2
def fX3_fromStreamOrder_L2 (fu : Nat) : Nat → Nat → Nat → Int32 → Mm → Option (Mm)
  | 0 => fun _ _ _ _ => none
  | n + 1 => fX3_fromStreamOrder_B2 (fX3_fromStreamOrder_L2 fu n) fu
def fX3_fromStreamOrder (fu : Nat) (a0 : Nat) (a1 : Nat) (μ : Mm) : Option (Mm) :=
  fX3_fromStreamOrder_L2 fu fu a0 a1 0 μ
def fX3_toStreamOrder_B2 (rec2 : Nat → Nat → Int32 → Mm → Option (Mm)) (fu : Nat) (a0 : Nat) (a1 : Nat) (v2 : Int32) (μ : Mm) : Option (Mm) :=
  if (μ.1 a0 3) ≤ v2 then
    some μ
  else
    bd (fX3_lineOf fu a0 v2 μ) fun x1 =>
    gd (cpk (x1 * (μ.1 a0 2)) (v2 * (μ.1 a0 2)) (μ.1 a0 2) 4096 4096) <|
    lt' (sa μ a1 (va_cpy (μ.1 (μ.2 a0 7)) (μ.1 a1) (x1 * (μ.1 a0 2)).toNatClampNeg (v2 * (μ.1 a0 2)).toNatClampNeg (μ.1 a0 2).toNatClampNeg)) fun μ2 =>
    lt' (v2 + 1) fun x3 =>
    rec2 a0 a1 x3 μ2
def fX3_toStreamOrder_L2 (fu : Nat) : Nat → Nat → Nat → Int32 → Mm → Option (Mm)
  | 0 => fun _ _ _ _ => none
  | n + 1 => fX3_toStreamOrder_B2 (fX3_toStreamOrder_L2 fu n) fu
def fX3_toStreamOrder (fu : Nat) (a0 : Nat) (a1 : Nat) (μ : Mm) : Option (Mm) :=
  fX3_toStreamOrder_L2 fu fu a0 a1 0 μ
def fX7_reset_B7 (rec7 : Nat → Int32 → Int32 → Mm → Option (Mm)) (fu : Nat) (a0 : Nat) (v1 : Int32) (v2 : Int32) (μ : Mm) : Option (Mm) :=
  if v1 ≤ v2 then
    some μ
  else
    gd (ib v2 256) <|
    lt' (si μ (μ.2 a0 0) v2.toNatClampNeg 0) fun μ1 =>
    lt' (v2 + 1) fun x2 =>
    rec7 a0 v1 x2 μ1
def fX7_reset_L7 (fu : Nat) : Nat → Nat → Int32 → Int32 → Mm → Option (Mm)
  | 0 => fun _ _ _ _ => none
  | n + 1 => fX7_reset_B7 (fX7_reset_L7 fu n) fu
def fX7_reset (fu : Nat) (a0 : Nat) (v1 : Int32) (μ : Mm) : Option (Mm) :=
  lt' (si μ a0 1 v1) fun μ1 =>
  fX7_reset_L7 fu fu a0 v1 0 μ1
def fX4_reset (fu : Nat) (a0 : Nat) (v1 : Int32) (v2 : Int32) (v3 : Int32) (v4 : Int32) (v5 : Int32) (μ : Mm) : Option (Mm) :=
  lt' (si μ a0 0 v1) fun μ1 =>
  lt' (si μ1 a0 1 v2) fun μ2 =>
  lt' (si μ2 a0 2 v4) fun μ3 =>
  lt' (si μ3 a0 3 v5) fun μ4 =>
  lt' (si μ4 a0 4 0) fun μ5 =>
  bd (fX7_reset fu (μ5.2 a0 5) v3 μ5) fun μ6 =>
  some μ6
def fX4_hasRoom (a0 : Nat) (μ : Mm) : Int32 :=
  if (24 : Int32) ≤ (μ.1 a0 4) then
    0
  else
    1
def fX4_holds (a0 : Nat) (v1 : Int32) (v2 : Int32) (v3 : Int32) (v4 : Int32) (μ : Mm) : Int32 :=
  if v3 < 1 then
    0
  else
    if (μ.1 a0 0) < v3 then
      0
    else
      if v1 < 0 then
        0
      else
        if ((μ.1 a0 0) - v3) < v1 then
          0
        else
          if v4 < 1 then
            0
          else
            if (μ.1 a0 1) < v4 then
              0
            else
              if v2 < 0 then
                0
              else
                if ((μ.1 a0 1) - v4) < v2 then
                  0
                else
                  1
def fX4_givesTable (a0 : Nat) (v1 : Int32) (μ : Mm) : Int32 :=
  if v1 = 0 then
    if (μ.1 (μ.2 a0 5) 1) = 0 then
      0
    else
      1
  else
    1
def fX4_frameAt (a0 : Nat) (v1 : Int32) (μ : Mm) : Option (Option Nat) :=
  if v1 < 0 then
    some none
  else
    if (μ.1 a0 4) ≤ v1 then
      some none
    else
      gd (ib v1 24) <|
      some (some (μ.2 (μ.2 a0 6) v1.toNatClampNeg))
def fX4_tableOf (a0 : Nat) (a1 : Nat) (μ : Mm) : Nat :=
  if (μ.1 (μ.2 a1 5) 1) = 0 then
    μ.2 a0 5
  else
    μ.2 a1 5
def fX4_addFrame (fu : Nat) (a0 : Nat) (v1 : Int32) (v2 : Int32) (v3 : Int32) (v4 : Int32) (v5 : Int32) (v6 : Int32) (μ : Mm) : Option (Nat × Mm) :=
  gd (ib (μ.1 a0 4) 24) <|
  lt' (μ.2 (μ.2 a0 6) (μ.1 a0 4).toNatClampNeg) fun r2 =>
  bd (fX3_reset fu r2 v1 v2 v3 v4 μ) fun μ3 =>
  bd (fX7_reset fu (μ3.2 r2 5) v5 μ3) fun μ4 =>
  gd (b01 v6) <|
  lt' (si μ4 r2 4 v6) fun μ5 =>
  lt' (si μ5 a0 4 ((μ5.1 a0 4) + 1)) fun μ6 =>
  some (r2, μ6)
def fX4_shown (a0 : Nat) (a1 : Nat) (v2 : Int32) (v3 : Int32) (v4 : Int32) (μ : Mm) : Option (Int32) :=
  lt' (fX3_covers a1 v2 v3 μ) fun x1 =>
  if x1 = 0 then
    some v4
  else
    bd (fX3_indexAt a1 v2 v3 μ) fun x2 =>
    if x2 = (μ.1 (μ.2 a1 6) 1) then
      some v4
    else
      lt' (fX4_tableOf a0 a1 μ) fun r3 =>
      gd (ib x2 256) <|
      some (μ.1 (μ.2 r3 0) x2.toNatClampNeg)
def fX4_leftBehind (a0 : Nat) (a1 : Nat) (v2 : Int32) (v3 : Int32) (v4 : Int32) (v5 : Int32) (μ : Mm) : Option (Int32) :=
  lt' (fX3_covers a1 v2 v3 μ) fun x1 =>
  if x1 = 0 then
    some v4
  else
    if (μ.1 (μ.2 a1 6) 0) = 3 then
      some v4
    else
      if (μ.1 (μ.2 a1 6) 0) = 2 then
        some v5
      else
        bd (fX4_shown a0 a1 v2 v3 v4 μ) fun x2 =>
        some x2
def fX7_has (a0 : Nat) (v1 : Int32) (μ : Mm) : Int32 :=
  if v1 < 0 then
    0
  else
    if (μ.1 a0 1) ≤ v1 then
      0
    else
      1
def fX4_colourAt_B39 (rec39 : Nat → Int32 → Int32 → Int32 → Int32 → Int32 → Int32 → Mm → Option (Int32)) (fu : Nat) (a0 : Nat) (v1 : Int32) (v2 : Int32) (v3 : Int32) (v4 : Int32) (v5 : Int32) (v6 : Int32) (μ : Mm) : Option (Int32) :=
  if v1 ≤ v6 then
    gd (ib v1 24) <|
    bd (fX4_shown a0 (μ.2 (μ.2 a0 6) v1.toNatClampNeg) v2 v3 v5 μ) fun x2 =>
    some x2
  else
    gd (ib v6 24) <|
    bd (fX4_leftBehind a0 (μ.2 (μ.2 a0 6) v6.toNatClampNeg) v2 v3 v5 v4 μ) fun x4 =>
    lt' (v6 + 1) fun x5 =>
    rec39 a0 v1 v2 v3 v4 x4 x5 μ
def fX4_colourAt_L39 (fu : Nat) : Nat → Nat → Int32 → Int32 → Int32 → Int32 → Int32 → Int32 → Mm → Option (Int32)
  | 0 => fun _ _ _ _ _ _ _ _ => none
  | n + 1 => fX4_colourAt_B39 (fX4_colourAt_L39 fu n) fu
def fX4_colourAt_L30 (fu : Nat) (a0 : Nat) (v1 : Int32) (v2 : Int32) (v3 : Int32) (t0 : Int32) (μ : Mm) : Option (Int32) :=
  fX4_colourAt_L39 fu fu a0 v1 v2 v3 t0 t0 0 μ
def fX4_colourAt (fu : Nat) (a0 : Nat) (v1 : Int32) (v2 : Int32) (v3 : Int32) (μ : Mm) : Option (Int32) :=
  lt' (fX7_has (μ.2 a0 5) (μ.1 a0 2) μ) fun x1 =>
  if x1 = 0 then
    fX4_colourAt_L30 fu a0 v1 v2 v3 (-1) μ
  else
    gd (ib (μ.1 a0 2) 256) <|
    fX4_colourAt_L30 fu a0 v1 v2 v3 (μ.1 (μ.2 (μ.2 a0 5) 0) (μ.1 a0 2).toNatClampNeg) μ
def fX5_exchange (a0 : Nat) (a1 : Nat) (μ : Mm) : Nat × Mm :=
  lt' (μ.2 a0 3) fun r1 =>
  lt' (sr μ a0 3 a1) fun μ2 =>
  (r1, μ2)
def fJ9_min_7cf53 (v0 : Int32) (v1 : Int32) : Int32 :=
  if v1 < v0 then
    v1
  else
    v0
def fX5_dropControl (a0 : Nat) (μ : Mm) : Option (Mm) :=
  bd (fX8_reset (μ.2 a0 2) μ) fun μ1 =>
  lt' (si μ1 a0 7 0) fun μ2 =>
  some μ2
def fX5_refuse (a0 : Nat) (v1 : Int32) (v2 : Int32) (μ : Mm) : Mm :=
  if (μ.1 a0 9) = 0 then
    lt' (si μ a0 9 v1) fun μ1 =>
    lt' (si μ1 a0 10 v2) fun μ2 =>
    μ2
  else
    μ
def fX5_nextByte_L20 (a0 : Nat) (μ : Mm) : Option (Int32 × Mm) :=
  if (μ.1 a0 9) = 0 then
    lt' (si μ a0 5 ((μ.1 a0 5) + 1)) fun μ1 =>
    bd (fX0_at (μ1.2 a0 0) ((μ1.1 a0 5) - 1) μ1) fun x2 =>
    some (x2, μ1)
  else
    some (0, μ)
def fX5_nextByte (a0 : Nat) (μ : Mm) : Option (Int32 × Mm) :=
  if (μ.1 a0 5) < (μ.1 a0 4) then
    fX5_nextByte_L20 a0 μ
  else
    lt' (fX5_refuse a0 2 (μ.1 a0 4) μ) fun μ1 =>
    fX5_nextByte_L20 a0 μ1
def fX5_parseEnd (a0 : Nat) (μ : Mm) : Mm :=
  lt' (si μ a0 8 1) fun μ1 =>
  if (μ1.1 a0 4) ≤ (μ1.1 a0 5) then
    μ1
  else
    lt' (fX5_refuse a0 10 (μ1.1 a0 5) μ1) fun μ2 =>
    μ2
def fX5_expect (a0 : Nat) (v1 : Int32) (μ : Mm) : Option (Mm) :=
  lt' (μ.1 a0 5) fun x1 =>
  bd (fX5_nextByte a0 μ) fun q2 =>
  if q2.1 = v1 then
    some q2.2
  else
    lt' (fX5_refuse a0 5 x1 q2.2) fun μ3 =>
    some μ3
def fX5_gatherRows_B39 (rec12 : Nat → Int32 → Mm → Option (Mm)) (rec39 : Nat → Int32 → Int32 → Int32 → Mm → Option (Mm)) (fu : Nat) (a0 : Nat) (v1 : Int32) (v2 : Int32) (v3 : Int32) (μ : Mm) : Option (Mm) :=
  if v2 ≤ v3 then
    lt' (v1 + 1) fun x1 =>
    rec12 a0 x1 μ
  else
    bd (fX5_nextByte a0 μ) fun q2 =>
    bd (fX0_add (μ.2 (μ.2 a0 1) 0) q2.1 q2.2) fun μ3 =>
    lt' (v3 + 1) fun x4 =>
    rec39 a0 v1 v2 x4 μ3
def fX5_gatherRows_L39 (rec12 : Nat → Int32 → Mm → Option (Mm)) (fu : Nat) : Nat → Nat → Int32 → Int32 → Int32 → Mm → Option (Mm)
  | 0 => fun _ _ _ _ _ => none
  | n + 1 => fX5_gatherRows_B39 rec12 (fX5_gatherRows_L39 rec12 fu n) fu
def fX5_gatherRows_B12 (rec12 : Nat → Int32 → Mm → Option (Mm)) (fu : Nat) (a0 : Nat) (v1 : Int32) (μ : Mm) : Option (Mm) :=
  if (μ.1 a0 4) < v1 then
    some μ
  else
    if (μ.1 a0 9) = 0 then
      bd (fX5_nextByte a0 μ) fun q1 =>
      lt' q1.1 fun x2 =>
      if x2 = 0 then
        some q1.2
      else
        fX5_gatherRows_L39 rec12 fu fu a0 v1 x2 0 q1.2
    else
      some μ
def fX5_gatherRows_L12 (fu : Nat) : Nat → Nat → Int32 → Mm → Option (Mm)
  | 0 => fun _ _ _ => none
  | n + 1 => fX5_gatherRows_B12 (fX5_gatherRows_L12 fu n) fu
def fX5_gatherRows (fu : Nat) (a0 : Nat) (μ : Mm) : Option (Mm) :=
  lt' (fX0_clear (μ.2 (μ.2 a0 1) 0) μ) fun μ1 =>
  fX5_gatherRows_L12 fu fu a0 0 μ1
def fX5_nextNumber (a0 : Nat) (μ : Mm) : Option (Int32 × Mm) :=
  bd (fX5_nextByte a0 μ) fun q1 =>
  lt' q1.1 fun x2 =>
  bd (fX5_nextByte a0 q1.2) fun q3 =>
  some (x2 + (q3.1 <<< (8 &&& 31)), q3.2)
def fX5_parseControl_L62 (a0 : Nat) (o0 : Nat) (t1 : Int32) (t2 : Int32) (t3 : Int32) (t4 : Int32) (μ : Mm) : Option (Mm) :=
  bd (fX8_become o0 t1 t2 t3 t4 μ) fun μ1 =>
  lt' (si μ1 a0 7 1) fun μ2 =>
  some μ2
def fX5_parseControl_L36 (a0 : Nat) (v1 : Int32) (v2 : Int32) (t0 : Int32) (μ : Mm) : Option (Mm) :=
  if (v1 &&& 2) = 0 then
    fX5_parseControl_L62 a0 (μ.2 a0 2) ((v1 >>> (2 &&& 31)) &&& 7) t0 v2 0 μ
  else
    fX5_parseControl_L62 a0 (μ.2 a0 2) ((v1 >>> (2 &&& 31)) &&& 7) t0 v2 1 μ
def fX5_parseControl (a0 : Nat) (μ : Mm) : Option (Mm) :=
  bd (fX5_expect a0 4 μ) fun μ1 =>
  bd (fX5_nextByte a0 μ1) fun q2 =>
  lt' q2.1 fun x3 =>
  bd (fX5_nextNumber a0 q2.2) fun q4 =>
  lt' q4.1 fun x5 =>
  bd (fX5_nextByte a0 q4.2) fun q6 =>
  lt' q6.1 fun x7 =>
  bd (fX5_expect a0 0 q6.2) fun μ8 =>
  if (x3 &&& 1) = 0 then
    fX5_parseControl_L36 a0 x3 x5 (-1) μ8
  else
    fX5_parseControl_L36 a0 x3 x5 x7 μ8
def fX5_skip_B2 (rec2 : Nat → Int32 → Int32 → Mm → Option (Mm)) (fu : Nat) (a0 : Nat) (v1 : Int32) (v2 : Int32) (μ : Mm) : Option (Mm) :=
  if v1 ≤ v2 then
    some μ
  else
    bd (fX5_nextByte a0 μ) fun q1 =>
    lt' (v2 + 1) fun x2 =>
    rec2 a0 v1 x2 q1.2
def fX5_skip_L2 (fu : Nat) : Nat → Nat → Int32 → Int32 → Mm → Option (Mm)
  | 0 => fun _ _ _ _ => none
  | n + 1 => fX5_skip_B2 (fX5_skip_L2 fu n) fu
def fX5_skip (fu : Nat) (a0 : Nat) (v1 : Int32) (μ : Mm) : Option (Mm) :=
  fX5_skip_L2 fu fu a0 v1 0 μ
def fX5_parseExtension_L113 (fu : Nat) (a0 : Nat) (v1 : Int32) (μ : Mm) : Option (Mm) :=
  lt' (fX5_refuse a0 4 v1 μ) fun μ1 =>
  some μ1
def fX5_parseExtension_L80 (fu : Nat) (a0 : Nat) (v1 : Int32) (v2 : Int32) (μ : Mm) : Option (Mm) :=
  if v2 = 255 then
    if (μ.1 a0 7) = 0 then
      bd (fX5_expect a0 11 μ) fun μ1 =>
      bd (fX5_skip fu a0 11 μ1) fun μ2 =>
      bd (fX5_gatherRows fu a0 μ2) fun μ3 =>
      some μ3
    else
      fX5_parseExtension_L113 fu a0 v1 μ
  else
    fX5_parseExtension_L113 fu a0 v1 μ
def fX5_parseExtension_L59 (fu : Nat) (a0 : Nat) (v1 : Int32) (v2 : Int32) (μ : Mm) : Option (Mm) :=
  if v2 = 254 then
    if (μ.1 a0 7) = 0 then
      bd (fX5_gatherRows fu a0 μ) fun μ1 =>
      some μ1
    else
      fX5_parseExtension_L80 fu a0 v1 v2 μ
  else
    fX5_parseExtension_L80 fu a0 v1 v2 μ
def fX5_parseExtension (fu : Nat) (a0 : Nat) (μ : Mm) : Option (Mm) :=
  lt' (μ.1 a0 5) fun x1 =>
  bd (fX5_nextByte a0 μ) fun q2 =>
  lt' q2.1 fun x3 =>
  if x3 = 1 then
    bd (fX5_expect a0 12 q2.2) fun μ5 =>
    bd (fX5_skip fu a0 12 μ5) fun μ6 =>
    bd (fX5_gatherRows fu a0 μ6) fun μ7 =>
    bd (fX5_dropControl a0 μ7) fun μ8 =>
    some μ8
  else
    if x3 = 249 then
      if (q2.2.1 a0 7) = 0 then
        bd (fX5_parseControl a0 q2.2) fun μ4 =>
        some μ4
      else
        fX5_parseExtension_L59 fu a0 x1 x3 q2.2
    else
      fX5_parseExtension_L59 fu a0 x1 x3 q2.2
def fX5_parseTable_B2 (rec2 : Nat → Nat → Int32 → Mm → Option (Mm)) (fu : Nat) (a0 : Nat) (a1 : Nat) (v2 : Int32) (μ : Mm) : Option (Mm) :=
  if (μ.1 a1 1) ≤ v2 then
    some μ
  else
    bd (fX5_nextByte a0 μ) fun q1 =>
    lt' q1.1 fun x2 =>
    bd (fX5_nextByte a0 q1.2) fun q3 =>
    lt' q3.1 fun x4 =>
    bd (fX5_nextByte a0 q3.2) fun q5 =>
    lt' q5.1 fun x6 =>
    gd (ib v2 256) <|
    lt' (si q5.2 (q5.2.2 a1 0) v2.toNatClampNeg (((x2 <<< (16 &&& 31)) ||| (x4 <<< (8 &&& 31))) ||| x6)) fun μ7 =>
    lt' (v2 + 1) fun x8 =>
    rec2 a0 a1 x8 μ7
def fX5_parseTable_L2 (fu : Nat) : Nat → Nat → Nat → Int32 → Mm → Option (Mm)
  | 0 => fun _ _ _ _ => none
  | n + 1 => fX5_parseTable_B2 (fX5_parseTable_L2 fu n) fu
def fX5_parseTable (fu : Nat) (a0 : Nat) (a1 : Nat) (μ : Mm) : Option (Mm) :=
  fX5_parseTable_L2 fu fu a0 a1 0 μ
def fX7_sizeByMark (v0 : Int32) : Int32 :=
  if (v0 &&& 128) = 0 then
    0
  else
    2 <<< ((v0 &&& 7) &&& 31)
def fX8_copyFrom (a0 : Nat) (a1 : Nat) (μ : Mm) : Option (Mm) :=
  bd (fX8_become a0 (μ.1 a1 0) (μ.1 a1 1) (μ.1 a1 2) (μ.1 a1 3) μ) fun μ1 =>
  some μ1
def fX5_parseFrame_L121 (fu : Nat) (a0 : Nat) (o0 : Nat) (t1 : Int32) (t2 : Int32) (t3 : Int32) (t4 : Int32) (t5 : Int32) (t6 : Int32) (μ : Mm) : Option (Option Nat × Mm) :=
  bd (fX4_addFrame fu o0 t1 t2 t3 t4 t5 t6 μ) fun q1 =>
  lt' q1.1 fun r2 =>
  bd (fX8_copyFrom (q1.2.2 r2 6) (q1.2.2 a0 2) q1.2) fun μ3 =>
  bd (fX5_dropControl a0 μ3) fun μ4 =>
  bd (fX5_parseTable fu a0 (μ4.2 r2 5) μ4) fun μ5 =>
  some ((some r2), μ5)
def fX5_parseFrame_L87 (fu : Nat) (a0 : Nat) (v2 : Int32) (v3 : Int32) (v4 : Int32) (v5 : Int32) (v6 : Int32) (v7 : Int32) (μ : Mm) : Option (Option Nat × Mm) :=
  if (μ.1 a0 9) = 0 then
    if (v6 &&& 64) = 0 then
      fX5_parseFrame_L121 fu a0 (μ.2 a0 3) v2 v3 v4 v5 v7 0 μ
    else
      fX5_parseFrame_L121 fu a0 (μ.2 a0 3) v2 v3 v4 v5 v7 1 μ
  else
    some (none, μ)
def fX5_parseFrame_L55 (fu : Nat) (a0 : Nat) (v1 : Int32) (v2 : Int32) (v3 : Int32) (v4 : Int32) (v5 : Int32) (μ : Mm) : Option (Option Nat × Mm) :=
  bd (fX5_nextByte a0 μ) fun q1 =>
  lt' q1.1 fun x2 =>
  lt' (fX7_sizeByMark x2) fun x3 =>
  lt' (fX4_givesTable (q1.2.2 a0 3) x3 q1.2) fun x4 =>
  if x4 = 0 then
    lt' (fX5_refuse a0 7 v1 q1.2) fun μ5 =>
    fX5_parseFrame_L87 fu a0 v2 v3 v4 v5 x2 x3 μ5
  else
    fX5_parseFrame_L87 fu a0 v2 v3 v4 v5 x2 x3 q1.2
def fX5_parseFrame_L48 (fu : Nat) (a0 : Nat) (v1 : Int32) (v2 : Int32) (v3 : Int32) (v4 : Int32) (v5 : Int32) (μ : Mm) : Option (Option Nat × Mm) :=
  lt' (fX5_refuse a0 6 v1 μ) fun μ1 =>
  fX5_parseFrame_L55 fu a0 v1 v2 v3 v4 v5 μ1
def fX5_parseFrame (fu : Nat) (a0 : Nat) (v1 : Int32) (μ : Mm) : Option (Option Nat × Mm) :=
  bd (fX5_nextNumber a0 μ) fun q1 =>
  lt' q1.1 fun x2 =>
  bd (fX5_nextNumber a0 q1.2) fun q3 =>
  lt' q3.1 fun x4 =>
  bd (fX5_nextNumber a0 q3.2) fun q5 =>
  lt' q5.1 fun x6 =>
  bd (fX5_nextNumber a0 q5.2) fun q7 =>
  lt' q7.1 fun x8 =>
  lt' (fX4_hasRoom (q7.2.2 a0 3) q7.2) fun x9 =>
  if x9 = 0 then
    fX5_parseFrame_L48 fu a0 v1 x2 x4 x6 x8 q7.2
  else
    lt' (fX4_holds (q7.2.2 a0 3) x2 x4 x6 x8 q7.2) fun x10 =>
    if x10 = 0 then
      fX5_parseFrame_L48 fu a0 v1 x2 x4 x6 x8 q7.2
    else
      fX5_parseFrame_L55 fu a0 v1 x2 x4 x6 x8 q7.2
def fX5_parseImage_L37 (fu : Nat) (a0 : Nat) (n2 : Option Nat) (v3 : Int32) (v4 : Int32) (μ : Mm) : Option (Mm) :=
  bd (fX5_gatherRows fu a0 μ) fun μ1 =>
  if (μ1.1 a0 9) = 0 then
    oc n2 (
      some μ1) (fun b2 =>
      lt' (fX3_size b2 μ1) fun x3 =>
      lt' (fX4_tableOf (μ1.2 a0 3) b2 μ1) fun r4 =>
      bd (fX1_decode fu (μ1.2 a0 1) v4 x3 (μ1.1 r4 1) μ1) fun q5 =>
      if q5.1 = 0 then
        lt' (fX5_refuse a0 9 v3 q5.2) fun μ6 =>
        some μ6
      else
        bd (fX3_fromStreamOrder fu b2 (q5.2.2 (q5.2.2 a0 1) 1) q5.2) fun μ7 =>
        some μ7)
  else
    some μ1
def fX5_parseImage_L30 (fu : Nat) (a0 : Nat) (n2 : Option Nat) (v3 : Int32) (v4 : Int32) (μ : Mm) : Option (Mm) :=
  lt' (fX5_refuse a0 8 v3 μ) fun μ1 =>
  fX5_parseImage_L37 fu a0 n2 v3 v4 μ1
def fX5_parseImage (fu : Nat) (a0 : Nat) (v1 : Int32) (μ : Mm) : Option (Mm) :=
  bd (fX5_parseFrame fu a0 v1 μ) fun q1 =>
  lt' q1.1 fun n2 =>
  lt' (q1.2.1 a0 5) fun x3 =>
  bd (fX5_nextByte a0 q1.2) fun q4 =>
  lt' q4.1 fun x5 =>
  if x5 < 2 then
    fX5_parseImage_L30 fu a0 n2 x3 x5 q4.2
  else
    if x5 ≤ 8 then
      fX5_parseImage_L37 fu a0 n2 x3 x5 q4.2
    else
      fX5_parseImage_L30 fu a0 n2 x3 x5 q4.2
def fX5_parseBlock_L64 (fu : Nat) (a0 : Nat) (v1 : Int32) (μ : Mm) : Option (Mm) :=
  lt' (fX5_refuse a0 4 v1 μ) fun μ1 =>
  some μ1
def fX5_parseBlock_L44 (fu : Nat) (a0 : Nat) (v1 : Int32) (v2 : Int32) (μ : Mm) : Option (Mm) :=
  if v2 = 59 then
    if (μ.1 a0 7) = 0 then
      lt' (fX5_parseEnd a0 μ) fun μ1 =>
      some μ1
    else
      fX5_parseBlock_L64 fu a0 v1 μ
  else
    fX5_parseBlock_L64 fu a0 v1 μ
def fX5_parseBlock (fu : Nat) (a0 : Nat) (μ : Mm) : Option (Mm) :=
  lt' (μ.1 a0 5) fun x1 =>
  bd (fX5_nextByte a0 μ) fun q2 =>
  lt' q2.1 fun x3 =>
  if x3 = 44 then
    bd (fX5_parseImage fu a0 x1 q2.2) fun μ5 =>
    some μ5
  else
    if x3 = 33 then
      if (q2.2.1 a0 6) = 0 then
        bd (fX5_parseExtension fu a0 q2.2) fun μ4 =>
        some μ4
      else
        fX5_parseBlock_L44 fu a0 x1 x3 q2.2
    else
      fX5_parseBlock_L44 fu a0 x1 x3 q2.2
def fX9_isSide (v0 : Int32) : Int32 :=
  if v0 < 1 then
    0
  else
    if (64 : Int32) < v0 then
      0
    else
      1
def fX5_parseScreen_L38 (fu : Nat) (a0 : Nat) (v1 : Int32) (v2 : Int32) (μ : Mm) : Option (Mm) :=
  bd (fX5_nextByte a0 μ) fun q1 =>
  lt' q1.1 fun x2 =>
  bd (fX5_nextByte a0 q1.2) fun q3 =>
  lt' q3.1 fun x4 =>
  bd (fX5_nextByte a0 q3.2) fun q5 =>
  lt' q5.1 fun x6 =>
  if (q5.2.1 a0 9) = 0 then
    lt' (fX7_sizeByMark x2) fun x7 =>
    bd (fX4_reset fu (q5.2.2 a0 3) v1 v2 x7 x4 x6 q5.2) fun μ8 =>
    bd (fX5_parseTable fu a0 (μ8.2 (μ8.2 a0 3) 5) μ8) fun μ9 =>
    some μ9
  else
    some q5.2
def fX5_parseScreen_L19 (fu : Nat) (a0 : Nat) (v1 : Int32) (μ : Mm) : Option (Mm) :=
  bd (fX5_nextNumber a0 μ) fun q1 =>
  lt' q1.1 fun x2 =>
  lt' (fX9_isSide x2) fun x3 =>
  if x3 = 0 then
    lt' (fX5_refuse a0 3 8 q1.2) fun μ4 =>
    fX5_parseScreen_L38 fu a0 v1 x2 μ4
  else
    fX5_parseScreen_L38 fu a0 v1 x2 q1.2
def fX5_parseScreen (fu : Nat) (a0 : Nat) (μ : Mm) : Option (Mm) :=
  bd (fX5_nextNumber a0 μ) fun q1 =>
  lt' q1.1 fun x2 =>
  lt' (fX9_isSide x2) fun x3 =>
  if x3 = 0 then
    lt' (fX5_refuse a0 3 6 q1.2) fun μ4 =>
    fX5_parseScreen_L19 fu a0 x2 μ4
  else
    fX5_parseScreen_L19 fu a0 x2 q1.2
def fX5_parseStart_L61 (rec2 : Nat → Int32 → Mm → Option (Mm)) (fu : Nat) (a0 : Nat) (v1 : Int32) (o0 : Nat) (μ : Mm) : Option (Mm) :=
  lt' (si μ o0 6 1) fun μ1 =>
  lt' (v1 + 1) fun x2 =>
  rec2 a0 x2 μ1
def fX5_parseStart_L49 (rec2 : Nat → Int32 → Mm → Option (Mm)) (fu : Nat) (a0 : Nat) (v1 : Int32) (v3 : Int32) (μ : Mm) : Option (Mm) :=
  if (μ.1 a0 6) = 0 then
    if v3 = 0 then
      lt' (si μ a0 6 0) fun μ1 =>
      lt' (v1 + 1) fun x2 =>
      rec2 a0 x2 μ1
    else
      fX5_parseStart_L61 rec2 fu a0 v1 a0 μ
  else
    fX5_parseStart_L61 rec2 fu a0 v1 a0 μ
def fX5_parseStart_L29 (rec2 : Nat → Int32 → Mm → Option (Mm)) (fu : Nat) (a0 : Nat) (v1 : Int32) (v2 : Int32) (t0 : Int32) (μ : Mm) : Option (Mm) :=
  gd (ib v1 6) <|
  if v2 = (sT 0 v1.toNatClampNeg) then
    fX5_parseStart_L49 rec2 fu a0 v1 t0 μ
  else
    if t0 = 0 then
      lt' (fX5_refuse a0 1 0 μ) fun μ1 =>
      fX5_parseStart_L49 rec2 fu a0 v1 t0 μ1
    else
      fX5_parseStart_L49 rec2 fu a0 v1 t0 μ
def fX5_parseStart_L28 (rec2 : Nat → Int32 → Mm → Option (Mm)) (fu : Nat) (a0 : Nat) (v1 : Int32) (v2 : Int32) (μ : Mm) : Option (Mm) :=
  fX5_parseStart_L29 rec2 fu a0 v1 v2 0 μ
def fX5_parseStart_B2 (rec2 : Nat → Int32 → Mm → Option (Mm)) (fu : Nat) (a0 : Nat) (v1 : Int32) (μ : Mm) : Option (Mm) :=
  if (6 : Int32) ≤ v1 then
    some μ
  else
    bd (fX5_nextByte a0 μ) fun q1 =>
    lt' q1.1 fun x2 =>
    if v1 = 4 then
      if x2 = 55 then
        fX5_parseStart_L29 rec2 fu a0 v1 x2 1 q1.2
      else
        fX5_parseStart_L28 rec2 fu a0 v1 x2 q1.2
    else
      fX5_parseStart_L28 rec2 fu a0 v1 x2 q1.2
def fX5_parseStart_L2 (fu : Nat) : Nat → Nat → Int32 → Mm → Option (Mm)
  | 0 => fun _ _ _ => none
  | n + 1 => fX5_parseStart_B2 (fX5_parseStart_L2 fu n) fu
def fX5_parseStart (fu : Nat) (a0 : Nat) (μ : Mm) : Option (Mm) :=
  fX5_parseStart_L2 fu fu a0 0 μ
def fX5_parse_B54 (rec54 : Nat → Int32 → Mm → Option (Mm)) (fu : Nat) (a0 : Nat) (v2 : Int32) (μ : Mm) : Option (Mm) :=
  if (μ.1 a0 4) < v2 then
    some μ
  else
    if (μ.1 a0 9) = 0 then
      if (μ.1 a0 8) = 0 then
        bd (fX5_parseBlock fu a0 μ) fun μ1 =>
        lt' (v2 + 1) fun x2 =>
        rec54 a0 x2 μ1
      else
        some μ
    else
      some μ
def fX5_parse_L54 (fu : Nat) : Nat → Nat → Int32 → Mm → Option (Mm)
  | 0 => fun _ _ _ => none
  | n + 1 => fX5_parse_B54 (fX5_parse_L54 fu n) fu
def fX5_parse (fu : Nat) (a0 : Nat) (v1 : Int32) (μ : Mm) : Option (Mm) :=
  lt' (fJ9_min_7cf53 v1 (μ.1 (μ.2 a0 0) 1)) fun x1 =>
  lt' (si μ a0 4 x1) fun μ2 =>
  lt' (si μ2 a0 5 0) fun μ3 =>
  lt' (si μ3 a0 6 0) fun μ4 =>
  lt' (si μ4 a0 8 0) fun μ5 =>
  lt' (si μ5 a0 9 0) fun μ6 =>
  lt' (si μ6 a0 10 (-1)) fun μ7 =>
  bd (fX5_dropControl a0 μ7) fun μ8 =>
  bd (fX5_parseStart fu a0 μ8) fun μ9 =>
  bd (fX5_parseScreen fu a0 μ9) fun μ10 =>
  fX5_parse_L54 fu fu a0 0 μ10
def fX6_exchange (a0 : Nat) (a1 : Nat) (μ : Mm) : Nat × Mm :=
  lt' (μ.2 a0 1) fun r1 =>
  lt' (sr μ a0 1 a1) fun μ2 =>
  (r1, μ2)
def fX6_putControl_L104 (a0 : Nat) (o0 : Nat) (t1 : Int32) (μ : Mm) : Option (Mm) :=
  bd (fX0_add o0 t1 μ) fun μ1 =>
  bd (fX0_add (μ1.2 a0 1) 0 μ1) fun μ2 =>
  some μ2
def fX6_putControl_L73 (a0 : Nat) (a1 : Nat) (v2 : Int32) (o0 : Nat) (t1 : Int32) (t2 : Int32) (μ : Mm) : Option (Mm) :=
  bd (fX0_add o0 (t1 ||| t2) μ) fun μ1 =>
  bd (fX0_addTwo (μ1.2 a0 1) (μ1.1 a1 2) μ1) fun μ2 =>
  if v2 = 0 then
    fX6_putControl_L104 a0 (μ2.2 a0 1) (μ2.1 a1 1) μ2
  else
    fX6_putControl_L104 a0 (μ2.2 a0 1) 0 μ2
def fX6_putControl_L63 (a0 : Nat) (a1 : Nat) (v2 : Int32) (o0 : Nat) (t1 : Int32) (t2 : Int32) (μ : Mm) : Option (Mm) :=
  if v2 = 0 then
    fX6_putControl_L73 a0 a1 v2 o0 (t1 ||| t2) 1 μ
  else
    fX6_putControl_L73 a0 a1 v2 o0 (t1 ||| t2) 0 μ
def fX6_putControl_L13 (a0 : Nat) (a1 : Nat) (t0 : Int32) (μ : Mm) : Option (Mm) :=
  bd (fX0_add (μ.2 a0 1) 33 μ) fun μ1 =>
  bd (fX0_add (μ1.2 a0 1) 249 μ1) fun μ2 =>
  bd (fX0_add (μ2.2 a0 1) 4 μ2) fun μ3 =>
  if (μ3.1 a1 3) = 0 then
    fX6_putControl_L63 a0 a1 t0 (μ3.2 a0 1) ((μ3.1 a1 0) <<< (2 &&& 31)) 0 μ3
  else
    fX6_putControl_L63 a0 a1 t0 (μ3.2 a0 1) ((μ3.1 a1 0) <<< (2 &&& 31)) 2 μ3
def fX6_putControl (a0 : Nat) (a1 : Nat) (μ : Mm) : Option (Mm) :=
  if (μ.1 a1 1) = (-1) then
    fX6_putControl_L13 a0 a1 1 μ
  else
    fX6_putControl_L13 a0 a1 0 μ
def fX6_putRows_B42 (rec10 : Nat → Nat → Int32 → Mm → Option (Mm)) (rec42 : Nat → Nat → Int32 → Int32 → Int32 → Mm → Option (Mm)) (fu : Nat) (a0 : Nat) (a1 : Nat) (v2 : Int32) (v3 : Int32) (v4 : Int32) (μ : Mm) : Option (Mm) :=
  if v3 ≤ v4 then
    lt' (v2 + 255) fun x1 =>
    rec10 a0 a1 x1 μ
  else
    bd (fX0_at a1 (v2 + v4) μ) fun x2 =>
    bd (fX0_add (μ.2 a0 1) x2 μ) fun μ3 =>
    lt' (v4 + 1) fun x4 =>
    rec42 a0 a1 v2 v3 x4 μ3
def fX6_putRows_L42 (rec10 : Nat → Nat → Int32 → Mm → Option (Mm)) (fu : Nat) : Nat → Nat → Nat → Int32 → Int32 → Int32 → Mm → Option (Mm)
  | 0 => fun _ _ _ _ _ _ => none
  | n + 1 => fX6_putRows_B42 rec10 (fX6_putRows_L42 rec10 fu n) fu
def fX6_putRows_B10 (rec10 : Nat → Nat → Int32 → Mm → Option (Mm)) (fu : Nat) (a0 : Nat) (a1 : Nat) (v2 : Int32) (μ : Mm) : Option (Mm) :=
  if (μ.1 a1 1) ≤ v2 then
    bd (fX0_add (μ.2 a0 1) 0 μ) fun μ1 =>
    some μ1
  else
    lt' (fJ9_min_7cf53 255 ((μ.1 a1 1) - v2)) fun x2 =>
    bd (fX0_add (μ.2 a0 1) x2 μ) fun μ3 =>
    fX6_putRows_L42 rec10 fu fu a0 a1 v2 x2 0 μ3
def fX6_putRows_L10 (fu : Nat) : Nat → Nat → Nat → Int32 → Mm → Option (Mm)
  | 0 => fun _ _ _ _ => none
  | n + 1 => fX6_putRows_B10 (fX6_putRows_L10 fu n) fu
def fX6_putRows (fu : Nat) (a0 : Nat) (μ : Mm) : Option (Mm) :=
  lt' (μ.2 (μ.2 a0 0) 0) fun r1 =>
  fX6_putRows_L10 fu fu a0 r1 0 μ
def fX6_putTable_B2 (rec2 : Nat → Nat → Int32 → Mm → Option (Mm)) (fu : Nat) (a0 : Nat) (a1 : Nat) (v2 : Int32) (μ : Mm) : Option (Mm) :=
  if (μ.1 a1 1) ≤ v2 then
    some μ
  else
    gd (ib v2 256) <|
    lt' (μ.1 (μ.2 a1 0) v2.toNatClampNeg) fun x2 =>
    bd (fX0_add (μ.2 a0 1) (x2 >>> (16 &&& 31)) μ) fun μ3 =>
    bd (fX0_add (μ3.2 a0 1) (x2 >>> (8 &&& 31)) μ3) fun μ4 =>
    bd (fX0_add (μ4.2 a0 1) x2 μ4) fun μ5 =>
    lt' (v2 + 1) fun x6 =>
    rec2 a0 a1 x6 μ5
def fX6_putTable_L2 (fu : Nat) : Nat → Nat → Nat → Int32 → Mm → Option (Mm)
  | 0 => fun _ _ _ _ => none
  | n + 1 => fX6_putTable_B2 (fX6_putTable_L2 fu n) fu
def fX6_putTable (fu : Nat) (a0 : Nat) (a1 : Nat) (μ : Mm) : Option (Mm) :=
  fX6_putTable_L2 fu fu a0 a1 0 μ
def fJ6_numberOfTrailingZeros_0f7a4_L74 (v0 : Int32) (v1 : Int32) : Int32 :=
  v1 + ((v0.toUInt32 >>> ((1 : Int32).toUInt32 &&& Int32.toUInt32 31)).toInt32)
def fJ6_numberOfTrailingZeros_0f7a4_L62 (v0 : Int32) (v1 : Int32) : Int32 :=
  if v0 ≤ 4 then
    fJ6_numberOfTrailingZeros_0f7a4_L74 v0 v1
  else
    lt' (v1 + 2) fun x1 =>
    lt' ((v0.toUInt32 >>> ((2 : Int32).toUInt32 &&& Int32.toUInt32 31)).toInt32) fun x2 =>
    fJ6_numberOfTrailingZeros_0f7a4_L74 x2 x1
def fJ6_numberOfTrailingZeros_0f7a4_L49 (v0 : Int32) (v1 : Int32) : Int32 :=
  if v0 ≤ 16 then
    fJ6_numberOfTrailingZeros_0f7a4_L62 v0 v1
  else
    lt' (v1 + 4) fun x1 =>
    lt' ((v0.toUInt32 >>> ((4 : Int32).toUInt32 &&& Int32.toUInt32 31)).toInt32) fun x2 =>
    fJ6_numberOfTrailingZeros_0f7a4_L62 x2 x1
def fJ6_numberOfTrailingZeros_0f7a4_L34 (v0 : Int32) (v1 : Int32) : Int32 :=
  if v0 ≤ 256 then
    fJ6_numberOfTrailingZeros_0f7a4_L49 v0 v1
  else
    lt' (v1 + 8) fun x1 =>
    lt' ((v0.toUInt32 >>> ((8 : Int32).toUInt32 &&& Int32.toUInt32 31)).toInt32) fun x2 =>
    fJ6_numberOfTrailingZeros_0f7a4_L49 x2 x1
def fJ6_numberOfTrailingZeros_0f7a4 (v0 : Int32) : Int32 :=
  lt' ((v0 ^^^ (-1)) &&& (v0 - 1)) fun x1 =>
  if (0 : Int32) < x1 then
    if x1 ≤ 65536 then
      fJ6_numberOfTrailingZeros_0f7a4_L34 x1 1
    else
      lt' (1 + 16) fun x2 =>
      lt' ((x1.toUInt32 >>> ((16 : Int32).toUInt32 &&& Int32.toUInt32 31)).toInt32) fun x3 =>
      fJ6_numberOfTrailingZeros_0f7a4_L34 x3 x2
  else
    x1 &&& 32
def fX7_power (a0 : Nat) (μ : Mm) : Int32 :=
  lt' (fJ6_numberOfTrailingZeros_0f7a4 (μ.1 a0 1)) fun x1 =>
  x1
def fX7_mark (a0 : Nat) (μ : Mm) : Int32 :=
  if (μ.1 a0 1) = 0 then
    0
  else
    lt' (fX7_power a0 μ) fun x1 =>
    (128 + x1) - 1
def fX6_putImage_L77 (fu : Nat) (a0 : Nat) (a1 : Nat) (v2 : Int32) (o0 : Nat) (t1 : Int32) (t2 : Int32) (μ : Mm) : Option (Mm) :=
  bd (fX0_add o0 (t1 + t2) μ) fun μ1 =>
  bd (fX6_putTable fu a0 (μ1.2 a1 5) μ1) fun μ2 =>
  bd (fX0_add (μ2.2 a0 1) v2 μ2) fun μ3 =>
  bd (fX3_toStreamOrder fu a1 (μ3.2 (μ3.2 a0 0) 1) μ3) fun μ4 =>
  lt' (fX3_size a1 μ4) fun x5 =>
  bd (fX2_encode fu (μ4.2 a0 0) x5 v2 μ4) fun μ6 =>
  bd (fX6_putRows fu a0 μ6) fun μ7 =>
  some μ7
def fX6_putImage (fu : Nat) (a0 : Nat) (a1 : Nat) (v2 : Int32) (μ : Mm) : Option (Mm) :=
  bd (fX0_add (μ.2 a0 1) 44 μ) fun μ1 =>
  bd (fX0_addTwo (μ1.2 a0 1) (μ1.1 a1 0) μ1) fun μ2 =>
  bd (fX0_addTwo (μ2.2 a0 1) (μ2.1 a1 1) μ2) fun μ3 =>
  bd (fX0_addTwo (μ3.2 a0 1) (μ3.1 a1 2) μ3) fun μ4 =>
  bd (fX0_addTwo (μ4.2 a0 1) (μ4.1 a1 3) μ4) fun μ5 =>
  lt' (fX7_mark (μ5.2 a1 5) μ5) fun x6 =>
  if (μ5.1 a1 4) = 0 then
    fX6_putImage_L77 fu a0 a1 v2 (μ5.2 a0 1) x6 0 μ5
  else
    fX6_putImage_L77 fu a0 a1 v2 (μ5.2 a0 1) x6 64 μ5
def fX6_putScreen_B2 (rec2 : Nat → Nat → Int32 → Mm → Option (Mm)) (fu : Nat) (a0 : Nat) (a1 : Nat) (v2 : Int32) (μ : Mm) : Option (Mm) :=
  if (6 : Int32) ≤ v2 then
    bd (fX0_addTwo (μ.2 a0 1) (μ.1 a1 0) μ) fun μ1 =>
    bd (fX0_addTwo (μ1.2 a0 1) (μ1.1 a1 1) μ1) fun μ2 =>
    lt' (fX7_mark (μ2.2 a1 5) μ2) fun x3 =>
    bd (fX0_add (μ2.2 a0 1) (x3 + 112) μ2) fun μ4 =>
    bd (fX0_add (μ4.2 a0 1) (μ4.1 a1 2) μ4) fun μ5 =>
    bd (fX0_add (μ5.2 a0 1) (μ5.1 a1 3) μ5) fun μ6 =>
    bd (fX6_putTable fu a0 (μ6.2 a1 5) μ6) fun μ7 =>
    some μ7
  else
    gd (ib v2 6) <|
    bd (fX0_add (μ.2 a0 1) (sT 0 v2.toNatClampNeg) μ) fun μ8 =>
    lt' (v2 + 1) fun x9 =>
    rec2 a0 a1 x9 μ8
def fX6_putScreen_L2 (fu : Nat) : Nat → Nat → Nat → Int32 → Mm → Option (Mm)
  | 0 => fun _ _ _ _ => none
  | n + 1 => fX6_putScreen_B2 (fX6_putScreen_L2 fu n) fu
def fX6_putScreen (fu : Nat) (a0 : Nat) (a1 : Nat) (μ : Mm) : Option (Mm) :=
  fX6_putScreen_L2 fu fu a0 a1 0 μ
def fX6_compose_L70 (fu : Nat) (a0 : Nat) (μ : Mm) : Option (Int32 × Mm) :=
  bd (fX0_add (μ.2 a0 1) 59 μ) fun μ1 =>
  if (μ1.1 (μ1.2 a0 1) 2) = 0 then
    some (1, μ1)
  else
    some (0, μ1)
def fX6_compose_B14 (rec14 : Nat → Nat → Int32 → Mm → Option (Int32 × Mm)) (fu : Nat) (a0 : Nat) (a1 : Nat) (v2 : Int32) (μ : Mm) : Option (Int32 × Mm) :=
  if (μ.1 a1 4) ≤ v2 then
    fX6_compose_L70 fu a0 μ
  else
    if (μ.1 (μ.2 a0 1) 2) = 0 then
      gd (ib v2 24) <|
      lt' (μ.2 (μ.2 a1 6) v2.toNatClampNeg) fun r2 =>
      bd (fX6_putControl a0 (μ.2 r2 6) μ) fun μ3 =>
      lt' (fX4_tableOf a1 r2 μ3) fun r4 =>
      lt' (fX7_power r4 μ3) fun x5 =>
      lt' (fJ9_max_7cf53 x5 2) fun x6 =>
      bd (fX6_putImage fu a0 r2 x6 μ3) fun μ7 =>
      lt' (v2 + 1) fun x8 =>
      rec14 a0 a1 x8 μ7
    else
      fX6_compose_L70 fu a0 μ
def fX6_compose_L14 (fu : Nat) : Nat → Nat → Nat → Int32 → Mm → Option (Int32 × Mm)
  | 0 => fun _ _ _ _ => none
  | n + 1 => fX6_compose_B14 (fX6_compose_L14 fu n) fu
def fX6_compose (fu : Nat) (a0 : Nat) (a1 : Nat) (μ : Mm) : Option (Int32 × Mm) :=
  lt' (fX0_clear (μ.2 a0 1) μ) fun μ1 =>
  bd (fX6_putScreen fu a0 a1 μ1) fun μ2 =>
  fX6_compose_L14 fu fu a0 a1 0 μ2
def fX9_feed (a0 : Nat) (v1 : Int32) (v2 : Int32) (v3 : Int32) (v4 : Int32) (v5 : Int32) (μ : Mm) : Option (Int32 × Mm) :=
  if (μ.1 (μ.2 a0 0) 1) ≤ 11980 then
    bd (fX0_addFour (μ.2 a0 0) v1 μ) fun μ1 =>
    bd (fX0_addFour (μ1.2 a0 0) v2 μ1) fun μ2 =>
    bd (fX0_addFour (μ2.2 a0 0) v3 μ2) fun μ3 =>
    bd (fX0_addFour (μ3.2 a0 0) v4 μ3) fun μ4 =>
    bd (fX0_addFour (μ4.2 a0 0) v5 μ4) fun μ5 =>
    some (μ5.1 (μ5.2 a0 0) 1, μ5)
  else
    some ((-1), μ)
def fX9_take (a0 : Nat) (μ : Mm) : Option (Int32 × Mm) :=
  bd (fX0_copyFrom (μ.2 a0 0) (μ.2 a0 4) μ) fun μ1 =>
  some (μ1.1 (μ1.2 a0 0) 1, μ1)
def fX9_read (fu : Nat) (a0 : Nat) (v1 : Int32) (μ : Mm) : Option (Int32 × Mm) :=
  if v1 < 0 then
    some ((-2), μ)
  else
    if v1 ≤ (μ.1 (μ.2 a0 0) 1) then
      bd (fX5_parse fu (μ.2 a0 1) v1 μ) fun μ1 =>
      lt' (si μ1 a0 5 1) fun μ2 =>
      lt' (fX0_clear (μ2.2 a0 0) μ2) fun μ3 =>
      if (μ3.1 (μ3.2 a0 1) 9) = 0 then
        lt' (fX5_exchange (μ3.2 a0 1) (μ3.2 a0 3) μ3) fun q4 =>
        lt' (sr q4.2 a0 3 q4.1) fun μ5 =>
        some (μ5.1 (μ5.2 a0 3) 4, μ5)
      else
        some ((-1), μ3)
    else
      some ((-2), μ)
def fX9_fault (a0 : Nat) (v1 : Int32) (μ : Mm) : Int32 :=
  if (μ.1 a0 5) = 0 then
    (-1)
  else
    if v1 = 0 then
      μ.1 (μ.2 a0 1) 9
    else
      if v1 = 1 then
        μ.1 (μ.2 a0 1) 10
      else
        (-1)
def fX9_isByte (v0 : Int32) : Int32 :=
  if v0 < 0 then
    0
  else
    if (255 : Int32) < v0 then
      0
    else
      1
def fJ6_bitCount_0f7a4 (v0 : Int32) : Int32 :=
  lt' (v0 - (((v0.toUInt32 >>> ((1 : Int32).toUInt32 &&& Int32.toUInt32 31)).toInt32) &&& 1431655765)) fun x1 =>
  lt' ((x1 &&& 858993459) + (((x1.toUInt32 >>> ((2 : Int32).toUInt32 &&& Int32.toUInt32 31)).toInt32) &&& 858993459)) fun x2 =>
  lt' ((x2 + ((x2.toUInt32 >>> ((4 : Int32).toUInt32 &&& Int32.toUInt32 31)).toInt32)) &&& 252645135) fun x3 =>
  lt' (x3 + ((x3.toUInt32 >>> ((8 : Int32).toUInt32 &&& Int32.toUInt32 31)).toInt32)) fun x4 =>
  lt' (x4 + ((x4.toUInt32 >>> ((16 : Int32).toUInt32 &&& Int32.toUInt32 31)).toInt32)) fun x5 =>
  x5 &&& 63
def fX9_isTableSize (v0 : Int32) : Int32 :=
  if v0 = 0 then
    1
  else
    if v0 < 2 then
      0
    else
      if (256 : Int32) < v0 then
        0
      else
        lt' (fJ6_bitCount_0f7a4 v0) fun x1 =>
        if x1 = 1 then
          1
        else
          0
def fX9_begin (fu : Nat) (a0 : Nat) (v1 : Int32) (v2 : Int32) (v3 : Int32) (v4 : Int32) (μ : Mm) : Option (Int32 × Mm) :=
  lt' (fX9_isSide v1) fun x1 =>
  if x1 = 0 then
    some (0, μ)
  else
    lt' (fX9_isSide v2) fun x2 =>
    if x2 = 0 then
      some (0, μ)
    else
      lt' (fX9_isTableSize v3) fun x3 =>
      if x3 = 0 then
        some (0, μ)
      else
        lt' (fX9_isByte v4) fun x4 =>
        if x4 = 0 then
          some (0, μ)
        else
          bd (fX4_reset fu (μ.2 a0 3) v1 v2 v3 v4 0 μ) fun μ5 =>
          some (1, μ5)
def fX9_tableAt (a0 : Nat) (v1 : Int32) (μ : Mm) : Option (Option Nat) :=
  if v1 = (-1) then
    some (some (μ.2 (μ.2 a0 3) 5))
  else
    bd (fX4_frameAt (μ.2 a0 3) v1 μ) fun r1 =>
    oc r1 (
      some none) (fun b2 =>
      some (some (μ.2 b2 5)))
def fX9_colour (a0 : Nat) (v1 : Int32) (v2 : Int32) (v3 : Int32) (μ : Mm) : Option (Int32 × Mm) :=
  bd (fX9_tableAt a0 v1 μ) fun r1 =>
  oc r1 (
    some (0, μ)) (fun b2 =>
    lt' (fX7_has b2 v2 μ) fun x3 =>
    if x3 = 0 then
      some (0, μ)
    else
      if v3 < 0 then
        some (0, μ)
      else
        if v3 ≤ 16777215 then
          gd (ib v2 256) <|
          lt' (si μ (μ.2 b2 0) v2.toNatClampNeg v3) fun μ4 =>
          some (1, μ4)
        else
          some (0, μ))
def fX9_frame (fu : Nat) (a0 : Nat) (v1 : Int32) (v2 : Int32) (v3 : Int32) (v4 : Int32) (v5 : Int32) (v6 : Int32) (μ : Mm) : Option (Int32 × Mm) :=
  lt' (fX4_hasRoom (μ.2 a0 3) μ) fun x1 =>
  if x1 = 0 then
    some ((-1), μ)
  else
    lt' (fX4_holds (μ.2 a0 3) v1 v2 v3 v4 μ) fun x2 =>
    if x2 = 0 then
      some ((-1), μ)
    else
      lt' (fX9_isTableSize v5) fun x3 =>
      if x3 = 0 then
        some ((-1), μ)
      else
        lt' (fX4_givesTable (μ.2 a0 3) v5 μ) fun x4 =>
        if x4 = 0 then
          some ((-1), μ)
        else
          bd (fX4_addFrame fu (μ.2 a0 3) v1 v2 v3 v4 v5 v6 μ) fun q5 =>
          some ((q5.2.1 (q5.2.2 a0 3) 4) - 1, q5.2)
def fX9_control_L53 (v2 : Int32) (v3 : Int32) (v4 : Int32) (v5 : Int32) (a6 : Nat) (μ : Mm) : Option (Int32 × Mm) :=
  bd (fX8_become (μ.2 a6 6) v2 v3 v4 v5 μ) fun μ1 =>
  some (1, μ1)
def fX9_control (a0 : Nat) (v1 : Int32) (v2 : Int32) (v3 : Int32) (v4 : Int32) (v5 : Int32) (μ : Mm) : Option (Int32 × Mm) :=
  bd (fX4_frameAt (μ.2 a0 3) v1 μ) fun r1 =>
  oc r1 (
    some (0, μ)) (fun b2 =>
    if v2 < 0 then
      some (0, μ)
    else
      if (7 : Int32) < v2 then
        some (0, μ)
      else
        if v4 < 0 then
          some (0, μ)
        else
          if v4 ≤ 65535 then
            if v3 = (-1) then
              fX9_control_L53 v2 v3 v4 v5 b2 μ
            else
              lt' (fX9_isByte v3) fun x3 =>
              if x3 = 0 then
                some (0, μ)
              else
                fX9_control_L53 v2 v3 v4 v5 b2 μ
          else
            some (0, μ))
def fX9_paint (fu : Nat) (a0 : Nat) (v1 : Int32) (v2 : Int32) (v3 : Int32) (v4 : Int32) (μ : Mm) : Option (Int32 × Mm) :=
  bd (fX4_frameAt (μ.2 a0 3) v1 μ) fun r1 =>
  oc r1 (
    some (0, μ)) (fun b2 =>
    if v2 < 0 then
      some (0, μ)
    else
      if v3 < 0 then
        some (0, μ)
      else
        lt' (fX3_size b2 μ) fun x3 =>
        if x3 < v2 then
          some (0, μ)
        else
          lt' (fX3_size b2 μ) fun x4 =>
          if v3 ≤ (x4 - v2) then
            lt' (fX4_tableOf (μ.2 a0 3) b2 μ) fun r5 =>
            lt' (fX7_has r5 v4 μ) fun x6 =>
            if x6 = 0 then
              some (0, μ)
            else
              bd (fX3_fill fu b2 v2 (v2 + v3) v4 μ) fun μ7 =>
              some (1, μ7)
          else
            some (0, μ))
def fX9_write (fu : Nat) (a0 : Nat) (μ : Mm) : Option (Int32 × Mm) :=
  bd (fX6_compose fu (μ.2 a0 2) (μ.2 a0 3) μ) fun q1 =>
  if q1.1 = 0 then
    some ((-1), q1.2)
  else
    lt' (fX6_exchange (q1.2.2 a0 2) (q1.2.2 a0 4) q1.2) fun q2 =>
    lt' (sr q2.2 a0 4 q2.1) fun μ3 =>
    some (μ3.1 (μ3.2 a0 4) 1, μ3)
def fX9_out (a0 : Nat) (v1 : Int32) (μ : Mm) : Option (Int32) :=
  bd (fX0_at (μ.2 a0 4) v1 μ) fun x1 =>
  some x1
def fX9_about (a0 : Nat) (v1 : Int32) (μ : Mm) : Int32 :=
  if v1 = 0 then
    μ.1 (μ.2 a0 3) 0
  else
    if v1 = 1 then
      μ.1 (μ.2 a0 3) 1
    else
      if v1 = 2 then
        μ.1 (μ.2 (μ.2 a0 3) 5) 1
      else
        if v1 = 3 then
          μ.1 (μ.2 a0 3) 2
        else
          if v1 = 4 then
            μ.1 (μ.2 a0 3) 3
          else
            if v1 = 5 then
              μ.1 (μ.2 a0 3) 4
            else
              if v1 = 6 then
                μ.1 (μ.2 a0 0) 1
              else
                if v1 = 7 then
                  μ.1 (μ.2 a0 4) 1
                else
                  (-1)
def fX9_frameOf (a0 : Nat) (v1 : Int32) (v2 : Int32) (μ : Mm) : Option (Int32) :=
  bd (fX4_frameAt (μ.2 a0 3) v1 μ) fun r1 =>
  oc r1 (
    some (-1)) (fun b2 =>
    if v2 = 0 then
      some (μ.1 b2 0)
    else
      if v2 = 1 then
        some (μ.1 b2 1)
      else
        if v2 = 2 then
          some (μ.1 b2 2)
        else
          if v2 = 3 then
            some (μ.1 b2 3)
          else
            if v2 = 4 then
              some (μ.1 (μ.2 b2 5) 1)
            else
              if v2 = 5 then
                if (μ.1 b2 4) = 0 then
                  some 0
                else
                  some 1
              else
                if v2 = 6 then
                  some (μ.1 (μ.2 b2 6) 0)
                else
                  if v2 = 7 then
                    some (μ.1 (μ.2 b2 6) 1)
                  else
                    if v2 = 8 then
                      some (μ.1 (μ.2 b2 6) 2)
                    else
                      if v2 = 9 then
                        if (μ.1 (μ.2 b2 6) 3) = 0 then
                          some 0
                        else
                          some 1
                      else
                        some (-1))
def fX9_colourOf (a0 : Nat) (v1 : Int32) (v2 : Int32) (μ : Mm) : Option (Int32) :=
  bd (fX9_tableAt a0 v1 μ) fun r1 =>
  oc r1 (
    some (-1)) (fun b2 =>
    lt' (fX7_has b2 v2 μ) fun x3 =>
    if x3 = 0 then
      some (-1)
    else
      gd (ib v2 256) <|
      some (μ.1 (μ.2 b2 0) v2.toNatClampNeg))
def fX9_index (a0 : Nat) (v1 : Int32) (v2 : Int32) (μ : Mm) : Option (Int32) :=
  bd (fX4_frameAt (μ.2 a0 3) v1 μ) fun r1 =>
  oc r1 (
    some (-1)) (fun b2 =>
    if v2 < 0 then
      some (-1)
    else
      lt' (fX3_size b2 μ) fun x3 =>
      if v2 < x3 then
        gd (ib v2 4096) <|
        some (μ.1 (μ.2 b2 7) v2.toNatClampNeg)
      else
        some (-1))
def fX9_canvas (fu : Nat) (a0 : Nat) (v1 : Int32) (v2 : Int32) (v3 : Int32) (μ : Mm) : Option (Int32) :=
  bd (fX4_frameAt (μ.2 a0 3) v1 μ) fun r1 =>
  oc r1 (
    some (-2)) (fun b2 =>
    if v2 < 0 then
      some (-2)
    else
      if (μ.1 (μ.2 a0 3) 0) ≤ v2 then
        some (-2)
      else
        if v3 < 0 then
          some (-2)
        else
          if v3 < (μ.1 (μ.2 a0 3) 1) then
            bd (fX4_colourAt fu (μ.2 a0 3) v1 v2 v3 μ) fun x3 =>
            some x3
          else
            some (-2))
def fX10_field (a0 : Nat) (v1 : Int32) (v2 : Int32) (v3 : Int32) (μ : Mm) : Option (Int32) :=
  gd (ib (((240 * v1) + (10 * v2)) + v3) 480) <|
  some (μ.1 (μ.2 a0 9) (((240 * v1) + (10 * v2)) + v3).toNatClampNeg)
def fX10_setField (a0 : Nat) (v1 : Int32) (v2 : Int32) (v3 : Int32) (v4 : Int32) (μ : Mm) : Option (Mm) :=
  gd (ib (((240 * v1) + (10 * v2)) + v3) 480) <|
  lt' (si μ (μ.2 a0 9) (((240 * v1) + (10 * v2)) + v3).toNatClampNeg v4) fun μ1 =>
  some μ1
def fX10_indexAt (a0 : Nat) (v1 : Int32) (v2 : Int32) (v3 : Int32) (μ : Mm) : Option (Int32) :=
  gd (ib (((98304 * v1) + (4096 * v2)) + v3) 196608) <|
  some (μ.1 (μ.2 a0 11) (((98304 * v1) + (4096 * v2)) + v3).toNatClampNeg)
def fX10_setIndex (a0 : Nat) (v1 : Int32) (v2 : Int32) (v3 : Int32) (v4 : Int32) (μ : Mm) : Option (Mm) :=
  gd (ib (((98304 * v1) + (4096 * v2)) + v3) 196608) <|
  lt' (si μ (μ.2 a0 11) (((98304 * v1) + (4096 * v2)) + v3).toNatClampNeg (vp_nar .short v4.toInt16.toInt32)) fun μ1 =>
  some μ1
def fX10_localAt (v0 : Int32) (v1 : Int32) (v2 : Int32) : Int32 :=
  ((6144 * v0) + (256 * v1)) + v2
def fX10_frames (a0 : Nat) (μ : Mm) : Option (Int32) :=
  gd (ib ((6 * (μ.1 a0 6)) + 5) 12) <|
  some (μ.1 (μ.2 a0 7) ((6 * (μ.1 a0 6)) + 5).toNatClampNeg)
def fX10_isFrame (a0 : Nat) (v1 : Int32) (μ : Mm) : Option (Int32) :=
  if v1 < 0 then
    some 0
  else
    bd (fX10_frames a0 μ) fun x1 =>
    if x1 ≤ v1 then
      some 0
    else
      some 1
def fX10_places (a0 : Nat) (v1 : Int32) (v2 : Int32) (μ : Mm) : Option (Int32) :=
  bd (fX10_field a0 v1 v2 2 μ) fun x1 =>
  bd (fX10_field a0 v1 v2 3 μ) fun x2 =>
  some (x1 * x2)
def fX10_colours (a0 : Nat) (v1 : Int32) (v2 : Int32) (μ : Mm) : Option (Int32) :=
  bd (fX10_field a0 v1 v2 4 μ) fun x1 =>
  if x1 ≤ 0 then
    gd (ib ((6 * v1) + 2) 12) <|
    some (μ.1 (μ.2 a0 7) ((6 * v1) + 2).toNatClampNeg)
  else
    bd (fX10_field a0 v1 v2 4 μ) fun x3 =>
    some x3
def fX10_within_B2 (rec2 : Nat → Int32 → Int32 → Int32 → Mm → Option (Int32 × Mm)) (fu : Nat) (a0 : Nat) (v1 : Int32) (v2 : Int32) (v3 : Int32) (μ : Mm) : Option (Int32 × Mm) :=
  if (4 : Int32) ≤ v3 then
    some (v1 + 4, μ)
  else
    gd (ib (v1 + v3) 12020) <|
    lt' (si μ a0 (v1 + v3).toNatClampNeg (vp_nar .byte ((v2 >>> ((24 - (8 * v3)) &&& 31)).toInt8.toInt32))) fun μ1 =>
    lt' (v3 + 1) fun x2 =>
    rec2 a0 v1 v2 x2 μ1
def fX10_within_L2 (fu : Nat) : Nat → Nat → Int32 → Int32 → Int32 → Mm → Option (Int32 × Mm)
  | 0 => fun _ _ _ _ _ => none
  | n + 1 => fX10_within_B2 (fX10_within_L2 fu n) fu
def fX10_within (fu : Nat) (a0 : Nat) (v1 : Int32) (v2 : Int32) (μ : Mm) : Option (Int32 × Mm) :=
  fX10_within_L2 fu fu a0 v1 v2 0 μ
def fX10_feed (fu : Nat) (a0 : Nat) (v1 : Int32) (v2 : Int32) (v3 : Int32) (v4 : Int32) (v5 : Int32) (μ : Mm) : Option (Int32 × Mm) :=
  if ((μ.1 a0 2) + 20) ≤ 12000 then
    bd (fX10_within fu (μ.2 a0 0) (μ.1 a0 2) v1 μ) fun q1 =>
    lt' q1.1 fun x2 =>
    bd (fX10_within fu (q1.2.2 a0 0) x2 v2 q1.2) fun q3 =>
    lt' q3.1 fun x4 =>
    bd (fX10_within fu (q3.2.2 a0 0) x4 v3 q3.2) fun q5 =>
    lt' q5.1 fun x6 =>
    bd (fX10_within fu (q5.2.2 a0 0) x6 v4 q5.2) fun q7 =>
    lt' q7.1 fun x8 =>
    bd (fX10_within fu (q7.2.2 a0 0) x8 v5 q7.2) fun q9 =>
    lt' (si q9.2 a0 2 q9.1) fun μ10 =>
    some (μ10.1 a0 2, μ10)
  else
    some ((-1), μ)
def fX10_take_B2 (rec2 : Nat → Int32 → Mm → Option (Int32 × Mm)) (fu : Nat) (a0 : Nat) (v1 : Int32) (μ : Mm) : Option (Int32 × Mm) :=
  if (μ.1 a0 3) ≤ v1 then
    lt' (si μ a0 2 (μ.1 a0 3)) fun μ1 =>
    some (μ1.1 a0 2, μ1)
  else
    gd (ib v1 12020) <|
    gd (ib v1 12020) <|
    lt' (si μ (μ.2 a0 0) v1.toNatClampNeg (vp_nar .byte (μ.1 (μ.2 a0 1) v1.toNatClampNeg))) fun μ3 =>
    lt' (v1 + 1) fun x4 =>
    rec2 a0 x4 μ3
def fX10_take_L2 (fu : Nat) : Nat → Nat → Int32 → Mm → Option (Int32 × Mm)
  | 0 => fun _ _ _ => none
  | n + 1 => fX10_take_B2 (fX10_take_L2 fu n) fu
def fX10_take (fu : Nat) (a0 : Nat) (μ : Mm) : Option (Int32 × Mm) :=
  fX10_take_L2 fu fu a0 0 μ
def fX10_wrong (a0 : Nat) (v1 : Int32) (v2 : Int32) (μ : Mm) : Mm :=
  if (μ.1 a0 4) = 0 then
    lt' (si μ a0 4 v1) fun μ1 =>
    lt' (si μ1 a0 5 v2) fun μ2 =>
    μ2
  else
    μ
def fX10_good (a0 : Nat) (μ : Mm) : Int32 :=
  if (μ.1 a0 4) = 0 then
    1
  else
    0
def fX10_one_L27 (a0 : Nat) (μ : Mm) : Option (Int32 × Mm) :=
  lt' (fX10_good a0 μ) fun x1 =>
  if x1 = 0 then
    some (0, μ)
  else
    lt' (si μ a0 12 ((μ.1 a0 12) + 1)) fun μ2 =>
    gd (ib ((μ2.1 a0 12) - 1) 12020) <|
    some ((μ2.1 (μ2.2 a0 0) ((μ2.1 a0 12) - 1).toNatClampNeg) &&& 255, μ2)
def fX10_one (a0 : Nat) (μ : Mm) : Option (Int32 × Mm) :=
  lt' (fX10_good a0 μ) fun x1 =>
  if x1 = 0 then
    fX10_one_L27 a0 μ
  else
    if (μ.1 a0 12) < (μ.1 a0 13) then
      fX10_one_L27 a0 μ
    else
      lt' (fX10_wrong a0 2 (μ.1 a0 13) μ) fun μ2 =>
      fX10_one_L27 a0 μ2
def fX10_two (a0 : Nat) (μ : Mm) : Option (Int32 × Mm) :=
  bd (fX10_one a0 μ) fun q1 =>
  lt' q1.1 fun x2 =>
  bd (fX10_one a0 q1.2) fun q3 =>
  some (x2 + (256 * q3.1), q3.2)
def fX10_forget (a0 : Nat) (μ : Mm) : Mm :=
  lt' (si μ a0 16 0) fun μ1 =>
  lt' (si μ1 a0 17 0) fun μ2 =>
  lt' (si μ2 a0 18 (-1)) fun μ3 =>
  lt' (si μ3 a0 19 0) fun μ4 =>
  lt' (si μ4 a0 20 0) fun μ5 =>
  μ5
def fX10_alone_B2 (rec2 : Nat → Int32 → Int32 → Mm → Option (Mm)) (fu : Nat) (a0 : Nat) (v1 : Int32) (v2 : Int32) (μ : Mm) : Option (Mm) :=
  if (1 <<< (v1 &&& 31)) ≤ v2 then
    some μ
  else
    gd (ib v2 4096) <|
    lt' (si μ (μ.2 a0 24) v2.toNatClampNeg (vp_nar .short (-1))) fun μ1 =>
    gd (ib v2 4096) <|
    lt' (si μ1 (μ1.2 a0 25) v2.toNatClampNeg (vp_nar .short v2.toInt16.toInt32)) fun μ2 =>
    gd (ib v2 4096) <|
    lt' (si μ2 (μ2.2 a0 26) v2.toNatClampNeg (vp_nar .short v2.toInt16.toInt32)) fun μ3 =>
    gd (ib v2 4096) <|
    lt' (si μ3 (μ3.2 a0 27) v2.toNatClampNeg (vp_nar .short 1)) fun μ4 =>
    lt' (v2 + 1) fun x5 =>
    rec2 a0 v1 x5 μ4
def fX10_alone_L2 (fu : Nat) : Nat → Nat → Int32 → Int32 → Mm → Option (Mm)
  | 0 => fun _ _ _ _ => none
  | n + 1 => fX10_alone_B2 (fX10_alone_L2 fu n) fu
def fX10_alone (fu : Nat) (a0 : Nat) (v1 : Int32) (μ : Mm) : Option (Mm) :=
  fX10_alone_L2 fu fu a0 v1 0 μ
def fX10_code_B25 (rec25 : Nat → Int32 → Int32 → Mm → Option (Int32 × Mm)) (fu : Nat) (a0 : Nat) (v1 : Int32) (v2 : Int32) (μ : Mm) : Option (Int32 × Mm) :=
  if (μ.1 a0 28) ≤ v2 then
    lt' (si μ a0 23 ((μ.1 a0 23) + (μ.1 a0 28))) fun μ1 =>
    some (v1, μ1)
  else
    gd (ib (((μ.1 a0 23) + v2) >>> (3 &&& 31)) 12020) <|
    lt' (v1 ||| ((((μ.1 (μ.2 a0 21) (((μ.1 a0 23) + v2) >>> (3 &&& 31)).toNatClampNeg) >>> ((((μ.1 a0 23) + v2) &&& 7) &&& 31)) &&& 1) <<< (v2 &&& 31))) fun x3 =>
    lt' (v2 + 1) fun x4 =>
    rec25 a0 x3 x4 μ
def fX10_code_L25 (fu : Nat) : Nat → Nat → Int32 → Int32 → Mm → Option (Int32 × Mm)
  | 0 => fun _ _ _ _ => none
  | n + 1 => fX10_code_B25 (fX10_code_L25 fu n) fu
def fX10_code (fu : Nat) (a0 : Nat) (μ : Mm) : Option (Int32 × Mm) :=
  if ((μ.1 a0 23) + (μ.1 a0 28)) ≤ (8 * (μ.1 a0 22)) then
    fX10_code_L25 fu fu a0 0 0 μ
  else
    some ((-1), μ)
def fX10_line (v0 : Int32) (v1 : Int32) : Int32 :=
  lt' ((v1 + 7) / 8) fun x1 =>
  lt' ((v1 + 3) / 8) fun x2 =>
  lt' ((v1 + 1) / 4) fun x3 =>
  if x1 ≤ v0 then
    if (x1 + x2) ≤ v0 then
      if ((x1 + x2) + x3) ≤ v0 then
        1 + (2 * (((v0 - x1) - x2) - x3))
      else
        2 + (4 * ((v0 - x1) - x2))
    else
      4 + (8 * (v0 - x1))
  else
    8 * v0
def fX10_placeOf (a0 : Nat) (v1 : Int32) (v2 : Int32) (v3 : Int32) (μ : Mm) : Option (Int32) :=
  bd (fX10_field a0 v1 v2 2 μ) fun x1 =>
  bd (fX10_field a0 v1 v2 5 μ) fun x2 =>
  if x2 = 0 then
    some v3
  else
    gd (nz x1) <|
    bd (fX10_field a0 v1 v2 3 μ) fun x3 =>
    lt' (fX10_line (v3 / x1) x3) fun x4 =>
    gd (nz x1) <|
    some ((x1 * x4) + (v3 - v3 / x1 * x1))
def fX10_put_B58 (rec58 : Nat → Int32 → Int32 → Int32 → Int32 → Mm → Option (Int32 × Mm)) (fu : Nat) (a0 : Nat) (v3 : Int32) (v6 : Int32) (v7 : Int32) (v8 : Int32) (μ : Mm) : Option (Int32 × Mm) :=
  if v8 < 0 then
    some (1, μ)
  else
    gd (ib v8 4096) <|
    if (μ.1 (μ.2 a0 25) v8.toNatClampNeg) < v6 then
      bd (fX10_placeOf a0 (μ.1 a0 14) v3 v7 μ) fun x2 =>
      gd (ib v8 4096) <|
      bd (fX10_setIndex a0 (μ.1 a0 14) v3 x2 (μ.1 (μ.2 a0 25) v8.toNatClampNeg) μ) fun μ4 =>
      lt' (v7 + (-1)) fun x5 =>
      gd (ib v8 4096) <|
      lt' (μ4.1 (μ4.2 a0 24) v8.toNatClampNeg) fun x7 =>
      rec58 a0 v3 v6 x5 x7 μ4
    else
      some (0, μ)
def fX10_put_L58 (fu : Nat) : Nat → Nat → Int32 → Int32 → Int32 → Int32 → Mm → Option (Int32 × Mm)
  | 0 => fun _ _ _ _ _ _ => none
  | n + 1 => fX10_put_B58 (fX10_put_L58 fu n) fu
def fX10_put (fu : Nat) (a0 : Nat) (v1 : Int32) (v2 : Int32) (v3 : Int32) (v4 : Int32) (v5 : Int32) (v6 : Int32) (μ : Mm) : Option (Int32 × Mm) :=
  lt' ((v4 + v5) - 1) fun x1 =>
  if v2 = 0 then
    fX10_put_L58 fu fu a0 v3 v6 x1 v1 μ
  else
    gd (ib v1 4096) <|
    if (μ.1 (μ.2 a0 26) v1.toNatClampNeg) < v6 then
      bd (fX10_placeOf a0 (μ.1 a0 14) v3 x1 μ) fun x3 =>
      gd (ib v1 4096) <|
      bd (fX10_setIndex a0 (μ.1 a0 14) v3 x3 (μ.1 (μ.2 a0 26) v1.toNatClampNeg) μ) fun μ5 =>
      lt' (x1 + (-1)) fun x6 =>
      fX10_put_L58 fu fu a0 v3 v6 x6 v1 μ5
    else
      some (0, μ)
def fX10_restart (a0 : Nat) (v1 : Int32) (μ : Mm) : Mm :=
  lt' (si μ a0 28 (v1 + 1)) fun μ1 =>
  lt' (si μ1 a0 29 ((1 <<< (v1 &&& 31)) + 2)) fun μ2 =>
  lt' (si μ2 a0 30 (-1)) fun μ3 =>
  μ3
def fX10_tell (a0 : Nat) (v1 : Int32) (μ : Mm) : Option (Mm) :=
  gd (ib (μ.1 a0 29) 4096) <|
  lt' (si μ (μ.2 a0 24) (μ.1 a0 29).toNatClampNeg (vp_nar .short ((μ.1 a0 30).toInt16.toInt32))) fun μ1 =>
  gd (ib (μ1.1 a0 29) 4096) <|
  lt' (si μ1 (μ1.2 a0 25) (μ1.1 a0 29).toNatClampNeg (vp_nar .short v1.toInt16.toInt32)) fun μ2 =>
  gd (ib (μ2.1 a0 30) 4096) <|
  gd (ib (μ2.1 a0 29) 4096) <|
  lt' (si μ2 (μ2.2 a0 26) (μ2.1 a0 29).toNatClampNeg (vp_nar .short (μ2.1 (μ2.2 a0 26) (μ2.1 a0 30).toNatClampNeg))) fun μ4 =>
  gd (ib (μ4.1 a0 30) 4096) <|
  gd (ib (μ4.1 a0 29) 4096) <|
  lt' (si μ4 (μ4.2 a0 27) (μ4.1 a0 29).toNatClampNeg (vp_nar .short (((μ4.1 (μ4.2 a0 27) (μ4.1 a0 30).toNatClampNeg) + 1).toInt16.toInt32))) fun μ6 =>
  lt' (si μ6 a0 29 ((μ6.1 a0 29) + 1)) fun μ7 =>
  if (μ7.1 a0 29) = (1 <<< ((μ7.1 a0 28) &&& 31)) then
    if (12 : Int32) ≤ (μ7.1 a0 28) then
      some μ7
    else
      lt' (si μ7 a0 28 ((μ7.1 a0 28) + 1)) fun μ8 =>
      some μ8
  else
    some μ7
def fX10_codes_L268 (rec54 : Nat → Int32 → Int32 → Int32 → Int32 → Int32 → Int32 → Mm → Option (Int32 × Mm)) (fu : Nat) (a0 : Nat) (v1 : Int32) (v2 : Int32) (v3 : Int32) (v4 : Int32) (v5 : Int32) (v6 : Int32) (v7 : Int32) (t0 : Int32) (μ : Mm) : Option (Int32 × Mm) :=
  if (μ.1 a0 30) < 0 then
    lt' (si μ a0 30 v7) fun μ1 =>
    rec54 a0 v1 v2 v3 v4 v5 v6 μ1
  else
    if (4096 : Int32) ≤ (μ.1 a0 29) then
      lt' (si μ a0 30 v7) fun μ2 =>
      rec54 a0 v1 v2 v3 v4 v5 v6 μ2
    else
      bd (fX10_tell a0 t0 μ) fun μ3 =>
      lt' (si μ3 a0 30 v7) fun μ4 =>
      rec54 a0 v1 v2 v3 v4 v5 v6 μ4
def fX10_codes_L220 (rec54 : Nat → Int32 → Int32 → Int32 → Int32 → Int32 → Int32 → Mm → Option (Int32 × Mm)) (fu : Nat) (a0 : Nat) (v1 : Int32) (v2 : Int32) (v3 : Int32) (v4 : Int32) (v5 : Int32) (v6 : Int32) (v7 : Int32) (v8 : Int32) (v9 : Int32) (o0 : Nat) (t1 : Int32) (μ : Mm) : Option (Int32 × Mm) :=
  bd (fX10_put fu o0 t1 v8 v2 v6 v9 v5 μ) fun q1 =>
  if q1.1 = 0 then
    some (0, q1.2)
  else
    lt' (v6 + v9) fun x2 =>
    if v8 = 0 then
      gd (ib v7 4096) <|
      fX10_codes_L268 rec54 fu a0 v1 v2 v3 v4 v5 x2 v7 (q1.2.1 (q1.2.2 a0 26) v7.toNatClampNeg) q1.2
    else
      gd (ib (q1.2.1 a0 30) 4096) <|
      fX10_codes_L268 rec54 fu a0 v1 v2 v3 v4 v5 x2 v7 (q1.2.1 (q1.2.2 a0 26) (q1.2.1 a0 30).toNatClampNeg) q1.2
def fX10_codes_L193 (rec54 : Nat → Int32 → Int32 → Int32 → Int32 → Int32 → Int32 → Mm → Option (Int32 × Mm)) (fu : Nat) (a0 : Nat) (v1 : Int32) (v2 : Int32) (v3 : Int32) (v4 : Int32) (v5 : Int32) (v6 : Int32) (v7 : Int32) (v8 : Int32) (t0 : Int32) (μ : Mm) : Option (Int32 × Mm) :=
  if v4 < (v6 + t0) then
    some (0, μ)
  else
    if v8 = 0 then
      fX10_codes_L220 rec54 fu a0 v1 v2 v3 v4 v5 v6 v7 v8 t0 a0 v7 μ
    else
      fX10_codes_L220 rec54 fu a0 v1 v2 v3 v4 v5 v6 v7 v8 t0 a0 (μ.1 a0 30) μ
def fX10_codes_L167 (rec54 : Nat → Int32 → Int32 → Int32 → Int32 → Int32 → Int32 → Mm → Option (Int32 × Mm)) (fu : Nat) (a0 : Nat) (v1 : Int32) (v2 : Int32) (v3 : Int32) (v4 : Int32) (v5 : Int32) (v6 : Int32) (v7 : Int32) (v8 : Int32) (μ : Mm) : Option (Int32 × Mm) :=
  if v8 = 0 then
    gd (ib v7 4096) <|
    fX10_codes_L193 rec54 fu a0 v1 v2 v3 v4 v5 v6 v7 v8 (μ.1 (μ.2 a0 27) v7.toNatClampNeg) μ
  else
    gd (ib (μ.1 a0 30) 4096) <|
    fX10_codes_L193 rec54 fu a0 v1 v2 v3 v4 v5 v6 v7 v8 ((μ.1 (μ.2 a0 27) (μ.1 a0 30).toNatClampNeg) + 1) μ
def fX10_codes_L149 (rec54 : Nat → Int32 → Int32 → Int32 → Int32 → Int32 → Int32 → Mm → Option (Int32 × Mm)) (fu : Nat) (a0 : Nat) (v1 : Int32) (v2 : Int32) (v3 : Int32) (v4 : Int32) (v5 : Int32) (v6 : Int32) (v7 : Int32) (t0 : Int32) (μ : Mm) : Option (Int32 × Mm) :=
  if v7 < (μ.1 a0 29) then
    fX10_codes_L167 rec54 fu a0 v1 v2 v3 v4 v5 v6 v7 t0 μ
  else
    if t0 = 0 then
      some (0, μ)
    else
      fX10_codes_L167 rec54 fu a0 v1 v2 v3 v4 v5 v6 v7 t0 μ
def fX10_codes_L148 (rec54 : Nat → Int32 → Int32 → Int32 → Int32 → Int32 → Int32 → Mm → Option (Int32 × Mm)) (fu : Nat) (a0 : Nat) (v1 : Int32) (v2 : Int32) (v3 : Int32) (v4 : Int32) (v5 : Int32) (v6 : Int32) (v7 : Int32) (μ : Mm) : Option (Int32 × Mm) :=
  fX10_codes_L149 rec54 fu a0 v1 v2 v3 v4 v5 v6 v7 0 μ
def fX10_codes_B54 (rec54 : Nat → Int32 → Int32 → Int32 → Int32 → Int32 → Int32 → Mm → Option (Int32 × Mm)) (fu : Nat) (a0 : Nat) (v1 : Int32) (v2 : Int32) (v3 : Int32) (v4 : Int32) (v5 : Int32) (v6 : Int32) (μ : Mm) : Option (Int32 × Mm) :=
  bd (fX10_code fu a0 μ) fun q1 =>
  lt' q1.1 fun x2 =>
  if (0 : Int32) ≤ x2 then
    if x2 = (v3 + 1) then
      if v6 = v4 then
        if (((q1.2.1 a0 23) + 7) >>> (3 &&& 31)) = (q1.2.1 a0 22) then
          some (1, q1.2)
        else
          some (0, q1.2)
      else
        some (0, q1.2)
    else
      if x2 = v3 then
        lt' (fX10_restart a0 v1 q1.2) fun μ3 =>
        rec54 a0 v1 v2 v3 v4 v5 v6 μ3
      else
        if x2 = (q1.2.1 a0 29) then
          if (q1.2.1 a0 30) < 0 then
            fX10_codes_L148 rec54 fu a0 v1 v2 v3 v4 v5 v6 x2 q1.2
          else
            if (4096 : Int32) ≤ (q1.2.1 a0 29) then
              fX10_codes_L148 rec54 fu a0 v1 v2 v3 v4 v5 v6 x2 q1.2
            else
              fX10_codes_L149 rec54 fu a0 v1 v2 v3 v4 v5 v6 x2 1 q1.2
        else
          fX10_codes_L148 rec54 fu a0 v1 v2 v3 v4 v5 v6 x2 q1.2
  else
    some (0, q1.2)
def fX10_codes_L54 (fu : Nat) : Nat → Nat → Int32 → Int32 → Int32 → Int32 → Int32 → Int32 → Mm → Option (Int32 × Mm)
  | 0 => fun _ _ _ _ _ _ _ _ => none
  | n + 1 => fX10_codes_B54 (fX10_codes_L54 fu n) fu
def fX10_codes (fu : Nat) (a0 : Nat) (v1 : Int32) (v2 : Int32) (μ : Mm) : Option (Int32 × Mm) :=
  lt' (1 <<< (v1 &&& 31)) fun x1 =>
  bd (fX10_places a0 (μ.1 a0 14) v2 μ) fun x2 =>
  bd (fX10_colours a0 (μ.1 a0 14) v2 μ) fun x3 =>
  bd (fX10_alone fu a0 v1 μ) fun μ4 =>
  lt' (fX10_restart a0 v1 μ4) fun μ5 =>
  lt' (si μ5 a0 23 0) fun μ6 =>
  bd (fX10_code fu a0 μ6) fun q7 =>
  if q7.1 = x1 then
    fX10_codes_L54 fu fu a0 v1 v2 x1 x2 x3 0 q7.2
  else
    some (0, q7.2)
def fX10_gather_L65 (rec10 : Nat → Int32 → Mm → Option (Mm)) (fu : Nat) (a0 : Nat) (μ : Mm) : Option (Mm) :=
  bd (fX10_one a0 μ) fun q1 =>
  lt' q1.1 fun x2 =>
  rec10 a0 x2 q1.2
def fX10_gather_B23 (rec10 : Nat → Int32 → Mm → Option (Mm)) (rec23 : Nat → Int32 → Int32 → Mm → Option (Mm)) (fu : Nat) (a0 : Nat) (v1 : Int32) (v2 : Int32) (μ : Mm) : Option (Mm) :=
  if v1 ≤ v2 then
    fX10_gather_L65 rec10 fu a0 μ
  else
    lt' (fX10_good a0 μ) fun x1 =>
    if x1 = 0 then
      fX10_gather_L65 rec10 fu a0 μ
    else
      bd (fX10_one a0 μ) fun q2 =>
      gd (ib (μ.1 a0 22) 12020) <|
      lt' (si q2.2 (μ.2 a0 21) (μ.1 a0 22).toNatClampNeg (vp_nar .byte q2.1.toInt8.toInt32)) fun μ3 =>
      lt' (si μ3 a0 22 ((μ3.1 a0 22) + 1)) fun μ4 =>
      lt' (v2 + 1) fun x5 =>
      rec23 a0 v1 x5 μ4
def fX10_gather_L23 (rec10 : Nat → Int32 → Mm → Option (Mm)) (fu : Nat) : Nat → Nat → Int32 → Int32 → Mm → Option (Mm)
  | 0 => fun _ _ _ _ => none
  | n + 1 => fX10_gather_B23 rec10 (fX10_gather_L23 rec10 fu n) fu
def fX10_gather_B10 (rec10 : Nat → Int32 → Mm → Option (Mm)) (fu : Nat) (a0 : Nat) (v1 : Int32) (μ : Mm) : Option (Mm) :=
  lt' (fX10_good a0 μ) fun x1 =>
  if x1 = 0 then
    some μ
  else
    if v1 ≤ 0 then
      some μ
    else
      fX10_gather_L23 rec10 fu fu a0 v1 0 μ
def fX10_gather_L10 (fu : Nat) : Nat → Nat → Int32 → Mm → Option (Mm)
  | 0 => fun _ _ _ => none
  | n + 1 => fX10_gather_B10 (fX10_gather_L10 fu n) fu
def fX10_gather (fu : Nat) (a0 : Nat) (μ : Mm) : Option (Mm) :=
  lt' (si μ a0 22 0) fun μ1 =>
  bd (fX10_one a0 μ1) fun q2 =>
  lt' q2.1 fun x3 =>
  fX10_gather_L10 fu fu a0 x3 q2.2
def fX10_readTable_B3 (rec3 : Nat → Nat → Int32 → Int32 → Int32 → Mm → Option (Mm)) (fu : Nat) (ln : Nat) (a0 : Nat) (a1 : Nat) (v2 : Int32) (v3 : Int32) (v4 : Int32) (μ : Mm) : Option (Mm) :=
  if v3 ≤ v4 then
    some μ
  else
    lt' (fX10_good a0 μ) fun x1 =>
    if x1 = 0 then
      some μ
    else
      bd (fX10_one a0 μ) fun q2 =>
      lt' (q2.1 <<< (16 &&& 31)) fun x3 =>
      bd (fX10_one a0 q2.2) fun q4 =>
      lt' (x3 ||| (q4.1 <<< (8 &&& 31))) fun x5 =>
      bd (fX10_one a0 q4.2) fun q6 =>
      gd (ib (v2 + v4) ln) <|
      lt' (si q6.2 a1 (v2 + v4).toNatClampNeg (x5 ||| q6.1)) fun μ7 =>
      lt' (v4 + 1) fun x8 =>
      rec3 a0 a1 v2 v3 x8 μ7
def fX10_readTable_L3 (fu : Nat) (ln : Nat) : Nat → Nat → Nat → Int32 → Int32 → Int32 → Mm → Option (Mm)
  | 0 => fun _ _ _ _ _ _ => none
  | n + 1 => fX10_readTable_B3 (fX10_readTable_L3 fu ln n) fu ln
def fX10_readTable (fu : Nat) (ln : Nat) (a0 : Nat) (a1 : Nat) (v2 : Int32) (v3 : Int32) (μ : Mm) : Option (Mm) :=
  fX10_readTable_L3 fu ln fu a0 a1 v2 v3 0 μ
def fX10_readImage_L406 (fu : Nat) (a0 : Nat) (v2 : Int32) (μ : Mm) : Option (Mm) :=
  lt' (fX10_good a0 μ) fun x1 =>
  if x1 = 0 then
    some μ
  else
    gd (ib ((6 * (μ.1 a0 14)) + 5) 12) <|
    lt' (si μ (μ.2 a0 7) ((6 * (μ.1 a0 14)) + 5).toNatClampNeg (v2 + 1)) fun μ2 =>
    some μ2
def fX10_readImage_L369 (fu : Nat) (a0 : Nat) (v2 : Int32) (v10 : Int32) (v11 : Int32) (μ : Mm) : Option (Mm) :=
  lt' (fX10_good a0 μ) fun x1 =>
  if x1 = 0 then
    some μ
  else
    bd (fX10_gather fu a0 μ) fun μ2 =>
    lt' (fX10_good a0 μ2) fun x3 =>
    if x3 = 0 then
      fX10_readImage_L406 fu a0 v2 μ2
    else
      bd (fX10_codes fu a0 v11 v2 μ2) fun q4 =>
      if q4.1 = 0 then
        lt' (fX10_wrong a0 9 v10 q4.2) fun μ5 =>
        fX10_readImage_L406 fu a0 v2 μ5
      else
        fX10_readImage_L406 fu a0 v2 q4.2
def fX10_readImage_L361 (fu : Nat) (a0 : Nat) (v2 : Int32) (v10 : Int32) (v11 : Int32) (μ : Mm) : Option (Mm) :=
  lt' (fX10_wrong a0 8 v10 μ) fun μ1 =>
  fX10_readImage_L369 fu a0 v2 v10 v11 μ1
def fX10_readImage_L169 (fu : Nat) (a0 : Nat) (v2 : Int32) (v3 : Int32) (v4 : Int32) (v5 : Int32) (v6 : Int32) (v8 : Int32) (v9 : Int32) (μ : Mm) : Option (Mm) :=
  lt' (fX10_good a0 μ) fun x1 =>
  if x1 = 0 then
    some μ
  else
    lt' (fX10_localAt (μ.1 a0 14) v2 0) fun x2 =>
    bd (fX10_readTable fu 12288 a0 (μ.2 a0 10) x2 v9 μ) fun μ3 =>
    bd (fX10_setField a0 (μ3.1 a0 14) v2 0 v3 μ3) fun μ4 =>
    bd (fX10_setField a0 (μ4.1 a0 14) v2 1 v4 μ4) fun μ5 =>
    bd (fX10_setField a0 (μ5.1 a0 14) v2 2 v5 μ5) fun μ6 =>
    bd (fX10_setField a0 (μ6.1 a0 14) v2 3 v6 μ6) fun μ7 =>
    bd (fX10_setField a0 (μ7.1 a0 14) v2 4 v9 μ7) fun μ8 =>
    bd (fX10_setField a0 (μ8.1 a0 14) v2 5 ((v8 >>> (6 &&& 31)) &&& 1) μ8) fun μ9 =>
    bd (fX10_setField a0 (μ9.1 a0 14) v2 6 (μ9.1 a0 17) μ9) fun μ10 =>
    bd (fX10_setField a0 (μ10.1 a0 14) v2 7 (μ10.1 a0 18) μ10) fun μ11 =>
    bd (fX10_setField a0 (μ11.1 a0 14) v2 8 (μ11.1 a0 19) μ11) fun μ12 =>
    bd (fX10_setField a0 (μ12.1 a0 14) v2 9 (μ12.1 a0 20) μ12) fun μ13 =>
    lt' (fX10_forget a0 μ13) fun μ14 =>
    lt' (μ14.1 a0 12) fun x15 =>
    bd (fX10_one a0 μ14) fun q16 =>
    lt' q16.1 fun x17 =>
    if x17 < 2 then
      fX10_readImage_L361 fu a0 v2 x15 x17 q16.2
    else
      if x17 ≤ 8 then
        fX10_readImage_L369 fu a0 v2 x15 x17 q16.2
      else
        fX10_readImage_L361 fu a0 v2 x15 x17 q16.2
def fX10_readImage_L138 (fu : Nat) (a0 : Nat) (v1 : Int32) (v2 : Int32) (v3 : Int32) (v4 : Int32) (v5 : Int32) (v6 : Int32) (v8 : Int32) (t0 : Int32) (μ : Mm) : Option (Mm) :=
  if t0 = 0 then
    gd (ib ((6 * (μ.1 a0 14)) + 2) 12) <|
    if (μ.1 (μ.2 a0 7) ((6 * (μ.1 a0 14)) + 2).toNatClampNeg) = 0 then
      lt' (fX10_wrong a0 7 v1 μ) fun μ2 =>
      fX10_readImage_L169 fu a0 v2 v3 v4 v5 v6 v8 t0 μ2
    else
      fX10_readImage_L169 fu a0 v2 v3 v4 v5 v6 v8 t0 μ
  else
    fX10_readImage_L169 fu a0 v2 v3 v4 v5 v6 v8 t0 μ
def fX10_readImage_L114 (fu : Nat) (a0 : Nat) (v1 : Int32) (v2 : Int32) (v3 : Int32) (v4 : Int32) (v5 : Int32) (v6 : Int32) (μ : Mm) : Option (Mm) :=
  bd (fX10_one a0 μ) fun q1 =>
  lt' q1.1 fun x2 =>
  if x2 ≤ 127 then
    fX10_readImage_L138 fu a0 v1 v2 v3 v4 v5 v6 x2 0 q1.2
  else
    fX10_readImage_L138 fu a0 v1 v2 v3 v4 v5 v6 x2 (2 <<< ((x2 &&& 7) &&& 31)) q1.2
def fX10_readImage_L100 (fu : Nat) (a0 : Nat) (v1 : Int32) (v2 : Int32) (v3 : Int32) (v4 : Int32) (v5 : Int32) (v6 : Int32) (t0 : Int32) (μ : Mm) : Option (Mm) :=
  if t0 = 0 then
    lt' (fX10_wrong a0 6 v1 μ) fun μ1 =>
    fX10_readImage_L114 fu a0 v1 v2 v3 v4 v5 v6 μ1
  else
    fX10_readImage_L114 fu a0 v1 v2 v3 v4 v5 v6 μ
def fX10_readImage_L99 (fu : Nat) (a0 : Nat) (v1 : Int32) (v2 : Int32) (v3 : Int32) (v4 : Int32) (v5 : Int32) (v6 : Int32) (μ : Mm) : Option (Mm) :=
  fX10_readImage_L100 fu a0 v1 v2 v3 v4 v5 v6 0 μ
def fX10_readImage (fu : Nat) (a0 : Nat) (v1 : Int32) (μ : Mm) : Option (Mm) :=
  gd (ib ((6 * (μ.1 a0 14)) + 5) 12) <|
  lt' (μ.1 (μ.2 a0 7) ((6 * (μ.1 a0 14)) + 5).toNatClampNeg) fun x2 =>
  bd (fX10_two a0 μ) fun q3 =>
  lt' q3.1 fun x4 =>
  bd (fX10_two a0 q3.2) fun q5 =>
  lt' q5.1 fun x6 =>
  bd (fX10_two a0 q5.2) fun q7 =>
  lt' q7.1 fun x8 =>
  bd (fX10_two a0 q7.2) fun q9 =>
  lt' q9.1 fun x10 =>
  if (24 : Int32) ≤ x2 then
    fX10_readImage_L99 fu a0 v1 x2 x4 x6 x8 x10 q9.2
  else
    if x8 ≤ 0 then
      fX10_readImage_L99 fu a0 v1 x2 x4 x6 x8 x10 q9.2
    else
      if x10 ≤ 0 then
        fX10_readImage_L99 fu a0 v1 x2 x4 x6 x8 x10 q9.2
      else
        gd (ib (6 * (q9.2.1 a0 14)) 12) <|
        if (q9.2.1 (q9.2.2 a0 7) (6 * (q9.2.1 a0 14)).toNatClampNeg) < (x4 + x8) then
          fX10_readImage_L99 fu a0 v1 x2 x4 x6 x8 x10 q9.2
        else
          gd (ib ((6 * (q9.2.1 a0 14)) + 1) 12) <|
          if (q9.2.1 (q9.2.2 a0 7) ((6 * (q9.2.1 a0 14)) + 1).toNatClampNeg) < (x6 + x10) then
            fX10_readImage_L99 fu a0 v1 x2 x4 x6 x8 x10 q9.2
          else
            fX10_readImage_L100 fu a0 v1 x2 x4 x6 x8 x10 1 q9.2
def fX10_length (a0 : Nat) (v1 : Int32) (μ : Mm) : Option (Mm) :=
  lt' (μ.1 a0 12) fun x1 =>
  bd (fX10_one a0 μ) fun q2 =>
  if q2.1 = v1 then
    some q2.2
  else
    lt' (fX10_wrong a0 5 x1 q2.2) fun μ3 =>
    some μ3
def fX10_skip_B2 (rec2 : Nat → Int32 → Int32 → Mm → Option (Mm)) (fu : Nat) (a0 : Nat) (v1 : Int32) (v2 : Int32) (μ : Mm) : Option (Mm) :=
  if v1 ≤ v2 then
    some μ
  else
    bd (fX10_one a0 μ) fun q1 =>
    lt' (v2 + 1) fun x2 =>
    rec2 a0 v1 x2 q1.2
def fX10_skip_L2 (fu : Nat) : Nat → Nat → Int32 → Int32 → Mm → Option (Mm)
  | 0 => fun _ _ _ _ => none
  | n + 1 => fX10_skip_B2 (fX10_skip_L2 fu n) fu
def fX10_skip (fu : Nat) (a0 : Nat) (v1 : Int32) (μ : Mm) : Option (Mm) :=
  fX10_skip_L2 fu fu a0 v1 0 μ
def fX10_rows_B5 (rec5 : Nat → Int32 → Mm → Option (Mm)) (fu : Nat) (a0 : Nat) (v1 : Int32) (μ : Mm) : Option (Mm) :=
  lt' (fX10_good a0 μ) fun x1 =>
  if x1 = 0 then
    some μ
  else
    if v1 ≤ 0 then
      some μ
    else
      bd (fX10_skip fu a0 v1 μ) fun μ2 =>
      bd (fX10_one a0 μ2) fun q3 =>
      lt' q3.1 fun x4 =>
      rec5 a0 x4 q3.2
def fX10_rows_L5 (fu : Nat) : Nat → Nat → Int32 → Mm → Option (Mm)
  | 0 => fun _ _ _ => none
  | n + 1 => fX10_rows_B5 (fX10_rows_L5 fu n) fu
def fX10_rows (fu : Nat) (a0 : Nat) (μ : Mm) : Option (Mm) :=
  bd (fX10_one a0 μ) fun q1 =>
  lt' q1.1 fun x2 =>
  fX10_rows_L5 fu fu a0 x2 q1.2
def fX10_readMore_L179 (fu : Nat) (a0 : Nat) (v1 : Int32) (μ : Mm) : Option (Mm) :=
  lt' (fX10_wrong a0 4 v1 μ) fun μ1 =>
  some μ1
def fX10_readMore_L172 (fu : Nat) (a0 : Nat) (μ : Mm) : Option (Mm) :=
  bd (fX10_rows fu a0 μ) fun μ1 =>
  some μ1
def fX10_readMore_L159 (fu : Nat) (a0 : Nat) (v2 : Int32) (μ : Mm) : Option (Mm) :=
  if v2 = 255 then
    bd (fX10_skip fu a0 11 μ) fun μ1 =>
    fX10_readMore_L172 fu a0 μ1
  else
    fX10_readMore_L172 fu a0 μ
def fX10_readMore_L139 (fu : Nat) (a0 : Nat) (v1 : Int32) (v2 : Int32) (μ : Mm) : Option (Mm) :=
  if (μ.1 a0 16) = 0 then
    if v2 = 255 then
      bd (fX10_length a0 11 μ) fun μ1 =>
      fX10_readMore_L159 fu a0 v2 μ1
    else
      fX10_readMore_L159 fu a0 v2 μ
  else
    fX10_readMore_L179 fu a0 v1 μ
def fX10_readMore_L97 (fu : Nat) (a0 : Nat) (v1 : Int32) (v2 : Int32) (μ : Mm) : Option (Mm) :=
  if v2 = 1 then
    bd (fX10_length a0 12 μ) fun μ1 =>
    bd (fX10_skip fu a0 12 μ1) fun μ2 =>
    bd (fX10_rows fu a0 μ2) fun μ3 =>
    lt' (fX10_forget a0 μ3) fun μ4 =>
    some μ4
  else
    if v2 = 254 then
      fX10_readMore_L139 fu a0 v1 v2 μ
    else
      if v2 = 255 then
        fX10_readMore_L139 fu a0 v1 v2 μ
      else
        fX10_readMore_L179 fu a0 v1 μ
def fX10_readMore (fu : Nat) (a0 : Nat) (μ : Mm) : Option (Mm) :=
  lt' (μ.1 a0 12) fun x1 =>
  bd (fX10_one a0 μ) fun q2 =>
  lt' q2.1 fun x3 =>
  if x3 = 249 then
    if (q2.2.1 a0 16) = 0 then
      bd (fX10_length a0 4 q2.2) fun μ4 =>
      bd (fX10_one a0 μ4) fun q5 =>
      lt' q5.1 fun x6 =>
      bd (fX10_two a0 q5.2) fun q7 =>
      lt' (si q7.2 a0 19 q7.1) fun μ8 =>
      bd (fX10_one a0 μ8) fun q9 =>
      lt' q9.1 fun x10 =>
      bd (fX10_length a0 0 q9.2) fun μ11 =>
      lt' (si μ11 a0 16 1) fun μ12 =>
      lt' (si μ12 a0 17 ((x6 >>> (2 &&& 31)) &&& 7)) fun μ13 =>
      lt' (si μ13 a0 20 ((x6 >>> (1 &&& 31)) &&& 1)) fun μ14 =>
      if (x6 &&& 1) = 1 then
        lt' (si μ14 a0 18 x10) fun μ16 =>
        some μ16
      else
        lt' (si μ14 a0 18 (-1)) fun μ15 =>
        some μ15
    else
      fX10_readMore_L97 fu a0 x1 x3 q2.2
  else
    fX10_readMore_L97 fu a0 x1 x3 q2.2
def fX10_readBlocks_L89 (rec9 : Nat → Int32 → Mm → Option (Mm)) (fu : Nat) (a0 : Nat) (v1 : Int32) (μ : Mm) : Option (Mm) :=
  if v1 = 0 then
    rec9 a0 0 μ
  else
    lt' (fX10_good a0 μ) fun x1 =>
    if x1 = 0 then
      rec9 a0 0 μ
    else
      rec9 a0 1 μ
def fX10_readBlocks_L83 (rec9 : Nat → Int32 → Mm → Option (Mm)) (fu : Nat) (a0 : Nat) (v1 : Int32) (v2 : Int32) (μ : Mm) : Option (Mm) :=
  lt' (fX10_wrong a0 4 v2 μ) fun μ1 =>
  fX10_readBlocks_L89 rec9 fu a0 v1 μ1
def fX10_readBlocks_L65 (rec9 : Nat → Int32 → Mm → Option (Mm)) (fu : Nat) (a0 : Nat) (v1 : Int32) (v2 : Int32) (v3 : Int32) (μ : Mm) : Option (Mm) :=
  if v3 = 59 then
    if (μ.1 a0 16) = 0 then
      fX10_readBlocks_L89 rec9 fu a0 0 μ
    else
      fX10_readBlocks_L83 rec9 fu a0 v1 v2 μ
  else
    fX10_readBlocks_L83 rec9 fu a0 v1 v2 μ
def fX10_readBlocks_B9 (rec9 : Nat → Int32 → Mm → Option (Mm)) (fu : Nat) (a0 : Nat) (v1 : Int32) (μ : Mm) : Option (Mm) :=
  if v1 = 0 then
    lt' (fX10_good a0 μ) fun x1 =>
    if x1 = 0 then
      some μ
    else
      if (μ.1 a0 13) ≤ (μ.1 a0 12) then
        some μ
      else
        lt' (fX10_wrong a0 10 (μ.1 a0 12) μ) fun μ2 =>
        some μ2
  else
    lt' (μ.1 a0 12) fun x3 =>
    bd (fX10_one a0 μ) fun q4 =>
    lt' q4.1 fun x5 =>
    lt' (fX10_good a0 q4.2) fun x6 =>
    if x6 = 0 then
      some q4.2
    else
      if x5 = 44 then
        bd (fX10_readImage fu a0 x3 q4.2) fun μ8 =>
        fX10_readBlocks_L89 rec9 fu a0 v1 μ8
      else
        if x5 = 33 then
          if (q4.2.1 a0 15) = 0 then
            bd (fX10_readMore fu a0 q4.2) fun μ7 =>
            fX10_readBlocks_L89 rec9 fu a0 v1 μ7
          else
            fX10_readBlocks_L65 rec9 fu a0 v1 x3 x5 q4.2
        else
          fX10_readBlocks_L65 rec9 fu a0 v1 x3 x5 q4.2
def fX10_readBlocks_L9 (fu : Nat) : Nat → Nat → Int32 → Mm → Option (Mm)
  | 0 => fun _ _ _ => none
  | n + 1 => fX10_readBlocks_B9 (fX10_readBlocks_L9 fu n) fu
def fX10_readBlocks (fu : Nat) (a0 : Nat) (μ : Mm) : Option (Mm) :=
  lt' (fX10_forget a0 μ) fun μ1 =>
  lt' (fX10_good a0 μ1) fun x2 =>
  fX10_readBlocks_L9 fu fu a0 x2 μ1
def fX10_must (a0 : Nat) (v1 : Int32) (v2 : Int32) (μ : Mm) : Option (Mm) :=
  bd (fX10_one a0 μ) fun q1 =>
  if q1.1 = v1 then
    some q1.2
  else
    lt' (fX10_wrong a0 1 v2 q1.2) fun μ2 =>
    some μ2
def fX10_readHead_L217 (fu : Nat) (a0 : Nat) (o0 : Nat) (t1 : Int32) (t2 : Int32) (μ : Mm) : Option (Mm) :=
  gd (ib t1 12) <|
  lt' (si μ o0 t1.toNatClampNeg t2) fun μ1 =>
  gd (ib ((6 * (μ1.1 a0 14)) + 2) 12) <|
  bd (fX10_readTable fu 512 a0 (μ1.2 a0 8) (256 * (μ1.1 a0 14)) (μ1.1 (μ1.2 a0 7) ((6 * (μ1.1 a0 14)) + 2).toNatClampNeg) μ1) fun μ3 =>
  some μ3
def fX10_readHead_L110 (rec75 : Nat → Int32 → Mm → Option (Mm)) (fu : Nat) (a0 : Nat) (v2 : Int32) (v4 : Int32) (μ : Mm) : Option (Mm) :=
  gd (ib ((6 * (μ.1 a0 14)) + v2) 12) <|
  lt' (si μ (μ.2 a0 7) ((6 * (μ.1 a0 14)) + v2).toNatClampNeg v4) fun μ1 =>
  lt' (v2 + 1) fun x2 =>
  rec75 a0 x2 μ1
def fX10_readHead_L104 (rec75 : Nat → Int32 → Mm → Option (Mm)) (fu : Nat) (a0 : Nat) (v2 : Int32) (v3 : Int32) (v4 : Int32) (μ : Mm) : Option (Mm) :=
  lt' (fX10_wrong a0 3 v3 μ) fun μ1 =>
  fX10_readHead_L110 rec75 fu a0 v2 v4 μ1
def fX10_readHead_B75 (rec75 : Nat → Int32 → Mm → Option (Mm)) (fu : Nat) (a0 : Nat) (v2 : Int32) (μ : Mm) : Option (Mm) :=
  if (2 : Int32) ≤ v2 then
    bd (fX10_one a0 μ) fun q1 =>
    lt' q1.1 fun x2 =>
    bd (fX10_one a0 q1.2) fun q3 =>
    gd (ib ((6 * (q1.2.1 a0 14)) + 3) 12) <|
    lt' (si q3.2 (q1.2.2 a0 7) ((6 * (q1.2.1 a0 14)) + 3).toNatClampNeg q3.1) fun μ4 =>
    bd (fX10_one a0 μ4) fun q5 =>
    gd (ib ((6 * (μ4.1 a0 14)) + 4) 12) <|
    lt' (si q5.2 (μ4.2 a0 7) ((6 * (μ4.1 a0 14)) + 4).toNatClampNeg q5.1) fun μ6 =>
    gd (ib ((6 * (μ6.1 a0 14)) + 5) 12) <|
    lt' (si μ6 (μ6.2 a0 7) ((6 * (μ6.1 a0 14)) + 5).toNatClampNeg 0) fun μ7 =>
    if x2 ≤ 127 then
      fX10_readHead_L217 fu a0 (μ7.2 a0 7) ((6 * (μ7.1 a0 14)) + 2) 0 μ7
    else
      fX10_readHead_L217 fu a0 (μ7.2 a0 7) ((6 * (μ7.1 a0 14)) + 2) (2 <<< ((x2 &&& 7) &&& 31)) μ7
  else
    lt' (μ.1 a0 12) fun x8 =>
    bd (fX10_two a0 μ) fun q9 =>
    lt' q9.1 fun x10 =>
    if x10 < 1 then
      fX10_readHead_L104 rec75 fu a0 v2 x8 x10 q9.2
    else
      if x10 ≤ 64 then
        fX10_readHead_L110 rec75 fu a0 v2 x10 q9.2
      else
        fX10_readHead_L104 rec75 fu a0 v2 x8 x10 q9.2
def fX10_readHead_L75 (fu : Nat) : Nat → Nat → Int32 → Mm → Option (Mm)
  | 0 => fun _ _ _ => none
  | n + 1 => fX10_readHead_B75 (fX10_readHead_L75 fu n) fu
def fX10_readHead_L63 (fu : Nat) (a0 : Nat) (o0 : Nat) (t1 : Int32) (μ : Mm) : Option (Mm) :=
  gd (b01 t1) <|
  lt' (si μ o0 15 t1) fun μ1 =>
  bd (fX10_must a0 97 0 μ1) fun μ2 =>
  fX10_readHead_L75 fu fu a0 0 μ2
def fX10_readHead_L51 (fu : Nat) (a0 : Nat) (v1 : Int32) (μ : Mm) : Option (Mm) :=
  if v1 = 55 then
    fX10_readHead_L63 fu a0 a0 1 μ
  else
    fX10_readHead_L63 fu a0 a0 0 μ
def fX10_readHead (fu : Nat) (a0 : Nat) (μ : Mm) : Option (Mm) :=
  bd (fX10_must a0 71 0 μ) fun μ1 =>
  bd (fX10_must a0 73 0 μ1) fun μ2 =>
  bd (fX10_must a0 70 0 μ2) fun μ3 =>
  bd (fX10_must a0 56 0 μ3) fun μ4 =>
  bd (fX10_one a0 μ4) fun q5 =>
  lt' q5.1 fun x6 =>
  if x6 = 55 then
    fX10_readHead_L51 fu a0 x6 q5.2
  else
    if x6 = 57 then
      fX10_readHead_L51 fu a0 x6 q5.2
    else
      lt' (fX10_wrong a0 1 0 q5.2) fun μ7 =>
      fX10_readHead_L51 fu a0 x6 μ7
def fX10_read (fu : Nat) (a0 : Nat) (v1 : Int32) (μ : Mm) : Option (Int32 × Mm) :=
  if v1 < 0 then
    some ((-2), μ)
  else
    if v1 ≤ (μ.1 a0 2) then
      lt' (si μ a0 2 0) fun μ1 =>
      lt' (si μ1 a0 4 0) fun μ2 =>
      lt' (si μ2 a0 5 (-1)) fun μ3 =>
      lt' (si μ3 a0 12 0) fun μ4 =>
      lt' (si μ4 a0 13 v1) fun μ5 =>
      lt' (si μ5 a0 14 (1 - (μ5.1 a0 6))) fun μ6 =>
      bd (fX10_readHead fu a0 μ6) fun μ7 =>
      bd (fX10_readBlocks fu a0 μ7) fun μ8 =>
      lt' (fX10_good a0 μ8) fun x9 =>
      if x9 = 0 then
        some ((-1), μ8)
      else
        lt' (si μ8 a0 6 (μ8.1 a0 14)) fun μ10 =>
        bd (fX10_frames a0 μ10) fun x11 =>
        some (x11, μ10)
    else
      some ((-2), μ)
def fX10_fault (a0 : Nat) (v1 : Int32) (μ : Mm) : Int32 :=
  if v1 = 0 then
    μ.1 a0 4
  else
    if v1 = 1 then
      μ.1 a0 5
    else
      (-1)
def fX10_isTable (v0 : Int32) : Int32 :=
  if v0 = 0 then
    1
  else
    if v0 < 2 then
      0
    else
      if (256 : Int32) < v0 then
        0
      else
        if (v0 &&& (v0 - 1)) = 0 then
          1
        else
          0
def fX10_isWithin (v0 : Int32) (v1 : Int32) (v2 : Int32) : Int32 :=
  if v0 < v1 then
    0
  else
    if v2 < v0 then
      0
    else
      1
def fX10_begin_B133 (rec133 : Nat → Int32 → Mm → Option (Int32 × Mm)) (fu : Nat) (a0 : Nat) (v5 : Int32) (μ : Mm) : Option (Int32 × Mm) :=
  if (256 : Int32) ≤ v5 then
    some (1, μ)
  else
    gd (ib ((256 * (μ.1 a0 6)) + v5) 512) <|
    lt' (si μ (μ.2 a0 8) ((256 * (μ.1 a0 6)) + v5).toNatClampNeg 0) fun μ1 =>
    lt' (v5 + 1) fun x2 =>
    rec133 a0 x2 μ1
def fX10_begin_L133 (fu : Nat) : Nat → Nat → Int32 → Mm → Option (Int32 × Mm)
  | 0 => fun _ _ _ => none
  | n + 1 => fX10_begin_B133 (fX10_begin_L133 fu n) fu
def fX10_begin (fu : Nat) (a0 : Nat) (v1 : Int32) (v2 : Int32) (v3 : Int32) (v4 : Int32) (μ : Mm) : Option (Int32 × Mm) :=
  lt' (fX10_isWithin v1 1 64) fun x1 =>
  if x1 = 0 then
    some (0, μ)
  else
    lt' (fX10_isWithin v2 1 64) fun x2 =>
    if x2 = 0 then
      some (0, μ)
    else
      lt' (fX10_isTable v3) fun x3 =>
      if x3 = 0 then
        some (0, μ)
      else
        lt' (fX10_isWithin v4 0 255) fun x4 =>
        if x4 = 0 then
          some (0, μ)
        else
          gd (ib (6 * (μ.1 a0 6)) 12) <|
          lt' (si μ (μ.2 a0 7) (6 * (μ.1 a0 6)).toNatClampNeg v1) fun μ5 =>
          gd (ib ((6 * (μ5.1 a0 6)) + 1) 12) <|
          lt' (si μ5 (μ5.2 a0 7) ((6 * (μ5.1 a0 6)) + 1).toNatClampNeg v2) fun μ6 =>
          gd (ib ((6 * (μ6.1 a0 6)) + 2) 12) <|
          lt' (si μ6 (μ6.2 a0 7) ((6 * (μ6.1 a0 6)) + 2).toNatClampNeg v3) fun μ7 =>
          gd (ib ((6 * (μ7.1 a0 6)) + 3) 12) <|
          lt' (si μ7 (μ7.2 a0 7) ((6 * (μ7.1 a0 6)) + 3).toNatClampNeg v4) fun μ8 =>
          gd (ib ((6 * (μ8.1 a0 6)) + 4) 12) <|
          lt' (si μ8 (μ8.2 a0 7) ((6 * (μ8.1 a0 6)) + 4).toNatClampNeg 0) fun μ9 =>
          gd (ib ((6 * (μ9.1 a0 6)) + 5) 12) <|
          lt' (si μ9 (μ9.2 a0 7) ((6 * (μ9.1 a0 6)) + 5).toNatClampNeg 0) fun μ10 =>
          fX10_begin_L133 fu fu a0 0 μ10
def fX10_isColour_L52 (t0 : Int32) (t1 : Int32) (μ : Mm) : Option (Int32) :=
  if t1 ≤ t0 then
    some 0
  else
    some 1
def fX10_isColour_L15 (a0 : Nat) (v1 : Int32) (v2 : Int32) (μ : Mm) : Option (Int32) :=
  if v2 < 0 then
    some 0
  else
    if v1 = (-1) then
      gd (ib ((6 * (μ.1 a0 6)) + 2) 12) <|
      fX10_isColour_L52 v2 (μ.1 (μ.2 a0 7) ((6 * (μ.1 a0 6)) + 2).toNatClampNeg) μ
    else
      bd (fX10_field a0 (μ.1 a0 6) v1 4 μ) fun x1 =>
      fX10_isColour_L52 v2 x1 μ
def fX10_isColour (a0 : Nat) (v1 : Int32) (v2 : Int32) (μ : Mm) : Option (Int32) :=
  if v1 = (-1) then
    fX10_isColour_L15 a0 v1 v2 μ
  else
    bd (fX10_isFrame a0 v1 μ) fun x1 =>
    if x1 = 0 then
      some 0
    else
      fX10_isColour_L15 a0 v1 v2 μ
def fX10_colour (a0 : Nat) (v1 : Int32) (v2 : Int32) (v3 : Int32) (μ : Mm) : Option (Int32 × Mm) :=
  bd (fX10_isColour a0 v1 v2 μ) fun x1 =>
  if x1 = 0 then
    some (0, μ)
  else
    lt' (fX10_isWithin v3 0 16777215) fun x2 =>
    if x2 = 0 then
      some (0, μ)
    else
      if v1 = (-1) then
        gd (ib ((256 * (μ.1 a0 6)) + v2) 512) <|
        lt' (si μ (μ.2 a0 8) ((256 * (μ.1 a0 6)) + v2).toNatClampNeg v3) fun μ5 =>
        some (1, μ5)
      else
        lt' (fX10_localAt (μ.1 a0 6) v1 v2) fun x3 =>
        gd (ib x3 12288) <|
        lt' (si μ (μ.2 a0 10) x3.toNatClampNeg v3) fun μ4 =>
        some (1, μ4)
def fX10_frame_B293 (rec293 : Nat → Int32 → Int32 → Int32 → Int32 → Mm → Option (Int32 × Mm)) (fu : Nat) (a0 : Nat) (v3 : Int32) (v4 : Int32) (v7 : Int32) (v10 : Int32) (μ : Mm) : Option (Int32 × Mm) :=
  if (v3 * v4) ≤ v10 then
    lt' ((6 * (μ.1 a0 6)) + 5) fun x1 =>
    lt' (μ.2 a0 7) fun r2 =>
    gd (ib x1 12) <|
    gd (ib x1 12) <|
    lt' (si μ r2 x1.toNatClampNeg ((μ.1 r2 x1.toNatClampNeg) + 1)) fun μ4 =>
    some (v7, μ4)
  else
    bd (fX10_setIndex a0 (μ.1 a0 6) v7 v10 0 μ) fun μ5 =>
    lt' (v10 + 1) fun x6 =>
    rec293 a0 v3 v4 v7 x6 μ5
def fX10_frame_L293 (fu : Nat) : Nat → Nat → Int32 → Int32 → Int32 → Int32 → Mm → Option (Int32 × Mm)
  | 0 => fun _ _ _ _ _ _ => none
  | n + 1 => fX10_frame_B293 (fX10_frame_L293 fu n) fu
def fX10_frame_B260 (rec260 : Nat → Int32 → Int32 → Int32 → Int32 → Int32 → Mm → Option (Int32 × Mm)) (fu : Nat) (a0 : Nat) (v3 : Int32) (v4 : Int32) (v5 : Int32) (v7 : Int32) (v10 : Int32) (μ : Mm) : Option (Int32 × Mm) :=
  if v5 ≤ v10 then
    fX10_frame_L293 fu fu a0 v3 v4 v7 0 μ
  else
    lt' (fX10_localAt (μ.1 a0 6) v7 v10) fun x1 =>
    gd (ib x1 12288) <|
    lt' (si μ (μ.2 a0 10) x1.toNatClampNeg 0) fun μ2 =>
    lt' (v10 + 1) fun x3 =>
    rec260 a0 v3 v4 v5 v7 x3 μ2
def fX10_frame_L260 (fu : Nat) : Nat → Nat → Int32 → Int32 → Int32 → Int32 → Int32 → Mm → Option (Int32 × Mm)
  | 0 => fun _ _ _ _ _ _ _ => none
  | n + 1 => fX10_frame_B260 (fX10_frame_L260 fu n) fu
def fX10_frame_L202 (fu : Nat) (a0 : Nat) (v3 : Int32) (v4 : Int32) (v5 : Int32) (v7 : Int32) (o0 : Nat) (t1 : Int32) (t2 : Int32) (t3 : Int32) (t4 : Int32) (μ : Mm) : Option (Int32 × Mm) :=
  bd (fX10_setField o0 t1 t2 t3 t4 μ) fun μ1 =>
  bd (fX10_setField a0 (μ1.1 a0 6) v7 6 0 μ1) fun μ2 =>
  bd (fX10_setField a0 (μ2.1 a0 6) v7 7 (-1) μ2) fun μ3 =>
  bd (fX10_setField a0 (μ3.1 a0 6) v7 8 0 μ3) fun μ4 =>
  bd (fX10_setField a0 (μ4.1 a0 6) v7 9 0 μ4) fun μ5 =>
  fX10_frame_L260 fu fu a0 v3 v4 v5 v7 0 μ5
def fX10_frame_L122 (fu : Nat) (a0 : Nat) (v1 : Int32) (v2 : Int32) (v3 : Int32) (v4 : Int32) (v5 : Int32) (v6 : Int32) (v7 : Int32) (μ : Mm) : Option (Int32 × Mm) :=
  bd (fX10_setField a0 (μ.1 a0 6) v7 0 v1 μ) fun μ1 =>
  bd (fX10_setField a0 (μ1.1 a0 6) v7 1 v2 μ1) fun μ2 =>
  bd (fX10_setField a0 (μ2.1 a0 6) v7 2 v3 μ2) fun μ3 =>
  bd (fX10_setField a0 (μ3.1 a0 6) v7 3 v4 μ3) fun μ4 =>
  bd (fX10_setField a0 (μ4.1 a0 6) v7 4 v5 μ4) fun μ5 =>
  if v6 = 0 then
    fX10_frame_L202 fu a0 v3 v4 v5 v7 a0 (μ5.1 a0 6) v7 5 0 μ5
  else
    fX10_frame_L202 fu a0 v3 v4 v5 v7 a0 (μ5.1 a0 6) v7 5 1 μ5
def fX10_frame (fu : Nat) (a0 : Nat) (v1 : Int32) (v2 : Int32) (v3 : Int32) (v4 : Int32) (v5 : Int32) (v6 : Int32) (μ : Mm) : Option (Int32 × Mm) :=
  bd (fX10_frames a0 μ) fun x1 =>
  gd (ib (6 * (μ.1 a0 6)) 12) <|
  lt' (μ.1 (μ.2 a0 7) (6 * (μ.1 a0 6)).toNatClampNeg) fun x3 =>
  gd (ib ((6 * (μ.1 a0 6)) + 1) 12) <|
  lt' (μ.1 (μ.2 a0 7) ((6 * (μ.1 a0 6)) + 1).toNatClampNeg) fun x5 =>
  if x1 = 24 then
    some ((-1), μ)
  else
    lt' (fX10_isWithin v1 0 x3) fun x6 =>
    if x6 = 0 then
      some ((-1), μ)
    else
      lt' (fX10_isWithin v2 0 x5) fun x7 =>
      if x7 = 0 then
        some ((-1), μ)
      else
        lt' (fX10_isWithin v3 1 (x3 - v1)) fun x8 =>
        if x8 = 0 then
          some ((-1), μ)
        else
          lt' (fX10_isWithin v4 1 (x5 - v2)) fun x9 =>
          if x9 = 0 then
            some ((-1), μ)
          else
            lt' (fX10_isTable v5) fun x10 =>
            if x10 = 0 then
              some ((-1), μ)
            else
              if v5 = 0 then
                gd (ib ((6 * (μ.1 a0 6)) + 2) 12) <|
                if (μ.1 (μ.2 a0 7) ((6 * (μ.1 a0 6)) + 2).toNatClampNeg) = 0 then
                  some ((-1), μ)
                else
                  fX10_frame_L122 fu a0 v1 v2 v3 v4 v5 v6 x1 μ
              else
                fX10_frame_L122 fu a0 v1 v2 v3 v4 v5 v6 x1 μ
def fX10_control_L97 (o0 : Nat) (t1 : Int32) (t2 : Int32) (t3 : Int32) (t4 : Int32) (μ : Mm) : Option (Int32 × Mm) :=
  bd (fX10_setField o0 t1 t2 t3 t4 μ) fun μ1 =>
  some (1, μ1)
def fX10_control (a0 : Nat) (v1 : Int32) (v2 : Int32) (v3 : Int32) (v4 : Int32) (v5 : Int32) (μ : Mm) : Option (Int32 × Mm) :=
  bd (fX10_isFrame a0 v1 μ) fun x1 =>
  if x1 = 0 then
    some (0, μ)
  else
    lt' (fX10_isWithin v2 0 7) fun x2 =>
    if x2 = 0 then
      some (0, μ)
    else
      lt' (fX10_isWithin v3 (-1) 255) fun x3 =>
      if x3 = 0 then
        some (0, μ)
      else
        lt' (fX10_isWithin v4 0 65535) fun x4 =>
        if x4 = 0 then
          some (0, μ)
        else
          bd (fX10_setField a0 (μ.1 a0 6) v1 6 v2 μ) fun μ5 =>
          bd (fX10_setField a0 (μ5.1 a0 6) v1 7 v3 μ5) fun μ6 =>
          bd (fX10_setField a0 (μ6.1 a0 6) v1 8 v4 μ6) fun μ7 =>
          if v5 = 0 then
            fX10_control_L97 a0 (μ7.1 a0 6) v1 9 0 μ7
          else
            fX10_control_L97 a0 (μ7.1 a0 6) v1 9 1 μ7
def fX10_paint_B68 (rec68 : Nat → Int32 → Int32 → Int32 → Int32 → Int32 → Mm → Option (Int32 × Mm)) (fu : Nat) (a0 : Nat) (v1 : Int32) (v2 : Int32) (v3 : Int32) (v4 : Int32) (v6 : Int32) (μ : Mm) : Option (Int32 × Mm) :=
  if v3 ≤ v6 then
    some (1, μ)
  else
    bd (fX10_setIndex a0 (μ.1 a0 6) v1 (v2 + v6) v4 μ) fun μ1 =>
    lt' (v6 + 1) fun x2 =>
    rec68 a0 v1 v2 v3 v4 x2 μ1
def fX10_paint_L68 (fu : Nat) : Nat → Nat → Int32 → Int32 → Int32 → Int32 → Int32 → Mm → Option (Int32 × Mm)
  | 0 => fun _ _ _ _ _ _ _ => none
  | n + 1 => fX10_paint_B68 (fX10_paint_L68 fu n) fu
def fX10_paint (fu : Nat) (a0 : Nat) (v1 : Int32) (v2 : Int32) (v3 : Int32) (v4 : Int32) (μ : Mm) : Option (Int32 × Mm) :=
  bd (fX10_isFrame a0 v1 μ) fun x1 =>
  if x1 = 0 then
    some (0, μ)
  else
    bd (fX10_colours a0 (μ.1 a0 6) v1 μ) fun x2 =>
    lt' (fX10_isWithin v4 0 (x2 - 1)) fun x3 =>
    if x3 = 0 then
      some (0, μ)
    else
      bd (fX10_places a0 (μ.1 a0 6) v1 μ) fun x4 =>
      lt' (fX10_isWithin v2 0 x4) fun x5 =>
      if x5 = 0 then
        some (0, μ)
      else
        lt' (fX10_isWithin v3 0 (x4 - v2)) fun x6 =>
        if x6 = 0 then
          some (0, μ)
        else
          fX10_paint_L68 fu fu a0 v1 v2 v3 v4 0 μ
def fX10_say_L21 (a0 : Nat) (μ : Mm) : Option (Mm) :=
  lt' (si μ a0 31 ((μ.1 a0 31) + 1)) fun μ1 =>
  some μ1
def fX10_say (a0 : Nat) (v1 : Int32) (μ : Mm) : Option (Mm) :=
  if (12000 : Int32) ≤ (μ.1 a0 31) then
    fX10_say_L21 a0 μ
  else
    gd (ib (μ.1 a0 31) 12020) <|
    lt' (si μ (μ.2 a0 21) (μ.1 a0 31).toNatClampNeg (vp_nar .byte v1.toInt8.toInt32)) fun μ1 =>
    fX10_say_L21 a0 μ1
def fX10_sayTwo (a0 : Nat) (v1 : Int32) (μ : Mm) : Option (Mm) :=
  bd (fX10_say a0 v1 μ) fun μ1 =>
  bd (fX10_say a0 (v1 >>> (8 &&& 31)) μ1) fun μ2 =>
  some μ2
def fX10_sayTable_B3 (rec3 : Nat → Nat → Int32 → Int32 → Int32 → Mm → Option (Mm)) (fu : Nat) (ln : Nat) (a0 : Nat) (a1 : Nat) (v2 : Int32) (v3 : Int32) (v4 : Int32) (μ : Mm) : Option (Mm) :=
  if v3 ≤ v4 then
    some μ
  else
    gd (ib (v2 + v4) ln) <|
    bd (fX10_say a0 ((μ.1 a1 (v2 + v4).toNatClampNeg) >>> (16 &&& 31)) μ) fun μ2 =>
    gd (ib (v2 + v4) ln) <|
    bd (fX10_say a0 ((μ2.1 a1 (v2 + v4).toNatClampNeg) >>> (8 &&& 31)) μ2) fun μ4 =>
    gd (ib (v2 + v4) ln) <|
    bd (fX10_say a0 (μ4.1 a1 (v2 + v4).toNatClampNeg) μ4) fun μ6 =>
    lt' (v4 + 1) fun x7 =>
    rec3 a0 a1 v2 v3 x7 μ6
def fX10_sayTable_L3 (fu : Nat) (ln : Nat) : Nat → Nat → Nat → Int32 → Int32 → Int32 → Mm → Option (Mm)
  | 0 => fun _ _ _ _ _ _ => none
  | n + 1 => fX10_sayTable_B3 (fX10_sayTable_L3 fu ln n) fu ln
def fX10_sayTable (fu : Nat) (ln : Nat) (a0 : Nat) (a1 : Nat) (v2 : Int32) (v3 : Int32) (μ : Mm) : Option (Mm) :=
  fX10_sayTable_L3 fu ln fu a0 a1 v2 v3 0 μ
def fX10_bitsOf_B2 (rec2 : Int32 → Int32 → Option (Int32)) (fu : Nat) (v0 : Int32) (v1 : Int32) : Option (Int32) :=
  if v0 ≤ (2 <<< (v1 &&& 31)) then
    some v1
  else
    lt' (v1 + 1) fun x1 =>
    rec2 v0 x1
def fX10_bitsOf_L2 (fu : Nat) : Nat → Int32 → Int32 → Option (Int32)
  | 0 => fun _ _ => none
  | n + 1 => fX10_bitsOf_B2 (fX10_bitsOf_L2 fu n) fu
def fX10_bitsOf (fu : Nat) (v0 : Int32) : Option (Int32) :=
  fX10_bitsOf_L2 fu fu v0 0
def fX10_sayRow_B10 (rec10 : Nat → Int32 → Mm → Option (Mm)) (fu : Nat) (a0 : Nat) (v1 : Int32) (μ : Mm) : Option (Mm) :=
  if (μ.1 a0 34) ≤ v1 then
    lt' (si μ a0 34 0) fun μ1 =>
    some μ1
  else
    gd (ib v1 256) <|
    bd (fX10_say a0 (μ.1 (μ.2 a0 35) v1.toNatClampNeg) μ) fun μ3 =>
    lt' (v1 + 1) fun x4 =>
    rec10 a0 x4 μ3
def fX10_sayRow_L10 (fu : Nat) : Nat → Nat → Int32 → Mm → Option (Mm)
  | 0 => fun _ _ _ => none
  | n + 1 => fX10_sayRow_B10 (fX10_sayRow_L10 fu n) fu
def fX10_sayRow (fu : Nat) (a0 : Nat) (μ : Mm) : Option (Mm) :=
  bd (fX10_say a0 (μ.1 a0 34) μ) fun μ1 =>
  fX10_sayRow_L10 fu fu a0 0 μ1
def fX10_sayBits_L72 (rec25 : Nat → Mm → Option (Mm)) (fu : Nat) (a0 : Nat) (μ : Mm) : Option (Mm) :=
  lt' (si μ a0 32 (((μ.1 a0 32).toUInt32 >>> ((8 : Int32).toUInt32 &&& Int32.toUInt32 31)).toInt32)) fun μ1 =>
  lt' (si μ1 a0 33 ((μ1.1 a0 33) - 8)) fun μ2 =>
  rec25 a0 μ2
def fX10_sayBits_B25 (rec25 : Nat → Mm → Option (Mm)) (fu : Nat) (a0 : Nat) (μ : Mm) : Option (Mm) :=
  if (μ.1 a0 33) < 8 then
    some μ
  else
    gd (ib (μ.1 a0 34) 256) <|
    lt' (si μ (μ.2 a0 35) (μ.1 a0 34).toNatClampNeg (vp_nar .byte ((μ.1 a0 32).toInt8.toInt32))) fun μ1 =>
    lt' (si μ1 a0 34 ((μ1.1 a0 34) + 1)) fun μ2 =>
    if (μ2.1 a0 34) = 255 then
      bd (fX10_sayRow fu a0 μ2) fun μ3 =>
      fX10_sayBits_L72 rec25 fu a0 μ3
    else
      fX10_sayBits_L72 rec25 fu a0 μ2
def fX10_sayBits_L25 (fu : Nat) : Nat → Nat → Mm → Option (Mm)
  | 0 => fun _ _ => none
  | n + 1 => fX10_sayBits_B25 (fX10_sayBits_L25 fu n) fu
def fX10_sayBits (fu : Nat) (a0 : Nat) (v1 : Int32) (v2 : Int32) (μ : Mm) : Option (Mm) :=
  lt' (si μ a0 32 ((μ.1 a0 32) ||| (v1 <<< ((μ.1 a0 33) &&& 31)))) fun μ1 =>
  lt' (si μ1 a0 33 ((μ1.1 a0 33) + v2)) fun μ2 =>
  fX10_sayBits_L25 fu fu a0 μ2
def fX10_indexOf (a0 : Nat) (v1 : Int32) (v2 : Int32) (μ : Mm) : Option (Int32) :=
  bd (fX10_placeOf a0 (μ.1 a0 6) v1 v2 μ) fun x1 =>
  bd (fX10_indexAt a0 (μ.1 a0 6) v1 x1 μ) fun x2 =>
  some x2
def fX10_stands_L67 (fu : Nat) (v6 : Int32) (μ : Mm) : Option (Int32) :=
  if (0 : Int32) ≤ v6 then
    some 0
  else
    some 1
def fX10_stands_B30 (rec30 : Nat → Int32 → Int32 → Int32 → Mm → Option (Int32)) (fu : Nat) (a0 : Nat) (v2 : Int32) (v5 : Int32) (v6 : Int32) (μ : Mm) : Option (Int32) :=
  if v6 < 0 then
    fX10_stands_L67 fu v6 μ
  else
    gd (ib v6 4096) <|
    bd (fX10_indexOf a0 v2 v5 μ) fun x2 =>
    if (μ.1 (μ.2 a0 25) v6.toNatClampNeg) = x2 then
      lt' (v5 + (-1)) fun x3 =>
      gd (ib v6 4096) <|
      lt' (μ.1 (μ.2 a0 24) v6.toNatClampNeg) fun x5 =>
      rec30 a0 v2 x3 x5 μ
    else
      fX10_stands_L67 fu v6 μ
def fX10_stands_L30 (fu : Nat) : Nat → Nat → Int32 → Int32 → Int32 → Mm → Option (Int32)
  | 0 => fun _ _ _ _ _ => none
  | n + 1 => fX10_stands_B30 (fX10_stands_L30 fu n) fu
def fX10_stands (fu : Nat) (a0 : Nat) (v1 : Int32) (v2 : Int32) (v3 : Int32) (v4 : Int32) (μ : Mm) : Option (Int32) :=
  gd (ib v1 4096) <|
  if (v3 + (μ.1 (μ.2 a0 27) v1.toNatClampNeg)) ≤ v4 then
    gd (ib v1 4096) <|
    lt' ((v3 + (μ.1 (μ.2 a0 27) v1.toNatClampNeg)) - 1) fun x3 =>
    fX10_stands_L30 fu fu a0 v2 x3 v1 μ
  else
    some 0
def fX10_sayLongest_L330 (fu : Nat) (a0 : Nat) (v2 : Int32) (v8 : Int32) (v10 : Int32) (μ : Mm) : Option (Int32 × Mm) :=
  lt' (si μ a0 30 v10) fun μ1 =>
  some (v2 + v8, μ1)
def fX10_sayLongest_L253 (fu : Nat) (a0 : Nat) (v2 : Int32) (v8 : Int32) (v9 : Int32) (t0 : Int32) (μ : Mm) : Option (Int32 × Mm) :=
  bd (fX10_sayBits fu a0 t0 (μ.1 a0 28) μ) fun μ1 =>
  if (μ1.1 a0 30) < 0 then
    fX10_sayLongest_L330 fu a0 v2 v8 t0 μ1
  else
    if (4096 : Int32) ≤ (μ1.1 a0 29) then
      fX10_sayLongest_L330 fu a0 v2 v8 t0 μ1
    else
      gd (ib (μ1.1 a0 29) 4096) <|
      lt' (si μ1 (μ1.2 a0 36) (μ1.1 a0 29).toNatClampNeg (vp_nar .short (-1))) fun μ2 =>
      gd (ib (μ2.1 a0 30) 4096) <|
      gd (ib (μ2.1 a0 29) 4096) <|
      lt' (si μ2 (μ2.2 a0 37) (μ2.1 a0 29).toNatClampNeg (vp_nar .short (μ2.1 (μ2.2 a0 36) (μ2.1 a0 30).toNatClampNeg))) fun μ4 =>
      gd (ib (μ4.1 a0 30) 4096) <|
      lt' (si μ4 (μ4.2 a0 36) (μ4.1 a0 30).toNatClampNeg (vp_nar .short ((μ4.1 a0 29).toInt16.toInt32))) fun μ5 =>
      bd (fX10_tell a0 v9 μ5) fun μ6 =>
      fX10_sayLongest_L330 fu a0 v2 v8 t0 μ6
def fX10_sayLongest_L237 (fu : Nat) (a0 : Nat) (v2 : Int32) (v4 : Int32) (v7 : Int32) (v8 : Int32) (t0 : Int32) (μ : Mm) : Option (Int32 × Mm) :=
  if v7 = 0 then
    fX10_sayLongest_L253 fu a0 v2 v8 t0 v4 μ
  else
    fX10_sayLongest_L253 fu a0 v2 v8 t0 (μ.1 a0 29) μ
def fX10_sayLongest_L211 (fu : Nat) (a0 : Nat) (v2 : Int32) (v4 : Int32) (v7 : Int32) (t0 : Int32) (μ : Mm) : Option (Int32 × Mm) :=
  if v7 = 0 then
    gd (ib v4 4096) <|
    fX10_sayLongest_L237 fu a0 v2 v4 v7 t0 (μ.1 (μ.2 a0 26) v4.toNatClampNeg) μ
  else
    gd (ib (μ.1 a0 30) 4096) <|
    fX10_sayLongest_L237 fu a0 v2 v4 v7 t0 (μ.1 (μ.2 a0 26) (μ.1 a0 30).toNatClampNeg) μ
def fX10_sayLongest_L183 (fu : Nat) (a0 : Nat) (v2 : Int32) (v4 : Int32) (t0 : Int32) (μ : Mm) : Option (Int32 × Mm) :=
  if t0 = 0 then
    gd (ib v4 4096) <|
    fX10_sayLongest_L211 fu a0 v2 v4 t0 (μ.1 (μ.2 a0 27) v4.toNatClampNeg) μ
  else
    gd (ib (μ.1 a0 30) 4096) <|
    fX10_sayLongest_L211 fu a0 v2 v4 t0 ((μ.1 (μ.2 a0 27) (μ.1 a0 30).toNatClampNeg) + 1) μ
def fX10_sayLongest_L182 (fu : Nat) (a0 : Nat) (v2 : Int32) (v4 : Int32) (μ : Mm) : Option (Int32 × Mm) :=
  fX10_sayLongest_L183 fu a0 v2 v4 0 μ
def fX10_sayLongest_L86 (fu : Nat) (a0 : Nat) (v1 : Int32) (v2 : Int32) (v3 : Int32) (v4 : Int32) (v5 : Int32) (μ : Mm) : Option (Int32 × Mm) :=
  if (μ.1 a0 30) < 0 then
    fX10_sayLongest_L182 fu a0 v2 v4 μ
  else
    if (4096 : Int32) ≤ (μ.1 a0 29) then
      fX10_sayLongest_L182 fu a0 v2 v4 μ
    else
      gd (ib (μ.1 a0 30) 4096) <|
      if ((μ.1 (μ.2 a0 27) (μ.1 a0 30).toNatClampNeg) + 1) ≤ (v5 - v2) then
        fX10_sayLongest_L182 fu a0 v2 v4 μ
      else
        gd (ib (μ.1 a0 30) 4096) <|
        if v3 ≤ (v2 + (μ.1 (μ.2 a0 27) (μ.1 a0 30).toNatClampNeg)) then
          fX10_sayLongest_L182 fu a0 v2 v4 μ
        else
          bd (fX10_stands fu a0 (μ.1 a0 30) v1 v2 v3 μ) fun x3 =>
          if x3 = 0 then
            fX10_sayLongest_L182 fu a0 v2 v4 μ
          else
            gd (ib (μ.1 a0 30) 4096) <|
            bd (fX10_indexOf a0 v1 (v2 + (μ.1 (μ.2 a0 27) (μ.1 a0 30).toNatClampNeg)) μ) fun x5 =>
            gd (ib (μ.1 a0 30) 4096) <|
            if x5 = (μ.1 (μ.2 a0 26) (μ.1 a0 30).toNatClampNeg) then
              fX10_sayLongest_L183 fu a0 v2 v4 1 μ
            else
              fX10_sayLongest_L182 fu a0 v2 v4 μ
def fX10_sayLongest_L71 (rec17 : Nat → Int32 → Int32 → Int32 → Int32 → Int32 → Int32 → Mm → Option (Int32 × Mm)) (fu : Nat) (a0 : Nat) (v1 : Int32) (v2 : Int32) (v3 : Int32) (v4 : Int32) (v5 : Int32) (v6 : Int32) (μ : Mm) : Option (Int32 × Mm) :=
  if v6 < 0 then
    rec17 a0 v1 v2 v3 v4 v5 v6 μ
  else
    lt' (v5 + 1) fun x1 =>
    rec17 a0 v1 v2 v3 v6 x1 v6 μ
def fX10_sayLongest_B37 (rec17 : Nat → Int32 → Int32 → Int32 → Int32 → Int32 → Int32 → Mm → Option (Int32 × Mm)) (rec37 : Nat → Int32 → Int32 → Int32 → Int32 → Int32 → Int32 → Mm → Option (Int32 × Mm)) (fu : Nat) (a0 : Nat) (v1 : Int32) (v2 : Int32) (v3 : Int32) (v4 : Int32) (v5 : Int32) (v6 : Int32) (μ : Mm) : Option (Int32 × Mm) :=
  if v6 < 0 then
    fX10_sayLongest_L71 rec17 fu a0 v1 v2 v3 v4 v5 v6 μ
  else
    gd (ib v6 4096) <|
    bd (fX10_indexOf a0 v1 v5 μ) fun x2 =>
    if (μ.1 (μ.2 a0 25) v6.toNatClampNeg) = x2 then
      fX10_sayLongest_L71 rec17 fu a0 v1 v2 v3 v4 v5 v6 μ
    else
      gd (ib v6 4096) <|
      lt' (μ.1 (μ.2 a0 37) v6.toNatClampNeg) fun x4 =>
      rec37 a0 v1 v2 v3 v4 v5 x4 μ
def fX10_sayLongest_L37 (rec17 : Nat → Int32 → Int32 → Int32 → Int32 → Int32 → Int32 → Mm → Option (Int32 × Mm)) (fu : Nat) : Nat → Nat → Int32 → Int32 → Int32 → Int32 → Int32 → Int32 → Mm → Option (Int32 × Mm)
  | 0 => fun _ _ _ _ _ _ _ _ => none
  | n + 1 => fX10_sayLongest_B37 rec17 (fX10_sayLongest_L37 rec17 fu n) fu
def fX10_sayLongest_B17 (rec17 : Nat → Int32 → Int32 → Int32 → Int32 → Int32 → Int32 → Mm → Option (Int32 × Mm)) (fu : Nat) (a0 : Nat) (v1 : Int32) (v2 : Int32) (v3 : Int32) (v4 : Int32) (v5 : Int32) (v6 : Int32) (μ : Mm) : Option (Int32 × Mm) :=
  if v6 < 0 then
    fX10_sayLongest_L86 fu a0 v1 v2 v3 v4 v5 μ
  else
    if v3 ≤ v5 then
      fX10_sayLongest_L86 fu a0 v1 v2 v3 v4 v5 μ
    else
      gd (ib v4 4096) <|
      lt' (μ.1 (μ.2 a0 36) v4.toNatClampNeg) fun x2 =>
      fX10_sayLongest_L37 rec17 fu fu a0 v1 v2 v3 v4 v5 x2 μ
def fX10_sayLongest_L17 (fu : Nat) : Nat → Nat → Int32 → Int32 → Int32 → Int32 → Int32 → Int32 → Mm → Option (Int32 × Mm)
  | 0 => fun _ _ _ _ _ _ _ _ => none
  | n + 1 => fX10_sayLongest_B17 (fX10_sayLongest_L17 fu n) fu
def fX10_sayLongest (fu : Nat) (a0 : Nat) (v1 : Int32) (v2 : Int32) (v3 : Int32) (μ : Mm) : Option (Int32 × Mm) :=
  bd (fX10_indexOf a0 v1 v2 μ) fun x1 =>
  lt' (v2 + 1) fun x2 =>
  fX10_sayLongest_L17 fu fu a0 v1 v2 v3 x1 x2 x1 μ
def fX10_sayCodes_L131 (rec74 : Nat → Int32 → Int32 → Int32 → Int32 → Mm → Option (Mm)) (fu : Nat) (a0 : Nat) (v1 : Int32) (v2 : Int32) (v3 : Int32) (v4 : Int32) (μ : Mm) : Option (Mm) :=
  bd (fX10_sayLongest fu a0 v2 v4 v3 μ) fun q1 =>
  lt' q1.1 fun x2 =>
  rec74 a0 v1 v2 v3 x2 q1.2
def fX10_sayCodes_B109 (rec74 : Nat → Int32 → Int32 → Int32 → Int32 → Mm → Option (Mm)) (rec109 : Nat → Int32 → Int32 → Int32 → Int32 → Int32 → Mm → Option (Mm)) (fu : Nat) (a0 : Nat) (v1 : Int32) (v2 : Int32) (v3 : Int32) (v4 : Int32) (v5 : Int32) (μ : Mm) : Option (Mm) :=
  if (1 <<< (v1 &&& 31)) ≤ v5 then
    fX10_sayCodes_L131 rec74 fu a0 v1 v2 v3 v4 μ
  else
    gd (ib v5 4096) <|
    lt' (si μ (μ.2 a0 36) v5.toNatClampNeg (vp_nar .short (-1))) fun μ1 =>
    lt' (v5 + 1) fun x2 =>
    rec109 a0 v1 v2 v3 v4 x2 μ1
def fX10_sayCodes_L109 (rec74 : Nat → Int32 → Int32 → Int32 → Int32 → Mm → Option (Mm)) (fu : Nat) : Nat → Nat → Int32 → Int32 → Int32 → Int32 → Int32 → Mm → Option (Mm)
  | 0 => fun _ _ _ _ _ _ _ => none
  | n + 1 => fX10_sayCodes_B109 rec74 (fX10_sayCodes_L109 rec74 fu n) fu
def fX10_sayCodes_B74 (rec74 : Nat → Int32 → Int32 → Int32 → Int32 → Mm → Option (Mm)) (fu : Nat) (a0 : Nat) (v1 : Int32) (v2 : Int32) (v3 : Int32) (v4 : Int32) (μ : Mm) : Option (Mm) :=
  if v3 ≤ v4 then
    bd (fX10_sayBits fu a0 ((1 <<< (v1 &&& 31)) + 1) (μ.1 a0 28) μ) fun μ1 =>
    if (μ1.1 a0 33) ≤ 0 then
      some μ1
    else
      bd (fX10_sayBits fu a0 0 (8 - (μ1.1 a0 33)) μ1) fun μ2 =>
      some μ2
  else
    if (μ.1 a0 29) = 4096 then
      bd (fX10_sayBits fu a0 (1 <<< (v1 &&& 31)) (μ.1 a0 28) μ) fun μ3 =>
      lt' (fX10_restart a0 v1 μ3) fun μ4 =>
      fX10_sayCodes_L109 rec74 fu fu a0 v1 v2 v3 v4 0 μ4
    else
      fX10_sayCodes_L131 rec74 fu a0 v1 v2 v3 v4 μ
def fX10_sayCodes_L74 (fu : Nat) : Nat → Nat → Int32 → Int32 → Int32 → Int32 → Mm → Option (Mm)
  | 0 => fun _ _ _ _ _ _ => none
  | n + 1 => fX10_sayCodes_B74 (fX10_sayCodes_L74 fu n) fu
def fX10_sayCodes_B49 (rec49 : Nat → Int32 → Int32 → Int32 → Int32 → Mm → Option (Mm)) (fu : Nat) (a0 : Nat) (v1 : Int32) (v2 : Int32) (v3 : Int32) (v4 : Int32) (μ : Mm) : Option (Mm) :=
  if (1 <<< (v1 &&& 31)) ≤ v4 then
    fX10_sayCodes_L74 fu fu a0 v1 v2 v3 0 μ
  else
    gd (ib v4 4096) <|
    lt' (si μ (μ.2 a0 36) v4.toNatClampNeg (vp_nar .short (-1))) fun μ1 =>
    lt' (v4 + 1) fun x2 =>
    rec49 a0 v1 v2 v3 x2 μ1
def fX10_sayCodes_L49 (fu : Nat) : Nat → Nat → Int32 → Int32 → Int32 → Int32 → Mm → Option (Mm)
  | 0 => fun _ _ _ _ _ _ => none
  | n + 1 => fX10_sayCodes_B49 (fX10_sayCodes_L49 fu n) fu
def fX10_sayCodes (fu : Nat) (a0 : Nat) (v1 : Int32) (v2 : Int32) (μ : Mm) : Option (Mm) :=
  bd (fX10_places a0 (μ.1 a0 6) v2 μ) fun x1 =>
  bd (fX10_alone fu a0 v1 μ) fun μ2 =>
  lt' (fX10_restart a0 v1 μ2) fun μ3 =>
  lt' (si μ3 a0 32 0) fun μ4 =>
  lt' (si μ4 a0 33 0) fun μ5 =>
  lt' (si μ5 a0 34 0) fun μ6 =>
  bd (fX10_sayBits fu a0 (1 <<< (v1 &&& 31)) (μ6.1 a0 28) μ6) fun μ7 =>
  fX10_sayCodes_L49 fu fu a0 v1 v2 x1 0 μ7
def fX10_sayFrame_L249 (fu : Nat) (a0 : Nat) (μ : Mm) : Option (Mm) :=
  bd (fX10_say a0 0 μ) fun μ1 =>
  some μ1
def fX10_sayFrame_L225 (fu : Nat) (a0 : Nat) (v1 : Int32) (v4 : Int32) (μ : Mm) : Option (Mm) :=
  bd (fX10_say a0 v4 μ) fun μ1 =>
  bd (fX10_sayCodes fu a0 v4 v1 μ1) fun μ2 =>
  if (μ2.1 a0 34) ≤ 0 then
    fX10_sayFrame_L249 fu a0 μ2
  else
    bd (fX10_sayRow fu a0 μ2) fun μ3 =>
    fX10_sayFrame_L249 fu a0 μ3
def fX10_sayFrame_L160 (fu : Nat) (a0 : Nat) (v1 : Int32) (v3 : Int32) (o0 : Nat) (t1 : Int32) (μ : Mm) : Option (Mm) :=
  bd (fX10_field a0 (μ.1 a0 6) v1 5 μ) fun x1 =>
  bd (fX10_bitsOf fu v3) fun x2 =>
  bd (fX10_say o0 ((t1 ||| (x1 <<< (6 &&& 31))) ||| x2) μ) fun μ3 =>
  lt' (fX10_localAt (μ3.1 a0 6) v1 0) fun x4 =>
  bd (fX10_sayTable fu 12288 a0 (μ3.2 a0 10) x4 v3 μ3) fun μ5 =>
  bd (fX10_colours a0 (μ5.1 a0 6) v1 μ5) fun x6 =>
  bd (fX10_bitsOf fu x6) fun x7 =>
  lt' (x7 + 1) fun x8 =>
  if (2 : Int32) ≤ x8 then
    fX10_sayFrame_L225 fu a0 v1 x8 μ5
  else
    fX10_sayFrame_L225 fu a0 v1 2 μ5
def fX10_sayFrame_B112 (rec112 : Nat → Int32 → Int32 → Mm → Option (Mm)) (fu : Nat) (a0 : Nat) (v1 : Int32) (v3 : Int32) (μ : Mm) : Option (Mm) :=
  if (4 : Int32) ≤ v3 then
    bd (fX10_field a0 (μ.1 a0 6) v1 4 μ) fun x1 =>
    if x1 ≤ 0 then
      fX10_sayFrame_L160 fu a0 v1 x1 a0 0 μ
    else
      fX10_sayFrame_L160 fu a0 v1 x1 a0 128 μ
  else
    bd (fX10_field a0 (μ.1 a0 6) v1 v3 μ) fun x2 =>
    bd (fX10_sayTwo a0 x2 μ) fun μ3 =>
    lt' (v3 + 1) fun x4 =>
    rec112 a0 v1 x4 μ3
def fX10_sayFrame_L112 (fu : Nat) : Nat → Nat → Int32 → Int32 → Mm → Option (Mm)
  | 0 => fun _ _ _ _ => none
  | n + 1 => fX10_sayFrame_B112 (fX10_sayFrame_L112 fu n) fu
def fX10_sayFrame_L96 (fu : Nat) (a0 : Nat) (v1 : Int32) (o0 : Nat) (t1 : Int32) (μ : Mm) : Option (Mm) :=
  bd (fX10_say o0 t1 μ) fun μ1 =>
  bd (fX10_say a0 0 μ1) fun μ2 =>
  bd (fX10_say a0 44 μ2) fun μ3 =>
  fX10_sayFrame_L112 fu fu a0 v1 0 μ3
def fX10_sayFrame_L67 (fu : Nat) (a0 : Nat) (v1 : Int32) (v2 : Int32) (o0 : Nat) (t1 : Int32) (t2 : Int32) (μ : Mm) : Option (Mm) :=
  bd (fX10_say o0 (t1 ||| t2) μ) fun μ1 =>
  bd (fX10_field a0 (μ1.1 a0 6) v1 8 μ1) fun x2 =>
  bd (fX10_sayTwo a0 x2 μ1) fun μ3 =>
  if (0 : Int32) ≤ v2 then
    fX10_sayFrame_L96 fu a0 v1 a0 v2 μ3
  else
    fX10_sayFrame_L96 fu a0 v1 a0 0 μ3
def fX10_sayFrame (fu : Nat) (a0 : Nat) (v1 : Int32) (μ : Mm) : Option (Mm) :=
  bd (fX10_field a0 (μ.1 a0 6) v1 7 μ) fun x1 =>
  bd (fX10_say a0 33 μ) fun μ2 =>
  bd (fX10_say a0 249 μ2) fun μ3 =>
  bd (fX10_say a0 4 μ3) fun μ4 =>
  bd (fX10_field a0 (μ4.1 a0 6) v1 6 μ4) fun x5 =>
  bd (fX10_field a0 (μ4.1 a0 6) v1 9 μ4) fun x6 =>
  if (0 : Int32) ≤ x1 then
    fX10_sayFrame_L67 fu a0 v1 x1 a0 ((x5 <<< (2 &&& 31)) ||| (x6 <<< (1 &&& 31))) 1 μ4
  else
    fX10_sayFrame_L67 fu a0 v1 x1 a0 ((x5 <<< (2 &&& 31)) ||| (x6 <<< (1 &&& 31))) 0 μ4
def fX10_write_B207 (rec207 : Nat → Int32 → Mm → Option (Int32 × Mm)) (fu : Nat) (a0 : Nat) (v2 : Int32) (μ : Mm) : Option (Int32 × Mm) :=
  if (μ.1 a0 31) ≤ v2 then
    lt' (si μ a0 3 (μ.1 a0 31)) fun μ1 =>
    some (μ1.1 a0 3, μ1)
  else
    gd (ib v2 12020) <|
    gd (ib v2 12020) <|
    lt' (si μ (μ.2 a0 1) v2.toNatClampNeg (vp_nar .byte (μ.1 (μ.2 a0 21) v2.toNatClampNeg))) fun μ3 =>
    lt' (v2 + 1) fun x4 =>
    rec207 a0 x4 μ3
def fX10_write_L207 (fu : Nat) : Nat → Nat → Int32 → Mm → Option (Int32 × Mm)
  | 0 => fun _ _ _ => none
  | n + 1 => fX10_write_B207 (fX10_write_L207 fu n) fu
def fX10_write_B168 (rec168 : Nat → Int32 → Mm → Option (Int32 × Mm)) (fu : Nat) (a0 : Nat) (v2 : Int32) (μ : Mm) : Option (Int32 × Mm) :=
  bd (fX10_frames a0 μ) fun x1 =>
  if x1 ≤ v2 then
    bd (fX10_say a0 59 μ) fun μ2 =>
    if (μ2.1 a0 31) ≤ 12000 then
      fX10_write_L207 fu fu a0 0 μ2
    else
      some ((-1), μ2)
  else
    bd (fX10_sayFrame fu a0 v2 μ) fun μ3 =>
    lt' (v2 + 1) fun x4 =>
    rec168 a0 x4 μ3
def fX10_write_L168 (fu : Nat) : Nat → Nat → Int32 → Mm → Option (Int32 × Mm)
  | 0 => fun _ _ _ => none
  | n + 1 => fX10_write_B168 (fX10_write_L168 fu n) fu
def fX10_write_L104 (fu : Nat) (a0 : Nat) (v1 : Int32) (o0 : Nat) (t1 : Int32) (t2 : Int32) (μ : Mm) : Option (Int32 × Mm) :=
  bd (fX10_bitsOf fu v1) fun x1 =>
  bd (fX10_say o0 ((t1 + t2) + x1) μ) fun μ2 =>
  gd (ib ((6 * (μ2.1 a0 6)) + 3) 12) <|
  bd (fX10_say a0 (μ2.1 (μ2.2 a0 7) ((6 * (μ2.1 a0 6)) + 3).toNatClampNeg) μ2) fun μ4 =>
  gd (ib ((6 * (μ4.1 a0 6)) + 4) 12) <|
  bd (fX10_say a0 (μ4.1 (μ4.2 a0 7) ((6 * (μ4.1 a0 6)) + 4).toNatClampNeg) μ4) fun μ6 =>
  bd (fX10_sayTable fu 512 a0 (μ6.2 a0 8) (256 * (μ6.1 a0 6)) v1 μ6) fun μ7 =>
  fX10_write_L168 fu fu a0 0 μ7
def fX10_write (fu : Nat) (a0 : Nat) (μ : Mm) : Option (Int32 × Mm) :=
  lt' (si μ a0 31 0) fun μ1 =>
  bd (fX10_say a0 71 μ1) fun μ2 =>
  bd (fX10_say a0 73 μ2) fun μ3 =>
  bd (fX10_say a0 70 μ3) fun μ4 =>
  bd (fX10_say a0 56 μ4) fun μ5 =>
  bd (fX10_say a0 57 μ5) fun μ6 =>
  bd (fX10_say a0 97 μ6) fun μ7 =>
  gd (ib (6 * (μ7.1 a0 6)) 12) <|
  bd (fX10_sayTwo a0 (μ7.1 (μ7.2 a0 7) (6 * (μ7.1 a0 6)).toNatClampNeg) μ7) fun μ9 =>
  gd (ib ((6 * (μ9.1 a0 6)) + 1) 12) <|
  bd (fX10_sayTwo a0 (μ9.1 (μ9.2 a0 7) ((6 * (μ9.1 a0 6)) + 1).toNatClampNeg) μ9) fun μ11 =>
  gd (ib ((6 * (μ11.1 a0 6)) + 2) 12) <|
  lt' (μ11.1 (μ11.2 a0 7) ((6 * (μ11.1 a0 6)) + 2).toNatClampNeg) fun x13 =>
  if x13 ≤ 0 then
    fX10_write_L104 fu a0 x13 a0 112 0 μ11
  else
    fX10_write_L104 fu a0 x13 a0 112 128 μ11
def fX10_out (a0 : Nat) (v1 : Int32) (μ : Mm) : Option (Int32) :=
  if v1 < 0 then
    some (-1)
  else
    if (μ.1 a0 3) ≤ v1 then
      some (-1)
    else
      gd (ib v1 12020) <|
      some ((μ.1 (μ.2 a0 1) v1.toNatClampNeg) &&& 255)
def fX10_about (a0 : Nat) (v1 : Int32) (μ : Mm) : Option (Int32) :=
  if v1 = 6 then
    some (μ.1 a0 2)
  else
    if v1 = 7 then
      some (μ.1 a0 3)
    else
      if v1 < 0 then
        some (-1)
      else
        if (6 : Int32) ≤ v1 then
          some (-1)
        else
          gd (ib ((6 * (μ.1 a0 6)) + v1) 12) <|
          some (μ.1 (μ.2 a0 7) ((6 * (μ.1 a0 6)) + v1).toNatClampNeg)
def fX10_frameOf (a0 : Nat) (v1 : Int32) (v2 : Int32) (μ : Mm) : Option (Int32) :=
  bd (fX10_isFrame a0 v1 μ) fun x1 =>
  if x1 = 0 then
    some (-1)
  else
    if v2 < 0 then
      some (-1)
    else
      if (10 : Int32) ≤ v2 then
        some (-1)
      else
        bd (fX10_field a0 (μ.1 a0 6) v1 v2 μ) fun x2 =>
        some x2
def fX10_colourOf (a0 : Nat) (v1 : Int32) (v2 : Int32) (μ : Mm) : Option (Int32) :=
  bd (fX10_isColour a0 v1 v2 μ) fun x1 =>
  if x1 = 0 then
    some (-1)
  else
    if v1 = (-1) then
      gd (ib ((256 * (μ.1 a0 6)) + v2) 512) <|
      some (μ.1 (μ.2 a0 8) ((256 * (μ.1 a0 6)) + v2).toNatClampNeg)
    else
      lt' (fX10_localAt (μ.1 a0 6) v1 v2) fun x2 =>
      gd (ib x2 12288) <|
      some (μ.1 (μ.2 a0 10) x2.toNatClampNeg)
def fX10_index (a0 : Nat) (v1 : Int32) (v2 : Int32) (μ : Mm) : Option (Int32) :=
  bd (fX10_isFrame a0 v1 μ) fun x1 =>
  if x1 = 0 then
    some (-1)
  else
    if v2 < 0 then
      some (-1)
    else
      bd (fX10_places a0 (μ.1 a0 6) v1 μ) fun x2 =>
      if x2 ≤ v2 then
        some (-1)
      else
        bd (fX10_indexAt a0 (μ.1 a0 6) v1 v2 μ) fun x3 =>
        some x3
def fX10_covers (a0 : Nat) (v1 : Int32) (v2 : Int32) (v3 : Int32) (μ : Mm) : Option (Int32) :=
  bd (fX10_field a0 (μ.1 a0 6) v1 0 μ) fun x1 =>
  lt' (v2 - x1) fun x2 =>
  bd (fX10_field a0 (μ.1 a0 6) v1 1 μ) fun x3 =>
  lt' (v3 - x3) fun x4 =>
  bd (fX10_field a0 (μ.1 a0 6) v1 2 μ) fun x5 =>
  if x2 < 0 then
    some (-1)
  else
    if x4 < 0 then
      some (-1)
    else
      if x5 ≤ x2 then
        some (-1)
      else
        bd (fX10_field a0 (μ.1 a0 6) v1 3 μ) fun x6 =>
        if x4 < x6 then
          bd (fX10_indexAt a0 (μ.1 a0 6) v1 ((x5 * x4) + x2) μ) fun x7 =>
          some x7
        else
          some (-1)
def fX10_canvas_L258 (rec133 : Nat → Int32 → Int32 → Int32 → Int32 → Int32 → Int32 → Int32 → Mm → Option (Int32)) (fu : Nat) (a0 : Nat) (v1 : Int32) (v2 : Int32) (v3 : Int32) (v4 : Int32) (v5 : Int32) (v6 : Int32) (v7 : Int32) (v9 : Int32) (μ : Mm) : Option (Int32) :=
  if v9 = 3 then
    lt' (v7 + 1) fun x1 =>
    rec133 a0 v1 v2 v3 v4 v5 v6 x1 μ
  else
    lt' (v7 + 1) fun x2 =>
    rec133 a0 v1 v2 v3 v4 v6 v6 x2 μ
def fX10_canvas_L226 (rec133 : Nat → Int32 → Int32 → Int32 → Int32 → Int32 → Int32 → Int32 → Mm → Option (Int32)) (fu : Nat) (a0 : Nat) (v1 : Int32) (v2 : Int32) (v3 : Int32) (v4 : Int32) (v5 : Int32) (v6 : Int32) (v7 : Int32) (v8 : Int32) (μ : Mm) : Option (Int32) :=
  bd (fX10_field a0 (μ.1 a0 6) v7 6 μ) fun x1 =>
  if x1 = 2 then
    if v8 < 0 then
      fX10_canvas_L258 rec133 fu a0 v1 v2 v3 v4 v5 v6 v7 x1 μ
    else
      lt' (v7 + 1) fun x2 =>
      rec133 a0 v1 v2 v3 v4 v4 v6 x2 μ
  else
    fX10_canvas_L258 rec133 fu a0 v1 v2 v3 v4 v5 v6 v7 x1 μ
def fX10_canvas_L224 (rec133 : Nat → Int32 → Int32 → Int32 → Int32 → Int32 → Int32 → Int32 → Mm → Option (Int32)) (fu : Nat) (a0 : Nat) (v1 : Int32) (v2 : Int32) (v3 : Int32) (v4 : Int32) (v5 : Int32) (v7 : Int32) (v8 : Int32) (t0 : Int32) (μ : Mm) : Option (Int32) :=
  fX10_canvas_L226 rec133 fu a0 v1 v2 v3 v4 v5 t0 v7 v8 μ
def fX10_canvas_B133 (rec133 : Nat → Int32 → Int32 → Int32 → Int32 → Int32 → Int32 → Int32 → Mm → Option (Int32)) (fu : Nat) (a0 : Nat) (v1 : Int32) (v2 : Int32) (v3 : Int32) (v4 : Int32) (v5 : Int32) (v6 : Int32) (v7 : Int32) (μ : Mm) : Option (Int32) :=
  if v1 < v7 then
    some v6
  else
    bd (fX10_covers a0 v7 v2 v3 μ) fun x1 =>
    if x1 < 0 then
      fX10_canvas_L226 rec133 fu a0 v1 v2 v3 v4 v5 v5 v7 x1 μ
    else
      bd (fX10_field a0 (μ.1 a0 6) v7 7 μ) fun x2 =>
      if x1 = x2 then
        fX10_canvas_L226 rec133 fu a0 v1 v2 v3 v4 v5 v5 v7 x1 μ
      else
        bd (fX10_field a0 (μ.1 a0 6) v7 4 μ) fun x3 =>
        if x3 ≤ 0 then
          gd (ib ((256 * (μ.1 a0 6)) + x1) 512) <|
          fX10_canvas_L224 rec133 fu a0 v1 v2 v3 v4 v5 v7 x1 (μ.1 (μ.2 a0 8) ((256 * (μ.1 a0 6)) + x1).toNatClampNeg) μ
        else
          lt' (fX10_localAt (μ.1 a0 6) v7 x1) fun x5 =>
          gd (ib x5 12288) <|
          fX10_canvas_L224 rec133 fu a0 v1 v2 v3 v4 v5 v7 x1 (μ.1 (μ.2 a0 10) x5.toNatClampNeg) μ
def fX10_canvas_L133 (fu : Nat) : Nat → Nat → Int32 → Int32 → Int32 → Int32 → Int32 → Int32 → Int32 → Mm → Option (Int32)
  | 0 => fun _ _ _ _ _ _ _ _ _ => none
  | n + 1 => fX10_canvas_B133 (fX10_canvas_L133 fu n) fu
def fX10_canvas_L120 (fu : Nat) (a0 : Nat) (v1 : Int32) (v2 : Int32) (v3 : Int32) (t0 : Int32) (μ : Mm) : Option (Int32) :=
  fX10_canvas_L133 fu fu a0 v1 v2 v3 t0 t0 t0 0 μ
def fX10_canvas (fu : Nat) (a0 : Nat) (v1 : Int32) (v2 : Int32) (v3 : Int32) (μ : Mm) : Option (Int32) :=
  bd (fX10_isFrame a0 v1 μ) fun x1 =>
  if x1 = 0 then
    some (-2)
  else
    gd (ib (6 * (μ.1 a0 6)) 12) <|
    lt' (fX10_isWithin v2 0 ((μ.1 (μ.2 a0 7) (6 * (μ.1 a0 6)).toNatClampNeg) - 1)) fun x3 =>
    if x3 = 0 then
      some (-2)
    else
      gd (ib ((6 * (μ.1 a0 6)) + 1) 12) <|
      lt' (fX10_isWithin v3 0 ((μ.1 (μ.2 a0 7) ((6 * (μ.1 a0 6)) + 1).toNatClampNeg) - 1)) fun x5 =>
      if x5 = 0 then
        some (-2)
      else
        gd (ib ((6 * (μ.1 a0 6)) + 3) 12) <|
        gd (ib ((6 * (μ.1 a0 6)) + 2) 12) <|
        if (μ.1 (μ.2 a0 7) ((6 * (μ.1 a0 6)) + 2).toNatClampNeg) ≤ (μ.1 (μ.2 a0 7) ((6 * (μ.1 a0 6)) + 3).toNatClampNeg) then
          fX10_canvas_L120 fu a0 v1 v2 v3 (-1) μ
        else
          gd (ib ((6 * (μ.1 a0 6)) + 3) 12) <|
          gd (ib ((256 * (μ.1 a0 6)) + (μ.1 (μ.2 a0 7) ((6 * (μ.1 a0 6)) + 3).toNatClampNeg)) 512) <|
          fX10_canvas_L120 fu a0 v1 v2 v3 (μ.1 (μ.2 a0 8) ((256 * (μ.1 a0 6)) + (μ.1 (μ.2 a0 7) ((6 * (μ.1 a0 6)) + 3).toNatClampNeg)).toNatClampNeg) μ
end
section
set_option maxRecDepth 100000 in
set_option maxHeartbeats 4000000 in
theorem wX0_clear {p : Program} {l : Launch} {e : Env} {s : State} {m : MethodId} {args : Array Value} {below : List Frame} {meth : Method} {c : Code} {D : va_G} {cA : Nat → ClassId} {tS : Nat → Nat} {σ : Sg} {q : Mm} (C : Cx p s m args meth c D cA tS σ cX0_clear none 1 RX0) (a0 : Nat) (μ : Mm) (s_a0 : σ a0 = some (0, 0)) (h : fX0_clear a0 μ = q) : GG p l e (rmO 0 0) s m args below meth c D cA σ 1 (MQ below (QV D cA σ q) args s 0 0 (dm σ)) 0 [(0, .ref a0)] [] μ := by
  unfold fX0_clear at h
  refine g_aload_n C dX0_clear_0 0 rfl ?_
  refine g_iconst (v := 0) C dX0_clear_1 (by decide) ?_
  refine g_puti (j := 1) C s_a0 (by decide) rfl uwX0 tyX0_ok nmX0 (by decide) rfl lfX0_15 rfl rfl rfl (fun _ _ => rfl) (fun _ _ => Nat.le_of_ble_eq_true rfl) dX0_clear_2 ?_
  obtain ⟨μ1, e_μ1, h⟩ := nm h
  refine g_mu e_μ1 ?_
  refine g_aload_n C dX0_clear_5 0 rfl ?_
  refine g_iconst (v := 0) C dX0_clear_6 (by decide) ?_
  refine g_puti (j := 2) C s_a0 (by decide) rfl uwX0 tyX0_ok nmX0 (by decide) rfl lfX0_19 rfl rfl rfl (fun _ _ => rfl) (fun _ _ => Nat.le_of_ble_eq_true rfl) dX0_clear_7 ?_
  obtain ⟨μ2, e_μ2, h⟩ := nm h
  refine g_mu e_μ2 ?_
  subst h
  exact g_return C dX0_clear_10
theorem miX0_clear : MI yX0_clear cX0_clear 1 none RX0 0 := ⟨wcX0_clear, wmX0_clear, wsX0_clear, wiX0, by decide +kernel⟩
theorem kX0_clear {l : Launch} {D : va_G} {cA : Nat → ClassId} {tS : Nat → Nat} {σ : Sg} {a0 : Nat} {μ : Mm} {q : Mm} (s_a0 : σ a0 = some (0, 0)) (h : fX0_clear a0 μ = q) : Ct l D cA tS σ yX0_clear cX0_clear 1 none (rmO 0 0) [.ref a0] μ (QV D cA σ q) :=
  Ct.of (by decide) (Nat.le_of_ble_eq_true rfl) (fun _ _ _ _ _ _ _ _ C => wX0_clear C _ _ s_a0 h)
set_option maxRecDepth 100000 in
set_option maxHeartbeats 4000000 in
theorem wX0_add {p : Program} {l : Launch} {e : Env} {s : State} {m : MethodId} {args : Array Value} {below : List Frame} {meth : Method} {c : Code} {D : va_G} {cA : Nat → ClassId} {tS : Nat → Nat} {σ : Sg} {q : Mm} (C : Cx p s m args meth c D cA tS σ cX0_add none 2 RX0) (a0 : Nat) (v1 : Int32) (μ : Mm) (s_a0 : σ a0 = some (0, 0)) (h : fX0_add a0 v1 μ = some q) : GG p l e (rmO 0 0) s m args below meth c D cA σ 2 (MQ below (QV D cA σ q) args s 0 0 (dm σ)) 0 [(0, .ref a0), (1, .int v1)] [] μ := by
  unfold fX0_add at h
  refine g_aload_n C dX0_add_0 0 rfl ?_
  refine g_geti (j := 1) C s_a0 (by decide) rfl uwX0 (by decide) rfl lfX0_15 rfl dX0_add_1 ?_
  refine g_sipush (v := 12000) C dX0_add_4 (by decide) ?_
  refine g_icmp_lt C 16 dX0_add_7 rfl (fun q => ?_) (fun q => ?_)
  · replace h := ip q h
    refine g_aload_n C dX0_add_16 0 rfl ?_
    refine g_wt (fun hT_μ => ?_)
    refine g_getr (j := 0) C s_a0 (by decide) rfl uwX0 (by decide) rfl lfX0_9 rfl dX0_add_17 ?_
    refine g_aload_n C dX0_add_20 0 rfl ?_
    refine g_geti (j := 1) C s_a0 (by decide) rfl uwX0 (by decide) rfl lfX0_15 rfl dX0_add_21 ?_
    refine g_iload_n C dX0_add_24 1 rfl ?_
    refine g_sipush (v := 255) C dX0_add_25 (by decide) ?_
    refine g_iand C dX0_add_28 ?_
    obtain ⟨hg, h⟩ := gs h
    refine g_iast C (hT_μ.1 _ _ 0 _ s_a0 rfl) (ib_in hg) dX0_add_29 ?_
    obtain ⟨μ1, e_μ1, h⟩ := nm h
    refine g_mu e_μ1 ?_
    refine g_aload_n C dX0_add_30 0 rfl ?_
    refine g_dup C dX0_add_31 rfl ?_
    refine g_geti (j := 1) C s_a0 (by decide) rfl uwX0 (by decide) rfl lfX0_15 rfl dX0_add_32 ?_
    refine g_iconst (v := 1) C dX0_add_35 (by decide) ?_
    refine g_iadd C dX0_add_36 ?_
    refine g_puti (j := 1) C s_a0 (by decide) rfl uwX0 tyX0_ok nmX0 (by decide) rfl lfX0_15 rfl rfl rfl (fun _ _ => rfl) (fun _ _ => Nat.le_of_ble_eq_true rfl) dX0_add_37 ?_
    obtain ⟨μ2, e_μ2, h⟩ := nm h
    refine g_mu e_μ2 ?_
    cases h
    exact g_return C dX0_add_40
  · replace h := iq q h
    refine g_aload_n C dX0_add_10 0 rfl ?_
    refine g_iconst (v := 1) C dX0_add_11 (by decide) ?_
    refine g_puti (j := 2) C s_a0 (by decide) rfl uwX0 tyX0_ok nmX0 (by decide) rfl lfX0_19 rfl rfl rfl (fun _ _ => rfl) (fun _ _ => Nat.le_of_ble_eq_true rfl) dX0_add_12 ?_
    obtain ⟨μ3, e_μ3, h⟩ := nm h
    refine g_mu e_μ3 ?_
    cases h
    exact g_return C dX0_add_15
theorem miX0_add : MI yX0_add cX0_add 2 none RX0 1 := ⟨wcX0_add, wmX0_add, wsX0_add, wiX0, by decide +kernel⟩
theorem kX0_add {l : Launch} {D : va_G} {cA : Nat → ClassId} {tS : Nat → Nat} {σ : Sg} {a0 : Nat} {v1 : Int32} {μ : Mm} {q : Mm} (s_a0 : σ a0 = some (0, 0)) (h : fX0_add a0 v1 μ = some q) : Ct l D cA tS σ yX0_add cX0_add 2 none (rmO 0 0) [.ref a0, .int v1] μ (QV D cA σ q) :=
  Ct.of (by decide) (Nat.le_of_ble_eq_true rfl) (fun _ _ _ _ _ _ _ _ C => wX0_add C _ _ _ s_a0 h)
set_option maxRecDepth 100000 in
set_option maxHeartbeats 4000000 in
theorem wX0_addTwo {p : Program} {l : Launch} {e : Env} {s : State} {m : MethodId} {args : Array Value} {below : List Frame} {meth : Method} {c : Code} {D : va_G} {cA : Nat → ClassId} {tS : Nat → Nat} {σ : Sg} {q : Mm} (C : Cx p s m args meth c D cA tS σ cX0_addTwo none 2 RX0) (a0 : Nat) (v1 : Int32) (μ : Mm) (s_a0 : σ a0 = some (0, 0)) (h : fX0_addTwo a0 v1 μ = some q) : GG p l e (rmO 1 21) s m args below meth c D cA σ 2 (MQ below (QV D cA σ q) args s 0 0 (dm σ)) 0 [(0, .ref a0), (1, .int v1)] [] μ := by
  unfold fX0_addTwo at h
  refine g_aload_n C dX0_addTwo_0 0 rfl ?_
  refine g_iload_n C dX0_addTwo_1 1 rfl ?_
  obtain ⟨μ1, e_μ1, h⟩ := bs h
  refine g_callVV C (kX0_add s_a0 e_μ1) miX0_add lmX0_23 s_a0 (by decide) rfl rfl rfl (by decide) dX0_addTwo_2 ⟨by decide, by decide⟩ ?_
  refine g_aload_n C dX0_addTwo_5 0 rfl ?_
  refine g_iload_n C dX0_addTwo_6 1 rfl ?_
  refine g_bipush (v := 8) C dX0_addTwo_7 (by decide) ?_
  refine g_ishr C dX0_addTwo_9 ?_
  obtain ⟨μ2, e_μ2, h⟩ := bs h
  refine g_callVV C (kX0_add s_a0 e_μ2) miX0_add lmX0_23 s_a0 (by decide) rfl rfl rfl (by decide) dX0_addTwo_10 ⟨by decide, by decide⟩ ?_
  cases h
  exact g_return C dX0_addTwo_13
theorem miX0_addTwo : MI yX0_addTwo cX0_addTwo 2 none RX0 1 := ⟨wcX0_addTwo, wmX0_addTwo, wsX0_addTwo, wiX0, by decide +kernel⟩
theorem kX0_addTwo {l : Launch} {D : va_G} {cA : Nat → ClassId} {tS : Nat → Nat} {σ : Sg} {a0 : Nat} {v1 : Int32} {μ : Mm} {q : Mm} (s_a0 : σ a0 = some (0, 0)) (h : fX0_addTwo a0 v1 μ = some q) : Ct l D cA tS σ yX0_addTwo cX0_addTwo 2 none (rmO 1 21) [.ref a0, .int v1] μ (QV D cA σ q) :=
  Ct.of (by decide) (Nat.le_of_ble_eq_true rfl) (fun _ _ _ _ _ _ _ _ C => wX0_addTwo C _ _ _ s_a0 h)
set_option maxRecDepth 100000 in
set_option maxHeartbeats 4000000 in
theorem wX0_addFour {p : Program} {l : Launch} {e : Env} {s : State} {m : MethodId} {args : Array Value} {below : List Frame} {meth : Method} {c : Code} {D : va_G} {cA : Nat → ClassId} {tS : Nat → Nat} {σ : Sg} {q : Mm} (C : Cx p s m args meth c D cA tS σ cX0_addFour none 2 RX0) (a0 : Nat) (v1 : Int32) (μ : Mm) (s_a0 : σ a0 = some (0, 0)) (h : fX0_addFour a0 v1 μ = some q) : GG p l e (rmO 1 21) s m args below meth c D cA σ 2 (MQ below (QV D cA σ q) args s 0 0 (dm σ)) 0 [(0, .ref a0), (1, .int v1)] [] μ := by
  unfold fX0_addFour at h
  refine g_aload_n C dX0_addFour_0 0 rfl ?_
  refine g_iload_n C dX0_addFour_1 1 rfl ?_
  refine g_bipush (v := 24) C dX0_addFour_2 (by decide) ?_
  refine g_ishr C dX0_addFour_4 ?_
  obtain ⟨μ1, e_μ1, h⟩ := bs h
  refine g_callVV C (kX0_add s_a0 e_μ1) miX0_add lmX0_23 s_a0 (by decide) rfl rfl rfl (by decide) dX0_addFour_5 ⟨by decide, by decide⟩ ?_
  refine g_aload_n C dX0_addFour_8 0 rfl ?_
  refine g_iload_n C dX0_addFour_9 1 rfl ?_
  refine g_bipush (v := 16) C dX0_addFour_10 (by decide) ?_
  refine g_ishr C dX0_addFour_12 ?_
  obtain ⟨μ2, e_μ2, h⟩ := bs h
  refine g_callVV C (kX0_add s_a0 e_μ2) miX0_add lmX0_23 s_a0 (by decide) rfl rfl rfl (by decide) dX0_addFour_13 ⟨by decide, by decide⟩ ?_
  refine g_aload_n C dX0_addFour_16 0 rfl ?_
  refine g_iload_n C dX0_addFour_17 1 rfl ?_
  refine g_bipush (v := 8) C dX0_addFour_18 (by decide) ?_
  refine g_ishr C dX0_addFour_20 ?_
  obtain ⟨μ3, e_μ3, h⟩ := bs h
  refine g_callVV C (kX0_add s_a0 e_μ3) miX0_add lmX0_23 s_a0 (by decide) rfl rfl rfl (by decide) dX0_addFour_21 ⟨by decide, by decide⟩ ?_
  refine g_aload_n C dX0_addFour_24 0 rfl ?_
  refine g_iload_n C dX0_addFour_25 1 rfl ?_
  obtain ⟨μ4, e_μ4, h⟩ := bs h
  refine g_callVV C (kX0_add s_a0 e_μ4) miX0_add lmX0_23 s_a0 (by decide) rfl rfl rfl (by decide) dX0_addFour_26 ⟨by decide, by decide⟩ ?_
  cases h
  exact g_return C dX0_addFour_29
theorem miX0_addFour : MI yX0_addFour cX0_addFour 2 none RX0 1 := ⟨wcX0_addFour, wmX0_addFour, wsX0_addFour, wiX0, by decide +kernel⟩
theorem kX0_addFour {l : Launch} {D : va_G} {cA : Nat → ClassId} {tS : Nat → Nat} {σ : Sg} {a0 : Nat} {v1 : Int32} {μ : Mm} {q : Mm} (s_a0 : σ a0 = some (0, 0)) (h : fX0_addFour a0 v1 μ = some q) : Ct l D cA tS σ yX0_addFour cX0_addFour 2 none (rmO 1 21) [.ref a0, .int v1] μ (QV D cA σ q) :=
  Ct.of (by decide) (Nat.le_of_ble_eq_true rfl) (fun _ _ _ _ _ _ _ _ C => wX0_addFour C _ _ _ s_a0 h)
set_option maxRecDepth 100000 in
set_option maxHeartbeats 4000000 in
theorem wX0_at {p : Program} {l : Launch} {e : Env} {s : State} {m : MethodId} {args : Array Value} {below : List Frame} {meth : Method} {c : Code} {D : va_G} {cA : Nat → ClassId} {tS : Nat → Nat} {σ : Sg} {q : Int32} (C : Cx p s m args meth c D cA tS σ cX0_at (some .int) 2 RX0) (a0 : Nat) (v1 : Int32) (μ : Mm) (s_a0 : σ a0 = some (0, 0)) (h : fX0_at a0 v1 μ = some q) : GG p l e (rmO 0 0) s m args below meth c D cA σ 2 (MQ below (QI D cA σ q μ) args s 0 0 (dm σ)) 0 [(0, .ref a0), (1, .int v1)] [] μ := by
  unfold fX0_at at h
  refine g_iload_n C dX0_at_0 1 rfl ?_
  refine g_if_lt C 21 dX0_at_1 rfl (fun q => ?_) (fun q => ?_)
  · replace h := ip q h
    refine g_iconst (v := -1) C dX0_at_21 (by decide) ?_
    cases h
    exact g_ireturn C rfl dX0_at_22
  · replace h := iq q h
    refine g_iload_n C dX0_at_4 1 rfl ?_
    refine g_aload_n C dX0_at_5 0 rfl ?_
    refine g_geti (j := 1) C s_a0 (by decide) rfl uwX0 (by decide) rfl lfX0_15 rfl dX0_at_6 ?_
    refine g_icmp_ge C 21 dX0_at_9 rfl (fun q => ?_) (fun q => ?_)
    · replace h := ip q h
      refine g_iconst (v := -1) C dX0_at_21 (by decide) ?_
      cases h
      exact g_ireturn C rfl dX0_at_22
    · replace h := iq q h
      refine g_aload_n C dX0_at_12 0 rfl ?_
      refine g_wt (fun hT_μ => ?_)
      refine g_getr (j := 0) C s_a0 (by decide) rfl uwX0 (by decide) rfl lfX0_9 rfl dX0_at_13 ?_
      refine g_iload_n C dX0_at_16 1 rfl ?_
      obtain ⟨hg1, h⟩ := gs h
      refine g_iald C (hT_μ.1 _ _ 0 _ s_a0 rfl) (ib_in hg1) dX0_at_17 ?_
      refine g_goto C 22 dX0_at_18 rfl ?_
      cases h
      exact g_ireturn C rfl dX0_at_22
theorem miX0_at : MI yX0_at cX0_at 2 (some .int) RX0 1 := ⟨wcX0_at, wmX0_at, wsX0_at, wiX0, by decide +kernel⟩
theorem kX0_at {l : Launch} {D : va_G} {cA : Nat → ClassId} {tS : Nat → Nat} {σ : Sg} {a0 : Nat} {v1 : Int32} {μ : Mm} {q : Int32} (s_a0 : σ a0 = some (0, 0)) (h : fX0_at a0 v1 μ = some q) : Ct l D cA tS σ yX0_at cX0_at 2 (some .int) (rmO 0 0) [.ref a0, .int v1] μ (QI D cA σ q μ) :=
  Ct.of (by decide) (Nat.le_of_ble_eq_true rfl) (fun _ _ _ _ _ _ _ _ C => wX0_at C _ _ _ s_a0 h)
set_option maxRecDepth 100000 in
set_option maxHeartbeats 4000000 in
theorem wX0_copyFrom {p : Program} {l : Launch} {e : Env} {s : State} {m : MethodId} {args : Array Value} {below : List Frame} {meth : Method} {c : Code} {D : va_G} {cA : Nat → ClassId} {tS : Nat → Nat} {σ : Sg} {q : Mm} (C : Cx p s m args meth c D cA tS σ cX0_copyFrom none 2 RX0) (a0 : Nat) (a1 : Nat) (μ : Mm) (s_a0 : σ a0 = some (0, 0)) (s_a1 : σ a1 = some (0, 0)) (h : fX0_copyFrom a0 a1 μ = some q) : GG p l e (rmO 1 40) s m args below meth c D cA σ 2 (MQ below (QV D cA σ q) args s 0 0 (dm σ)) 0 [(0, .ref a0), (1, .ref a1)] [] μ := by
  unfold fX0_copyFrom at h
  refine g_aload_n C dX0_copyFrom_0 1 rfl ?_
  refine g_wt (fun hT_μ => ?_)
  refine g_getr (j := 0) C s_a1 (by decide) rfl uwX0 (by decide) rfl lfX0_9 rfl dX0_copyFrom_1 ?_
  refine g_iconst (v := 0) C dX0_copyFrom_4 (by decide) ?_
  refine g_aload_n C dX0_copyFrom_5 0 rfl ?_
  refine g_getr (j := 0) C s_a0 (by decide) rfl uwX0 (by decide) rfl lfX0_9 rfl dX0_copyFrom_6 ?_
  refine g_iconst (v := 0) C dX0_copyFrom_9 (by decide) ?_
  refine g_aload_n C dX0_copyFrom_10 1 rfl ?_
  refine g_geti (j := 1) C s_a1 (by decide) rfl uwX0 (by decide) rfl lfX0_15 rfl dX0_copyFrom_11 ?_
  obtain ⟨hg, h⟩ := gs h
  refine g_copy C (hT_μ.1 _ _ 0 _ s_a1 rfl) (hT_μ.1 _ _ 0 _ s_a0 rfl) hg lmX0_27 wiJ10 ⟨by decide, by decide⟩ dX0_copyFrom_14 ?_
  obtain ⟨μ1, e_μ1, h⟩ := nm h
  refine g_mu e_μ1 ?_
  refine g_aload_n C dX0_copyFrom_17 0 rfl ?_
  refine g_aload_n C dX0_copyFrom_18 1 rfl ?_
  refine g_geti (j := 1) C s_a1 (by decide) rfl uwX0 (by decide) rfl lfX0_15 rfl dX0_copyFrom_19 ?_
  refine g_puti (j := 1) C s_a0 (by decide) rfl uwX0 tyX0_ok nmX0 (by decide) rfl lfX0_15 rfl rfl rfl (fun _ _ => rfl) (fun _ _ => Nat.le_of_ble_eq_true rfl) dX0_copyFrom_22 ?_
  obtain ⟨μ2, e_μ2, h⟩ := nm h
  refine g_mu e_μ2 ?_
  refine g_aload_n C dX0_copyFrom_25 0 rfl ?_
  refine g_aload_n C dX0_copyFrom_26 1 rfl ?_
  refine g_geti (j := 2) C s_a1 (by decide) rfl uwX0 (by decide) rfl lfX0_19 rfl dX0_copyFrom_27 ?_
  obtain ⟨hg, h⟩ := gs h
  refine g_puti (j := 2) C s_a0 (by decide) rfl uwX0 tyX0_ok nmX0 (by decide) rfl lfX0_19 rfl (b01_n hg).1 (b01_n hg).2 (fun _ _ => rfl) (fun _ _ => Nat.le_of_ble_eq_true rfl) dX0_copyFrom_30 ?_
  obtain ⟨μ3, e_μ3, h⟩ := nm h
  refine g_mu e_μ3 ?_
  cases h
  exact g_return C dX0_copyFrom_33
theorem miX0_copyFrom : MI yX0_copyFrom cX0_copyFrom 2 none RX0 1 := ⟨wcX0_copyFrom, wmX0_copyFrom, wsX0_copyFrom, wiX0, by decide +kernel⟩
theorem kX0_copyFrom {l : Launch} {D : va_G} {cA : Nat → ClassId} {tS : Nat → Nat} {σ : Sg} {a0 : Nat} {a1 : Nat} {μ : Mm} {q : Mm} (s_a0 : σ a0 = some (0, 0)) (s_a1 : σ a1 = some (0, 0)) (h : fX0_copyFrom a0 a1 μ = some q) : Ct l D cA tS σ yX0_copyFrom cX0_copyFrom 2 none (rmO 1 40) [.ref a0, .ref a1] μ (QV D cA σ q) :=
  Ct.of (by decide) (Nat.le_of_ble_eq_true rfl) (fun _ _ _ _ _ _ _ _ C => wX0_copyFrom C _ _ _ s_a0 s_a1 h)
end
