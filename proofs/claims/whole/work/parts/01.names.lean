-- ===== PART A: goes FIRST, ahead of the names: the tables' words, and 'selects' of the private methods out of them =====
/-- a private method of a class that the tables say can be made, by its rows of tables_1 -/
def lw_okq (q : MethodName × Nat) : Prop := (q.1.cls ≠ "java/lang/invoke/MethodHandle" ∧ q.1.cls ≠ "java/lang/invoke/VarHandle") ∧ Cond.instantiable q.1.cls q.2 ∈ tables_1 ∧ Cond.privateMethod q.1 ∈ tables_1 ∧ Cond.instanceMethod q.1 ∈ tables_1
theorem lw_p0 : lw_okq (⟨"NewsReel$Library", "readStatement", "(LNewsReel$Text;)Z"⟩, 12) := ⟨⟨by decide +kernel, by decide +kernel⟩, List.mem_of_getElem? (i := 102) (by decide +kernel), List.mem_of_getElem? (i := 452) (by decide +kernel), List.mem_of_getElem? (i := 453) (by decide +kernel)⟩
theorem lw_p1 : lw_okq (⟨"NewsReel$Library", "readShot", "(LNewsReel$Text;)Z"⟩, 12) := ⟨⟨by decide +kernel, by decide +kernel⟩, List.mem_of_getElem? (i := 102) (by decide +kernel), List.mem_of_getElem? (i := 513) (by decide +kernel), List.mem_of_getElem? (i := 514) (by decide +kernel)⟩
theorem lw_p2 : lw_okq (⟨"NewsReel$Library", "readName", "(LNewsReel$Text;)Z"⟩, 12) := ⟨⟨by decide +kernel, by decide +kernel⟩, List.mem_of_getElem? (i := 102) (by decide +kernel), List.mem_of_getElem? (i := 528) (by decide +kernel), List.mem_of_getElem? (i := 529) (by decide +kernel)⟩
theorem lw_p3 : lw_okq (⟨"NewsReel$Library", "isName", "(I[BII)Z"⟩, 12) := ⟨⟨by decide +kernel, by decide +kernel⟩, List.mem_of_getElem? (i := 102) (by decide +kernel), List.mem_of_getElem? (i := 537) (by decide +kernel), List.mem_of_getElem? (i := 538) (by decide +kernel)⟩
theorem lw_p4 : lw_okq (⟨"NewsReel$Library", "readBan", "(LNewsReel$Text;)Z"⟩, 12) := ⟨⟨by decide +kernel, by decide +kernel⟩, List.mem_of_getElem? (i := 102) (by decide +kernel), List.mem_of_getElem? (i := 542) (by decide +kernel), List.mem_of_getElem? (i := 543) (by decide +kernel)⟩
theorem lw_p5 : lw_okq (⟨"NewsReel$Library", "readSetting", "(LNewsReel$Text;I)Z"⟩, 12) := ⟨⟨by decide +kernel, by decide +kernel⟩, List.mem_of_getElem? (i := 102) (by decide +kernel), List.mem_of_getElem? (i := 554) (by decide +kernel), List.mem_of_getElem? (i := 555) (by decide +kernel)⟩
theorem lw_p6 : lw_okq (⟨"NewsReel", "forgetActs", "()V"⟩, 14) := ⟨⟨by decide +kernel, by decide +kernel⟩, List.mem_of_getElem? (i := 27) (by decide +kernel), List.mem_of_getElem? (i := 592) (by decide +kernel), List.mem_of_getElem? (i := 593) (by decide +kernel)⟩
theorem lw_p7 : lw_okq (⟨"NewsReel", "settle", "()V"⟩, 14) := ⟨⟨by decide +kernel, by decide +kernel⟩, List.mem_of_getElem? (i := 27) (by decide +kernel), List.mem_of_getElem? (i := 596) (by decide +kernel), List.mem_of_getElem? (i := 597) (by decide +kernel)⟩
theorem lw_p8 : lw_okq (⟨"NewsReel$Pieces", "addItems", "(LNewsReel$Items;IIII)V"⟩, 10) := ⟨⟨by decide +kernel, by decide +kernel⟩, List.mem_of_getElem? (i := 258) (by decide +kernel), List.mem_of_getElem? (i := 604) (by decide +kernel), List.mem_of_getElem? (i := 605) (by decide +kernel)⟩
theorem lw_p9 : lw_okq (⟨"NewsReel$Pieces", "addItem", "(LNewsReel$Items;III)V"⟩, 10) := ⟨⟨by decide +kernel, by decide +kernel⟩, List.mem_of_getElem? (i := 258) (by decide +kernel), List.mem_of_getElem? (i := 608) (by decide +kernel), List.mem_of_getElem? (i := 609) (by decide +kernel)⟩
theorem lw_p10 : lw_okq (⟨"NewsReel$Pieces", "addPiece", "(LNewsReel$Items;II)V"⟩, 10) := ⟨⟨by decide +kernel, by decide +kernel⟩, List.mem_of_getElem? (i := 258) (by decide +kernel), List.mem_of_getElem? (i := 616) (by decide +kernel), List.mem_of_getElem? (i := 617) (by decide +kernel)⟩
theorem lw_p11 : lw_okq (⟨"NewsReel$Pieces", "overlapOf", "(I)I"⟩, 10) := ⟨⟨by decide +kernel, by decide +kernel⟩, List.mem_of_getElem? (i := 258) (by decide +kernel), List.mem_of_getElem? (i := 624) (by decide +kernel), List.mem_of_getElem? (i := 625) (by decide +kernel)⟩
theorem lw_p12 : lw_okq (⟨"NewsReel$Faults", "findBanned", "(LNewsReel$Pieces;LNewsReel$Library;)V"⟩, 3) := ⟨⟨by decide +kernel, by decide +kernel⟩, List.mem_of_getElem? (i := 339) (by decide +kernel), List.mem_of_getElem? (i := 684) (by decide +kernel), List.mem_of_getElem? (i := 685) (by decide +kernel)⟩
theorem lw_p13 : lw_okq (⟨"NewsReel$Library", "isBanned", "(II)Z"⟩, 12) := ⟨⟨by decide +kernel, by decide +kernel⟩, List.mem_of_getElem? (i := 102) (by decide +kernel), List.mem_of_getElem? (i := 693) (by decide +kernel), List.mem_of_getElem? (i := 694) (by decide +kernel)⟩
theorem lw_p14 : lw_okq (⟨"NewsReel$Faults", "add", "(II)V"⟩, 3) := ⟨⟨by decide +kernel, by decide +kernel⟩, List.mem_of_getElem? (i := 339) (by decide +kernel), List.mem_of_getElem? (i := 697) (by decide +kernel), List.mem_of_getElem? (i := 698) (by decide +kernel)⟩
theorem lw_p15 : lw_okq (⟨"NewsReel$Faults", "findUnseenNames", "(LNewsReel$Pieces;LNewsReel$Speech;)V"⟩, 3) := ⟨⟨by decide +kernel, by decide +kernel⟩, List.mem_of_getElem? (i := 339) (by decide +kernel), List.mem_of_getElem? (i := 701) (by decide +kernel), List.mem_of_getElem? (i := 702) (by decide +kernel)⟩
def lw_privs_1 : List (MethodName × Nat) := [(⟨"NewsReel$Library", "readStatement", "(LNewsReel$Text;)Z"⟩, 12), (⟨"NewsReel$Library", "readShot", "(LNewsReel$Text;)Z"⟩, 12), (⟨"NewsReel$Library", "readName", "(LNewsReel$Text;)Z"⟩, 12), (⟨"NewsReel$Library", "isName", "(I[BII)Z"⟩, 12), (⟨"NewsReel$Library", "readBan", "(LNewsReel$Text;)Z"⟩, 12), (⟨"NewsReel$Library", "readSetting", "(LNewsReel$Text;I)Z"⟩, 12), (⟨"NewsReel", "forgetActs", "()V"⟩, 14), (⟨"NewsReel", "settle", "()V"⟩, 14), (⟨"NewsReel$Pieces", "addItems", "(LNewsReel$Items;IIII)V"⟩, 10), (⟨"NewsReel$Pieces", "addItem", "(LNewsReel$Items;III)V"⟩, 10), (⟨"NewsReel$Pieces", "addPiece", "(LNewsReel$Items;II)V"⟩, 10), (⟨"NewsReel$Pieces", "overlapOf", "(I)I"⟩, 10), (⟨"NewsReel$Faults", "findBanned", "(LNewsReel$Pieces;LNewsReel$Library;)V"⟩, 3), (⟨"NewsReel$Library", "isBanned", "(II)Z"⟩, 12), (⟨"NewsReel$Faults", "add", "(II)V"⟩, 3), (⟨"NewsReel$Faults", "findUnseenNames", "(LNewsReel$Pieces;LNewsReel$Speech;)V"⟩, 3)]
theorem lw_r1 : ∀ q ∈ lw_privs_1, lw_okq q := List.forall_mem_cons.mpr ⟨lw_p0, List.forall_mem_cons.mpr ⟨lw_p1, List.forall_mem_cons.mpr ⟨lw_p2, List.forall_mem_cons.mpr ⟨lw_p3, List.forall_mem_cons.mpr ⟨lw_p4, List.forall_mem_cons.mpr ⟨lw_p5, List.forall_mem_cons.mpr ⟨lw_p6, List.forall_mem_cons.mpr ⟨lw_p7, List.forall_mem_cons.mpr ⟨lw_p8, List.forall_mem_cons.mpr ⟨lw_p9, List.forall_mem_cons.mpr ⟨lw_p10, List.forall_mem_cons.mpr ⟨lw_p11, List.forall_mem_cons.mpr ⟨lw_p12, List.forall_mem_cons.mpr ⟨lw_p13, List.forall_mem_cons.mpr ⟨lw_p14, List.forall_mem_cons.mpr ⟨lw_p15, fun _ h => absurd h List.not_mem_nil⟩⟩⟩⟩⟩⟩⟩⟩⟩⟩⟩⟩⟩⟩⟩⟩
theorem lw_p16 : lw_okq (⟨"NewsReel$Faults", "findShort", "(LNewsReel$Pieces;I)V"⟩, 3) := ⟨⟨by decide +kernel, by decide +kernel⟩, List.mem_of_getElem? (i := 339) (by decide +kernel), List.mem_of_getElem? (i := 710) (by decide +kernel), List.mem_of_getElem? (i := 711) (by decide +kernel)⟩
theorem lw_p17 : lw_okq (⟨"NewsReel$Faults", "findSameCamera", "(LNewsReel$Pieces;LNewsReel$Library;)V"⟩, 3) := ⟨⟨by decide +kernel, by decide +kernel⟩, List.mem_of_getElem? (i := 339) (by decide +kernel), List.mem_of_getElem? (i := 714) (by decide +kernel), List.mem_of_getElem? (i := 715) (by decide +kernel)⟩
theorem lw_p18 : lw_okq (⟨"NewsReel", "findChoice", "(I)V"⟩, 14) := ⟨⟨by decide +kernel, by decide +kernel⟩, List.mem_of_getElem? (i := 27) (by decide +kernel), List.mem_of_getElem? (i := 743) (by decide +kernel), List.mem_of_getElem? (i := 744) (by decide +kernel)⟩
theorem lw_p19 : lw_okq (⟨"NewsReel$Choice", "compare", "(II)V"⟩, 4) := ⟨⟨by decide +kernel, by decide +kernel⟩, List.mem_of_getElem? (i := 358) (by decide +kernel), List.mem_of_getElem? (i := 756) (by decide +kernel), List.mem_of_getElem? (i := 757) (by decide +kernel)⟩
theorem lw_p20 : lw_okq (⟨"NewsReel", "gapAtSpeed", "(I)I"⟩, 14) := ⟨⟨by decide +kernel, by decide +kernel⟩, List.mem_of_getElem? (i := 27) (by decide +kernel), List.mem_of_getElem? (i := 770) (by decide +kernel), List.mem_of_getElem? (i := 771) (by decide +kernel)⟩
theorem lw_p21 : lw_okq (⟨"NewsReel$Items", "readItems", "(LNewsReel$Text;LNewsReel$Library;I)Z"⟩, 7) := ⟨⟨by decide +kernel, by decide +kernel⟩, List.mem_of_getElem? (i := 203) (by decide +kernel), List.mem_of_getElem? (i := 798) (by decide +kernel), List.mem_of_getElem? (i := 799) (by decide +kernel)⟩
theorem lw_p22 : lw_okq (⟨"NewsReel$Items", "readItem", "(LNewsReel$Text;LNewsReel$Library;I)Z"⟩, 7) := ⟨⟨by decide +kernel, by decide +kernel⟩, List.mem_of_getElem? (i := 203) (by decide +kernel), List.mem_of_getElem? (i := 802) (by decide +kernel), List.mem_of_getElem? (i := 803) (by decide +kernel)⟩
theorem lw_p23 : lw_okq (⟨"NewsReel$Items", "readCut", "(LNewsReel$Text;LNewsReel$Library;I)Z"⟩, 7) := ⟨⟨by decide +kernel, by decide +kernel⟩, List.mem_of_getElem? (i := 203) (by decide +kernel), List.mem_of_getElem? (i := 816) (by decide +kernel), List.mem_of_getElem? (i := 817) (by decide +kernel)⟩
theorem lw_p24 : lw_okq (⟨"NewsReel$Items", "readMap", "(LNewsReel$Text;LNewsReel$Library;I)Z"⟩, 7) := ⟨⟨by decide +kernel, by decide +kernel⟩, List.mem_of_getElem? (i := 203) (by decide +kernel), List.mem_of_getElem? (i := 833) (by decide +kernel), List.mem_of_getElem? (i := 834) (by decide +kernel)⟩
theorem lw_p25 : lw_okq (⟨"NewsReel$Items", "readBlock", "(ILNewsReel$Text;LNewsReel$Library;I)Z"⟩, 7) := ⟨⟨by decide +kernel, by decide +kernel⟩, List.mem_of_getElem? (i := 203) (by decide +kernel), List.mem_of_getElem? (i := 837) (by decide +kernel), List.mem_of_getElem? (i := 838) (by decide +kernel)⟩
theorem lw_p26 : lw_okq (⟨"NewsReel", "refuse", "(I)I"⟩, 14) := ⟨⟨by decide +kernel, by decide +kernel⟩, List.mem_of_getElem? (i := 27) (by decide +kernel), List.mem_of_getElem? (i := 842) (by decide +kernel), List.mem_of_getElem? (i := 843) (by decide +kernel)⟩
theorem lw_p27 : lw_okq (⟨"NewsReel", "remember", "()V"⟩, 14) := ⟨⟨by decide +kernel, by decide +kernel⟩, List.mem_of_getElem? (i := 27) (by decide +kernel), List.mem_of_getElem? (i := 851) (by decide +kernel), List.mem_of_getElem? (i := 852) (by decide +kernel)⟩
theorem lw_p28 : lw_okq (⟨"NewsReel$Voice", "readWord", "(LNewsReel$Text;)Z"⟩, 7) := ⟨⟨by decide +kernel, by decide +kernel⟩, List.mem_of_getElem? (i := 161) (by decide +kernel), List.mem_of_getElem? (i := 867) (by decide +kernel), List.mem_of_getElem? (i := 868) (by decide +kernel)⟩
theorem lw_p29 : lw_okq (⟨"NewsReel$Voice", "syllablesOf", "(II)I"⟩, 7) := ⟨⟨by decide +kernel, by decide +kernel⟩, List.mem_of_getElem? (i := 161) (by decide +kernel), List.mem_of_getElem? (i := 873) (by decide +kernel), List.mem_of_getElem? (i := 874) (by decide +kernel)⟩
theorem lw_p30 : lw_okq (⟨"NewsReel$Output", "closeBlocks", "(I)V"⟩, 2) := ⟨⟨by decide +kernel, by decide +kernel⟩, List.mem_of_getElem? (i := 82) (by decide +kernel), List.mem_of_getElem? (i := 901) (by decide +kernel), List.mem_of_getElem? (i := 902) (by decide +kernel)⟩
theorem lw_p31 : lw_okq (⟨"NewsReel$Output", "put", "(I)V"⟩, 2) := ⟨⟨by decide +kernel, by decide +kernel⟩, List.mem_of_getElem? (i := 82) (by decide +kernel), List.mem_of_getElem? (i := 905) (by decide +kernel), List.mem_of_getElem? (i := 906) (by decide +kernel)⟩
def lw_privs_2 : List (MethodName × Nat) := [(⟨"NewsReel$Faults", "findShort", "(LNewsReel$Pieces;I)V"⟩, 3), (⟨"NewsReel$Faults", "findSameCamera", "(LNewsReel$Pieces;LNewsReel$Library;)V"⟩, 3), (⟨"NewsReel", "findChoice", "(I)V"⟩, 14), (⟨"NewsReel$Choice", "compare", "(II)V"⟩, 4), (⟨"NewsReel", "gapAtSpeed", "(I)I"⟩, 14), (⟨"NewsReel$Items", "readItems", "(LNewsReel$Text;LNewsReel$Library;I)Z"⟩, 7), (⟨"NewsReel$Items", "readItem", "(LNewsReel$Text;LNewsReel$Library;I)Z"⟩, 7), (⟨"NewsReel$Items", "readCut", "(LNewsReel$Text;LNewsReel$Library;I)Z"⟩, 7), (⟨"NewsReel$Items", "readMap", "(LNewsReel$Text;LNewsReel$Library;I)Z"⟩, 7), (⟨"NewsReel$Items", "readBlock", "(ILNewsReel$Text;LNewsReel$Library;I)Z"⟩, 7), (⟨"NewsReel", "refuse", "(I)I"⟩, 14), (⟨"NewsReel", "remember", "()V"⟩, 14), (⟨"NewsReel$Voice", "readWord", "(LNewsReel$Text;)Z"⟩, 7), (⟨"NewsReel$Voice", "syllablesOf", "(II)I"⟩, 7), (⟨"NewsReel$Output", "closeBlocks", "(I)V"⟩, 2), (⟨"NewsReel$Output", "put", "(I)V"⟩, 2)]
theorem lw_r2 : ∀ q ∈ lw_privs_2, lw_okq q := List.forall_mem_cons.mpr ⟨lw_p16, List.forall_mem_cons.mpr ⟨lw_p17, List.forall_mem_cons.mpr ⟨lw_p18, List.forall_mem_cons.mpr ⟨lw_p19, List.forall_mem_cons.mpr ⟨lw_p20, List.forall_mem_cons.mpr ⟨lw_p21, List.forall_mem_cons.mpr ⟨lw_p22, List.forall_mem_cons.mpr ⟨lw_p23, List.forall_mem_cons.mpr ⟨lw_p24, List.forall_mem_cons.mpr ⟨lw_p25, List.forall_mem_cons.mpr ⟨lw_p26, List.forall_mem_cons.mpr ⟨lw_p27, List.forall_mem_cons.mpr ⟨lw_p28, List.forall_mem_cons.mpr ⟨lw_p29, List.forall_mem_cons.mpr ⟨lw_p30, List.forall_mem_cons.mpr ⟨lw_p31, fun _ h => absurd h List.not_mem_nil⟩⟩⟩⟩⟩⟩⟩⟩⟩⟩⟩⟩⟩⟩⟩⟩
theorem lw_p32 : lw_okq (⟨"NewsReel$Output", "writeHead", "(LNewsReel$Items;I)V"⟩, 2) := ⟨⟨by decide +kernel, by decide +kernel⟩, List.mem_of_getElem? (i := 82) (by decide +kernel), List.mem_of_getElem? (i := 909) (by decide +kernel), List.mem_of_getElem? (i := 910) (by decide +kernel)⟩
theorem lw_p33 : lw_okq (⟨"NewsReel$Output", "putText", "(Ljava/lang/String;)V"⟩, 2) := ⟨⟨by decide +kernel, by decide +kernel⟩, List.mem_of_getElem? (i := 82) (by decide +kernel), List.mem_of_getElem? (i := 914) (by decide +kernel), List.mem_of_getElem? (i := 915) (by decide +kernel)⟩
theorem lw_p34 : lw_okq (⟨"NewsReel$Output", "putNumber", "(I)V"⟩, 2) := ⟨⟨by decide +kernel, by decide +kernel⟩, List.mem_of_getElem? (i := 82) (by decide +kernel), List.mem_of_getElem? (i := 923) (by decide +kernel), List.mem_of_getElem? (i := 924) (by decide +kernel)⟩
theorem lw_p35 : lw_okq (⟨"NewsReel$Output", "writeFrames", "(LNewsReel$Items;ILNewsReel$Library;)V"⟩, 2) := ⟨⟨by decide +kernel, by decide +kernel⟩, List.mem_of_getElem? (i := 82) (by decide +kernel), List.mem_of_getElem? (i := 928) (by decide +kernel), List.mem_of_getElem? (i := 929) (by decide +kernel)⟩
theorem lw_p36 : lw_okq (⟨"java/lang/Throwable", "fillInStackTrace", "(I)Ljava/lang/Throwable;"⟩, 6) := ⟨⟨by decide +kernel, by decide +kernel⟩, List.mem_of_getElem? (i := 1002) (by decide +kernel), List.mem_of_getElem? (i := 1000) (by decide +kernel), List.mem_of_getElem? (i := 1001) (by decide +kernel)⟩
theorem lw_p37 : lw_okq (⟨"NewsReel", "isBanned", "(I)Z"⟩, 14) := ⟨⟨by decide +kernel, by decide +kernel⟩, List.mem_of_getElem? (i := 27) (by decide +kernel), List.mem_of_getElem? (i := 1102) (by decide +kernel), List.mem_of_getElem? (i := 1103) (by decide +kernel)⟩
theorem lw_p38 : lw_okq (⟨"NewsReel", "shownWords", "(I)I"⟩, 14) := ⟨⟨by decide +kernel, by decide +kernel⟩, List.mem_of_getElem? (i := 27) (by decide +kernel), List.mem_of_getElem? (i := 1129) (by decide +kernel), List.mem_of_getElem? (i := 1130) (by decide +kernel)⟩
theorem lw_p39 : lw_okq (⟨"NewsReel", "takeDraftItems", "()I"⟩, 14) := ⟨⟨by decide +kernel, by decide +kernel⟩, List.mem_of_getElem? (i := 27) (by decide +kernel), List.mem_of_getElem? (i := 1240) (by decide +kernel), List.mem_of_getElem? (i := 1241) (by decide +kernel)⟩
theorem lw_p40 : lw_okq (⟨"NewsReelModel", "clears", "()V"⟩, 52) := ⟨⟨by decide +kernel, by decide +kernel⟩, List.mem_of_getElem? (i := 1317) (by decide +kernel), List.mem_of_getElem? (i := 1323) (by decide +kernel), List.mem_of_getElem? (i := 1324) (by decide +kernel)⟩
theorem lw_p41 : lw_okq (⟨"NewsReelModel", "goes", "(Z)Z"⟩, 52) := ⟨⟨by decide +kernel, by decide +kernel⟩, List.mem_of_getElem? (i := 1317) (by decide +kernel), List.mem_of_getElem? (i := 1492) (by decide +kernel), List.mem_of_getElem? (i := 1493) (by decide +kernel)⟩
theorem lw_p42 : lw_okq (⟨"NewsReelModel", "beginsText", "()V"⟩, 52) := ⟨⟨by decide +kernel, by decide +kernel⟩, List.mem_of_getElem? (i := 1317) (by decide +kernel), List.mem_of_getElem? (i := 1518) (by decide +kernel), List.mem_of_getElem? (i := 1519) (by decide +kernel)⟩
theorem lw_p43 : lw_okq (⟨"NewsReelModel", "scans", "()V"⟩, 52) := ⟨⟨by decide +kernel, by decide +kernel⟩, List.mem_of_getElem? (i := 1317) (by decide +kernel), List.mem_of_getElem? (i := 1522) (by decide +kernel), List.mem_of_getElem? (i := 1523) (by decide +kernel)⟩
theorem lw_p44 : lw_okq (⟨"NewsReelModel", "byteAt", "(I)I"⟩, 52) := ⟨⟨by decide +kernel, by decide +kernel⟩, List.mem_of_getElem? (i := 1317) (by decide +kernel), List.mem_of_getElem? (i := 1526) (by decide +kernel), List.mem_of_getElem? (i := 1527) (by decide +kernel)⟩
theorem lw_p45 : lw_okq (⟨"NewsReelModel", "isLetter", "(I)Z"⟩, 52) := ⟨⟨by decide +kernel, by decide +kernel⟩, List.mem_of_getElem? (i := 1317) (by decide +kernel), List.mem_of_getElem? (i := 1530) (by decide +kernel), List.mem_of_getElem? (i := 1531) (by decide +kernel)⟩
theorem lw_p46 : lw_okq (⟨"NewsReelModel", "isDigit", "(I)Z"⟩, 52) := ⟨⟨by decide +kernel, by decide +kernel⟩, List.mem_of_getElem? (i := 1317) (by decide +kernel), List.mem_of_getElem? (i := 1534) (by decide +kernel), List.mem_of_getElem? (i := 1535) (by decide +kernel)⟩
theorem lw_p47 : lw_okq (⟨"NewsReelModel", "isGood", "()Z"⟩, 52) := ⟨⟨by decide +kernel, by decide +kernel⟩, List.mem_of_getElem? (i := 1317) (by decide +kernel), List.mem_of_getElem? (i := 1543) (by decide +kernel), List.mem_of_getElem? (i := 1544) (by decide +kernel)⟩
def lw_privs_3 : List (MethodName × Nat) := [(⟨"NewsReel$Output", "writeHead", "(LNewsReel$Items;I)V"⟩, 2), (⟨"NewsReel$Output", "putText", "(Ljava/lang/String;)V"⟩, 2), (⟨"NewsReel$Output", "putNumber", "(I)V"⟩, 2), (⟨"NewsReel$Output", "writeFrames", "(LNewsReel$Items;ILNewsReel$Library;)V"⟩, 2), (⟨"java/lang/Throwable", "fillInStackTrace", "(I)Ljava/lang/Throwable;"⟩, 6), (⟨"NewsReel", "isBanned", "(I)Z"⟩, 14), (⟨"NewsReel", "shownWords", "(I)I"⟩, 14), (⟨"NewsReel", "takeDraftItems", "()I"⟩, 14), (⟨"NewsReelModel", "clears", "()V"⟩, 52), (⟨"NewsReelModel", "goes", "(Z)Z"⟩, 52), (⟨"NewsReelModel", "beginsText", "()V"⟩, 52), (⟨"NewsReelModel", "scans", "()V"⟩, 52), (⟨"NewsReelModel", "byteAt", "(I)I"⟩, 52), (⟨"NewsReelModel", "isLetter", "(I)Z"⟩, 52), (⟨"NewsReelModel", "isDigit", "(I)Z"⟩, 52), (⟨"NewsReelModel", "isGood", "()Z"⟩, 52)]
theorem lw_r3 : ∀ q ∈ lw_privs_3, lw_okq q := List.forall_mem_cons.mpr ⟨lw_p32, List.forall_mem_cons.mpr ⟨lw_p33, List.forall_mem_cons.mpr ⟨lw_p34, List.forall_mem_cons.mpr ⟨lw_p35, List.forall_mem_cons.mpr ⟨lw_p36, List.forall_mem_cons.mpr ⟨lw_p37, List.forall_mem_cons.mpr ⟨lw_p38, List.forall_mem_cons.mpr ⟨lw_p39, List.forall_mem_cons.mpr ⟨lw_p40, List.forall_mem_cons.mpr ⟨lw_p41, List.forall_mem_cons.mpr ⟨lw_p42, List.forall_mem_cons.mpr ⟨lw_p43, List.forall_mem_cons.mpr ⟨lw_p44, List.forall_mem_cons.mpr ⟨lw_p45, List.forall_mem_cons.mpr ⟨lw_p46, List.forall_mem_cons.mpr ⟨lw_p47, fun _ h => absurd h List.not_mem_nil⟩⟩⟩⟩⟩⟩⟩⟩⟩⟩⟩⟩⟩⟩⟩⟩
theorem lw_p48 : lw_okq (⟨"NewsReelModel", "readsStatement", "()V"⟩, 52) := ⟨⟨by decide +kernel, by decide +kernel⟩, List.mem_of_getElem? (i := 1317) (by decide +kernel), List.mem_of_getElem? (i := 1547) (by decide +kernel), List.mem_of_getElem? (i := 1548) (by decide +kernel)⟩
theorem lw_p49 : lw_okq (⟨"NewsReelModel", "isWord", "(Ljava/lang/String;)Z"⟩, 52) := ⟨⟨by decide +kernel, by decide +kernel⟩, List.mem_of_getElem? (i := 1317) (by decide +kernel), List.mem_of_getElem? (i := 1552) (by decide +kernel), List.mem_of_getElem? (i := 1553) (by decide +kernel)⟩
theorem lw_p50 : lw_okq (⟨"NewsReelModel", "readsShot", "()V"⟩, 52) := ⟨⟨by decide +kernel, by decide +kernel⟩, List.mem_of_getElem? (i := 1317) (by decide +kernel), List.mem_of_getElem? (i := 1558) (by decide +kernel), List.mem_of_getElem? (i := 1559) (by decide +kernel)⟩
theorem lw_p51 : lw_okq (⟨"NewsReelModel", "fails", "(I)V"⟩, 52) := ⟨⟨by decide +kernel, by decide +kernel⟩, List.mem_of_getElem? (i := 1317) (by decide +kernel), List.mem_of_getElem? (i := 1562) (by decide +kernel), List.mem_of_getElem? (i := 1563) (by decide +kernel)⟩
theorem lw_p52 : lw_okq (⟨"NewsReelModel", "goesOn", "()V"⟩, 52) := ⟨⟨by decide +kernel, by decide +kernel⟩, List.mem_of_getElem? (i := 1317) (by decide +kernel), List.mem_of_getElem? (i := 1566) (by decide +kernel), List.mem_of_getElem? (i := 1567) (by decide +kernel)⟩
theorem lw_p53 : lw_okq (⟨"NewsReelModel", "reads", "(II)I"⟩, 52) := ⟨⟨by decide +kernel, by decide +kernel⟩, List.mem_of_getElem? (i := 1317) (by decide +kernel), List.mem_of_getElem? (i := 1570) (by decide +kernel), List.mem_of_getElem? (i := 1571) (by decide +kernel)⟩
theorem lw_p54 : lw_okq (⟨"NewsReelModel", "readsMap", "()V"⟩, 52) := ⟨⟨by decide +kernel, by decide +kernel⟩, List.mem_of_getElem? (i := 1317) (by decide +kernel), List.mem_of_getElem? (i := 1575) (by decide +kernel), List.mem_of_getElem? (i := 1576) (by decide +kernel)⟩
theorem lw_p55 : lw_okq (⟨"NewsReelModel", "isTold", "(I)Z"⟩, 52) := ⟨⟨by decide +kernel, by decide +kernel⟩, List.mem_of_getElem? (i := 1317) (by decide +kernel), List.mem_of_getElem? (i := 1579) (by decide +kernel), List.mem_of_getElem? (i := 1580) (by decide +kernel)⟩
theorem lw_p56 : lw_okq (⟨"NewsReelModel", "readsBan", "()V"⟩, 52) := ⟨⟨by decide +kernel, by decide +kernel⟩, List.mem_of_getElem? (i := 1317) (by decide +kernel), List.mem_of_getElem? (i := 1584) (by decide +kernel), List.mem_of_getElem? (i := 1585) (by decide +kernel)⟩
theorem lw_p57 : lw_okq (⟨"NewsReelModel", "readsValue", "(III)V"⟩, 52) := ⟨⟨by decide +kernel, by decide +kernel⟩, List.mem_of_getElem? (i := 1317) (by decide +kernel), List.mem_of_getElem? (i := 1589) (by decide +kernel), List.mem_of_getElem? (i := 1590) (by decide +kernel)⟩
theorem lw_p58 : lw_okq (⟨"NewsReelModel", "needsSign", "(I)V"⟩, 52) := ⟨⟨by decide +kernel, by decide +kernel⟩, List.mem_of_getElem? (i := 1317) (by decide +kernel), List.mem_of_getElem? (i := 1597) (by decide +kernel), List.mem_of_getElem? (i := 1598) (by decide +kernel)⟩
theorem lw_p59 : lw_okq (⟨"NewsReelModel", "isSign", "(I)Z"⟩, 52) := ⟨⟨by decide +kernel, by decide +kernel⟩, List.mem_of_getElem? (i := 1317) (by decide +kernel), List.mem_of_getElem? (i := 1601) (by decide +kernel), List.mem_of_getElem? (i := 1602) (by decide +kernel)⟩
theorem lw_p60 : lw_okq (⟨"NewsReelModel", "endsText", "()V"⟩, 52) := ⟨⟨by decide +kernel, by decide +kernel⟩, List.mem_of_getElem? (i := 1317) (by decide +kernel), List.mem_of_getElem? (i := 1605) (by decide +kernel), List.mem_of_getElem? (i := 1606) (by decide +kernel)⟩
theorem lw_p61 : lw_okq (⟨"NewsReelModel", "itemMany", "()I"⟩, 52) := ⟨⟨by decide +kernel, by decide +kernel⟩, List.mem_of_getElem? (i := 1317) (by decide +kernel), List.mem_of_getElem? (i := 1613) (by decide +kernel), List.mem_of_getElem? (i := 1614) (by decide +kernel)⟩
theorem lw_p62 : lw_okq (⟨"NewsReelModel", "behind", "(I)I"⟩, 52) := ⟨⟨by decide +kernel, by decide +kernel⟩, List.mem_of_getElem? (i := 1317) (by decide +kernel), List.mem_of_getElem? (i := 1617) (by decide +kernel), List.mem_of_getElem? (i := 1618) (by decide +kernel)⟩
theorem lw_p63 : lw_okq (⟨"NewsReelModel", "r", "(II)I"⟩, 52) := ⟨⟨by decide +kernel, by decide +kernel⟩, List.mem_of_getElem? (i := 1317) (by decide +kernel), List.mem_of_getElem? (i := 1621) (by decide +kernel), List.mem_of_getElem? (i := 1622) (by decide +kernel)⟩
def lw_privs_4 : List (MethodName × Nat) := [(⟨"NewsReelModel", "readsStatement", "()V"⟩, 52), (⟨"NewsReelModel", "isWord", "(Ljava/lang/String;)Z"⟩, 52), (⟨"NewsReelModel", "readsShot", "()V"⟩, 52), (⟨"NewsReelModel", "fails", "(I)V"⟩, 52), (⟨"NewsReelModel", "goesOn", "()V"⟩, 52), (⟨"NewsReelModel", "reads", "(II)I"⟩, 52), (⟨"NewsReelModel", "readsMap", "()V"⟩, 52), (⟨"NewsReelModel", "isTold", "(I)Z"⟩, 52), (⟨"NewsReelModel", "readsBan", "()V"⟩, 52), (⟨"NewsReelModel", "readsValue", "(III)V"⟩, 52), (⟨"NewsReelModel", "needsSign", "(I)V"⟩, 52), (⟨"NewsReelModel", "isSign", "(I)Z"⟩, 52), (⟨"NewsReelModel", "endsText", "()V"⟩, 52), (⟨"NewsReelModel", "itemMany", "()I"⟩, 52), (⟨"NewsReelModel", "behind", "(I)I"⟩, 52), (⟨"NewsReelModel", "r", "(II)I"⟩, 52)]
theorem lw_r4 : ∀ q ∈ lw_privs_4, lw_okq q := List.forall_mem_cons.mpr ⟨lw_p48, List.forall_mem_cons.mpr ⟨lw_p49, List.forall_mem_cons.mpr ⟨lw_p50, List.forall_mem_cons.mpr ⟨lw_p51, List.forall_mem_cons.mpr ⟨lw_p52, List.forall_mem_cons.mpr ⟨lw_p53, List.forall_mem_cons.mpr ⟨lw_p54, List.forall_mem_cons.mpr ⟨lw_p55, List.forall_mem_cons.mpr ⟨lw_p56, List.forall_mem_cons.mpr ⟨lw_p57, List.forall_mem_cons.mpr ⟨lw_p58, List.forall_mem_cons.mpr ⟨lw_p59, List.forall_mem_cons.mpr ⟨lw_p60, List.forall_mem_cons.mpr ⟨lw_p61, List.forall_mem_cons.mpr ⟨lw_p62, List.forall_mem_cons.mpr ⟨lw_p63, fun _ h => absurd h List.not_mem_nil⟩⟩⟩⟩⟩⟩⟩⟩⟩⟩⟩⟩⟩⟩⟩⟩
theorem lw_p64 : lw_okq (⟨"NewsReelModel", "allItems", "()I"⟩, 52) := ⟨⟨by decide +kernel, by decide +kernel⟩, List.mem_of_getElem? (i := 1317) (by decide +kernel), List.mem_of_getElem? (i := 1628) (by decide +kernel), List.mem_of_getElem? (i := 1629) (by decide +kernel)⟩
theorem lw_p65 : lw_okq (⟨"NewsReelModel", "allSyllables", "()I"⟩, 52) := ⟨⟨by decide +kernel, by decide +kernel⟩, List.mem_of_getElem? (i := 1317) (by decide +kernel), List.mem_of_getElem? (i := 1632) (by decide +kernel), List.mem_of_getElem? (i := 1633) (by decide +kernel)⟩
theorem lw_p66 : lw_okq (⟨"NewsReelModel", "syllables", "(I)I"⟩, 52) := ⟨⟨by decide +kernel, by decide +kernel⟩, List.mem_of_getElem? (i := 1317) (by decide +kernel), List.mem_of_getElem? (i := 1636) (by decide +kernel), List.mem_of_getElem? (i := 1637) (by decide +kernel)⟩
theorem lw_p67 : lw_okq (⟨"NewsReelModel", "w", "(II)I"⟩, 52) := ⟨⟨by decide +kernel, by decide +kernel⟩, List.mem_of_getElem? (i := 1317) (by decide +kernel), List.mem_of_getElem? (i := 1640) (by decide +kernel), List.mem_of_getElem? (i := 1641) (by decide +kernel)⟩
theorem lw_p68 : lw_okq (⟨"NewsReelModel", "letter", "(II)I"⟩, 52) := ⟨⟨by decide +kernel, by decide +kernel⟩, List.mem_of_getElem? (i := 1317) (by decide +kernel), List.mem_of_getElem? (i := 1644) (by decide +kernel), List.mem_of_getElem? (i := 1645) (by decide +kernel)⟩
theorem lw_p69 : lw_okq (⟨"NewsReelModel", "sentencesAhead", "(I)I"⟩, 52) := ⟨⟨by decide +kernel, by decide +kernel⟩, List.mem_of_getElem? (i := 1317) (by decide +kernel), List.mem_of_getElem? (i := 1652) (by decide +kernel), List.mem_of_getElem? (i := 1653) (by decide +kernel)⟩
theorem lw_p70 : lw_okq (⟨"NewsReelModel", "isShotThere", "(I)Z"⟩, 52) := ⟨⟨by decide +kernel, by decide +kernel⟩, List.mem_of_getElem? (i := 1317) (by decide +kernel), List.mem_of_getElem? (i := 1660) (by decide +kernel), List.mem_of_getElem? (i := 1661) (by decide +kernel)⟩
theorem lw_p71 : lw_okq (⟨"NewsReelModel", "goesBoth", "(ZZ)Z"⟩, 52) := ⟨⟨by decide +kernel, by decide +kernel⟩, List.mem_of_getElem? (i := 1317) (by decide +kernel), List.mem_of_getElem? (i := 1664) (by decide +kernel), List.mem_of_getElem? (i := 1665) (by decide +kernel)⟩
theorem lw_p72 : lw_okq (⟨"NewsReelModel", "cameraOf", "(I)I"⟩, 52) := ⟨⟨by decide +kernel, by decide +kernel⟩, List.mem_of_getElem? (i := 1317) (by decide +kernel), List.mem_of_getElem? (i := 1668) (by decide +kernel), List.mem_of_getElem? (i := 1669) (by decide +kernel)⟩
theorem lw_p73 : lw_okq (⟨"NewsReelModel", "lengthOf", "(I)I"⟩, 52) := ⟨⟨by decide +kernel, by decide +kernel⟩, List.mem_of_getElem? (i := 1317) (by decide +kernel), List.mem_of_getElem? (i := 1672) (by decide +kernel), List.mem_of_getElem? (i := 1673) (by decide +kernel)⟩
theorem lw_p74 : lw_okq (⟨"NewsReelModel", "isBanned", "(I)Z"⟩, 52) := ⟨⟨by decide +kernel, by decide +kernel⟩, List.mem_of_getElem? (i := 1317) (by decide +kernel), List.mem_of_getElem? (i := 1676) (by decide +kernel), List.mem_of_getElem? (i := 1677) (by decide +kernel)⟩
theorem lw_p75 : lw_okq (⟨"NewsReelModel", "isBannedIn", "(II)Z"⟩, 52) := ⟨⟨by decide +kernel, by decide +kernel⟩, List.mem_of_getElem? (i := 1317) (by decide +kernel), List.mem_of_getElem? (i := 1680) (by decide +kernel), List.mem_of_getElem? (i := 1681) (by decide +kernel)⟩
theorem lw_p76 : lw_okq (⟨"NewsReelModel", "piecesOf", "(IIZ)I"⟩, 52) := ⟨⟨by decide +kernel, by decide +kernel⟩, List.mem_of_getElem? (i := 1317) (by decide +kernel), List.mem_of_getElem? (i := 1684) (by decide +kernel), List.mem_of_getElem? (i := 1685) (by decide +kernel)⟩
theorem lw_p77 : lw_okq (⟨"NewsReelModel", "laysPieces", "()V"⟩, 52) := ⟨⟨by decide +kernel, by decide +kernel⟩, List.mem_of_getElem? (i := 1317) (by decide +kernel), List.mem_of_getElem? (i := 1688) (by decide +kernel), List.mem_of_getElem? (i := 1689) (by decide +kernel)⟩
theorem lw_p78 : lw_okq (⟨"NewsReelModel", "goesThrough", "(I)I"⟩, 52) := ⟨⟨by decide +kernel, by decide +kernel⟩, List.mem_of_getElem? (i := 1317) (by decide +kernel), List.mem_of_getElem? (i := 1692) (by decide +kernel), List.mem_of_getElem? (i := 1693) (by decide +kernel)⟩
theorem lw_p79 : lw_okq (⟨"NewsReelModel", "opens", "(IIZ)V"⟩, 52) := ⟨⟨by decide +kernel, by decide +kernel⟩, List.mem_of_getElem? (i := 1317) (by decide +kernel), List.mem_of_getElem? (i := 1696) (by decide +kernel), List.mem_of_getElem? (i := 1697) (by decide +kernel)⟩
def lw_privs_5 : List (MethodName × Nat) := [(⟨"NewsReelModel", "allItems", "()I"⟩, 52), (⟨"NewsReelModel", "allSyllables", "()I"⟩, 52), (⟨"NewsReelModel", "syllables", "(I)I"⟩, 52), (⟨"NewsReelModel", "w", "(II)I"⟩, 52), (⟨"NewsReelModel", "letter", "(II)I"⟩, 52), (⟨"NewsReelModel", "sentencesAhead", "(I)I"⟩, 52), (⟨"NewsReelModel", "isShotThere", "(I)Z"⟩, 52), (⟨"NewsReelModel", "goesBoth", "(ZZ)Z"⟩, 52), (⟨"NewsReelModel", "cameraOf", "(I)I"⟩, 52), (⟨"NewsReelModel", "lengthOf", "(I)I"⟩, 52), (⟨"NewsReelModel", "isBanned", "(I)Z"⟩, 52), (⟨"NewsReelModel", "isBannedIn", "(II)Z"⟩, 52), (⟨"NewsReelModel", "piecesOf", "(IIZ)I"⟩, 52), (⟨"NewsReelModel", "laysPieces", "()V"⟩, 52), (⟨"NewsReelModel", "goesThrough", "(I)I"⟩, 52), (⟨"NewsReelModel", "opens", "(IIZ)V"⟩, 52)]
theorem lw_r5 : ∀ q ∈ lw_privs_5, lw_okq q := List.forall_mem_cons.mpr ⟨lw_p64, List.forall_mem_cons.mpr ⟨lw_p65, List.forall_mem_cons.mpr ⟨lw_p66, List.forall_mem_cons.mpr ⟨lw_p67, List.forall_mem_cons.mpr ⟨lw_p68, List.forall_mem_cons.mpr ⟨lw_p69, List.forall_mem_cons.mpr ⟨lw_p70, List.forall_mem_cons.mpr ⟨lw_p71, List.forall_mem_cons.mpr ⟨lw_p72, List.forall_mem_cons.mpr ⟨lw_p73, List.forall_mem_cons.mpr ⟨lw_p74, List.forall_mem_cons.mpr ⟨lw_p75, List.forall_mem_cons.mpr ⟨lw_p76, List.forall_mem_cons.mpr ⟨lw_p77, List.forall_mem_cons.mpr ⟨lw_p78, List.forall_mem_cons.mpr ⟨lw_p79, fun _ h => absurd h List.not_mem_nil⟩⟩⟩⟩⟩⟩⟩⟩⟩⟩⟩⟩⟩⟩⟩⟩
theorem lw_p80 : lw_okq (⟨"NewsReelModel", "closes", "(I)I"⟩, 52) := ⟨⟨by decide +kernel, by decide +kernel⟩, List.mem_of_getElem? (i := 1317) (by decide +kernel), List.mem_of_getElem? (i := 1700) (by decide +kernel), List.mem_of_getElem? (i := 1701) (by decide +kernel)⟩
theorem lw_p81 : lw_okq (⟨"NewsReelModel", "addsPiece", "(I)V"⟩, 52) := ⟨⟨by decide +kernel, by decide +kernel⟩, List.mem_of_getElem? (i := 1317) (by decide +kernel), List.mem_of_getElem? (i := 1704) (by decide +kernel), List.mem_of_getElem? (i := 1705) (by decide +kernel)⟩
theorem lw_p82 : lw_okq (⟨"NewsReelModel", "commonOverlap", "(I)I"⟩, 52) := ⟨⟨by decide +kernel, by decide +kernel⟩, List.mem_of_getElem? (i := 1317) (by decide +kernel), List.mem_of_getElem? (i := 1708) (by decide +kernel), List.mem_of_getElem? (i := 1709) (by decide +kernel)⟩
theorem lw_p83 : lw_okq (⟨"NewsReelModel", "endOf", "(I)I"⟩, 52) := ⟨⟨by decide +kernel, by decide +kernel⟩, List.mem_of_getElem? (i := 1317) (by decide +kernel), List.mem_of_getElem? (i := 1712) (by decide +kernel), List.mem_of_getElem? (i := 1713) (by decide +kernel)⟩
theorem lw_p84 : lw_okq (⟨"NewsReelModel", "isMap", "(I)Z"⟩, 52) := ⟨⟨by decide +kernel, by decide +kernel⟩, List.mem_of_getElem? (i := 1317) (by decide +kernel), List.mem_of_getElem? (i := 1720) (by decide +kernel), List.mem_of_getElem? (i := 1721) (by decide +kernel)⟩
theorem lw_p85 : lw_okq (⟨"NewsReelModel", "namedBy", "(IZ)I"⟩, 52) := ⟨⟨by decide +kernel, by decide +kernel⟩, List.mem_of_getElem? (i := 1317) (by decide +kernel), List.mem_of_getElem? (i := 1724) (by decide +kernel), List.mem_of_getElem? (i := 1725) (by decide +kernel)⟩
theorem lw_p86 : lw_okq (⟨"NewsReelModel", "laysWords", "()I"⟩, 52) := ⟨⟨by decide +kernel, by decide +kernel⟩, List.mem_of_getElem? (i := 1317) (by decide +kernel), List.mem_of_getElem? (i := 1728) (by decide +kernel), List.mem_of_getElem? (i := 1729) (by decide +kernel)⟩
theorem lw_p87 : lw_okq (⟨"NewsReelModel", "isNamed", "(II)Z"⟩, 52) := ⟨⟨by decide +kernel, by decide +kernel⟩, List.mem_of_getElem? (i := 1317) (by decide +kernel), List.mem_of_getElem? (i := 1732) (by decide +kernel), List.mem_of_getElem? (i := 1733) (by decide +kernel)⟩
theorem lw_p88 : lw_okq (⟨"NewsReelModel", "isShown", "(II)Z"⟩, 52) := ⟨⟨by decide +kernel, by decide +kernel⟩, List.mem_of_getElem? (i := 1317) (by decide +kernel), List.mem_of_getElem? (i := 1736) (by decide +kernel), List.mem_of_getElem? (i := 1737) (by decide +kernel)⟩
theorem lw_p89 : lw_okq (⟨"NewsReelModel", "screenIn", "(I)I"⟩, 52) := ⟨⟨by decide +kernel, by decide +kernel⟩, List.mem_of_getElem? (i := 1317) (by decide +kernel), List.mem_of_getElem? (i := 1740) (by decide +kernel), List.mem_of_getElem? (i := 1741) (by decide +kernel)⟩
theorem lw_p90 : lw_okq (⟨"NewsReelModel", "shotsBy", "(I)I"⟩, 52) := ⟨⟨by decide +kernel, by decide +kernel⟩, List.mem_of_getElem? (i := 1317) (by decide +kernel), List.mem_of_getElem? (i := 1748) (by decide +kernel), List.mem_of_getElem? (i := 1749) (by decide +kernel)⟩
theorem lw_p91 : lw_okq (⟨"NewsReelModel", "mapOf", "(I)I"⟩, 52) := ⟨⟨by decide +kernel, by decide +kernel⟩, List.mem_of_getElem? (i := 1317) (by decide +kernel), List.mem_of_getElem? (i := 1756) (by decide +kernel), List.mem_of_getElem? (i := 1757) (by decide +kernel)⟩
theorem lw_p92 : lw_okq (⟨"NewsReelModel", "theEnd", "()I"⟩, 52) := ⟨⟨by decide +kernel, by decide +kernel⟩, List.mem_of_getElem? (i := 1317) (by decide +kernel), List.mem_of_getElem? (i := 1768) (by decide +kernel), List.mem_of_getElem? (i := 1769) (by decide +kernel)⟩
theorem lw_p93 : lw_okq (⟨"NewsReelModel", "deepest", "()I"⟩, 52) := ⟨⟨by decide +kernel, by decide +kernel⟩, List.mem_of_getElem? (i := 1317) (by decide +kernel), List.mem_of_getElem? (i := 1772) (by decide +kernel), List.mem_of_getElem? (i := 1773) (by decide +kernel)⟩
theorem lw_p94 : lw_okq (⟨"NewsReelModel", "longest", "()I"⟩, 52) := ⟨⟨by decide +kernel, by decide +kernel⟩, List.mem_of_getElem? (i := 1317) (by decide +kernel), List.mem_of_getElem? (i := 1776) (by decide +kernel), List.mem_of_getElem? (i := 1777) (by decide +kernel)⟩
theorem lw_p95 : lw_okq (⟨"NewsReelModel", "overlaps", "()I"⟩, 52) := ⟨⟨by decide +kernel, by decide +kernel⟩, List.mem_of_getElem? (i := 1317) (by decide +kernel), List.mem_of_getElem? (i := 1780) (by decide +kernel), List.mem_of_getElem? (i := 1781) (by decide +kernel)⟩
def lw_privs_6 : List (MethodName × Nat) := [(⟨"NewsReelModel", "closes", "(I)I"⟩, 52), (⟨"NewsReelModel", "addsPiece", "(I)V"⟩, 52), (⟨"NewsReelModel", "commonOverlap", "(I)I"⟩, 52), (⟨"NewsReelModel", "endOf", "(I)I"⟩, 52), (⟨"NewsReelModel", "isMap", "(I)Z"⟩, 52), (⟨"NewsReelModel", "namedBy", "(IZ)I"⟩, 52), (⟨"NewsReelModel", "laysWords", "()I"⟩, 52), (⟨"NewsReelModel", "isNamed", "(II)Z"⟩, 52), (⟨"NewsReelModel", "isShown", "(II)Z"⟩, 52), (⟨"NewsReelModel", "screenIn", "(I)I"⟩, 52), (⟨"NewsReelModel", "shotsBy", "(I)I"⟩, 52), (⟨"NewsReelModel", "mapOf", "(I)I"⟩, 52), (⟨"NewsReelModel", "theEnd", "()I"⟩, 52), (⟨"NewsReelModel", "deepest", "()I"⟩, 52), (⟨"NewsReelModel", "longest", "()I"⟩, 52), (⟨"NewsReelModel", "overlaps", "()I"⟩, 52)]
theorem lw_r6 : ∀ q ∈ lw_privs_6, lw_okq q := List.forall_mem_cons.mpr ⟨lw_p80, List.forall_mem_cons.mpr ⟨lw_p81, List.forall_mem_cons.mpr ⟨lw_p82, List.forall_mem_cons.mpr ⟨lw_p83, List.forall_mem_cons.mpr ⟨lw_p84, List.forall_mem_cons.mpr ⟨lw_p85, List.forall_mem_cons.mpr ⟨lw_p86, List.forall_mem_cons.mpr ⟨lw_p87, List.forall_mem_cons.mpr ⟨lw_p88, List.forall_mem_cons.mpr ⟨lw_p89, List.forall_mem_cons.mpr ⟨lw_p90, List.forall_mem_cons.mpr ⟨lw_p91, List.forall_mem_cons.mpr ⟨lw_p92, List.forall_mem_cons.mpr ⟨lw_p93, List.forall_mem_cons.mpr ⟨lw_p94, List.forall_mem_cons.mpr ⟨lw_p95, fun _ h => absurd h List.not_mem_nil⟩⟩⟩⟩⟩⟩⟩⟩⟩⟩⟩⟩⟩⟩⟩⟩
theorem lw_p96 : lw_okq (⟨"NewsReelModel", "allFaults", "()I"⟩, 52) := ⟨⟨by decide +kernel, by decide +kernel⟩, List.mem_of_getElem? (i := 1317) (by decide +kernel), List.mem_of_getElem? (i := 1800) (by decide +kernel), List.mem_of_getElem? (i := 1801) (by decide +kernel)⟩
theorem lw_p97 : lw_okq (⟨"NewsReelModel", "faultsOf", "(II)I"⟩, 52) := ⟨⟨by decide +kernel, by decide +kernel⟩, List.mem_of_getElem? (i := 1317) (by decide +kernel), List.mem_of_getElem? (i := 1804) (by decide +kernel), List.mem_of_getElem? (i := 1805) (by decide +kernel)⟩
theorem lw_p98 : lw_okq (⟨"NewsReelModel", "candidates", "(I)I"⟩, 52) := ⟨⟨by decide +kernel, by decide +kernel⟩, List.mem_of_getElem? (i := 1317) (by decide +kernel), List.mem_of_getElem? (i := 1808) (by decide +kernel), List.mem_of_getElem? (i := 1809) (by decide +kernel)⟩
theorem lw_p99 : lw_okq (⟨"NewsReelModel", "isFault", "(III)Z"⟩, 52) := ⟨⟨by decide +kernel, by decide +kernel⟩, List.mem_of_getElem? (i := 1317) (by decide +kernel), List.mem_of_getElem? (i := 1812) (by decide +kernel), List.mem_of_getElem? (i := 1813) (by decide +kernel)⟩
theorem lw_p100 : lw_okq (⟨"NewsReelModel", "isShot", "(I)Z"⟩, 52) := ⟨⟨by decide +kernel, by decide +kernel⟩, List.mem_of_getElem? (i := 1317) (by decide +kernel), List.mem_of_getElem? (i := 1816) (by decide +kernel), List.mem_of_getElem? (i := 1817) (by decide +kernel)⟩
theorem lw_p101 : lw_okq (⟨"NewsReelModel", "isBy", "(II)Z"⟩, 52) := ⟨⟨by decide +kernel, by decide +kernel⟩, List.mem_of_getElem? (i := 1317) (by decide +kernel), List.mem_of_getElem? (i := 1833) (by decide +kernel), List.mem_of_getElem? (i := 1834) (by decide +kernel)⟩
theorem lw_p102 : lw_okq (⟨"NewsReelModel", "laysSums", "()V"⟩, 52) := ⟨⟨by decide +kernel, by decide +kernel⟩, List.mem_of_getElem? (i := 1317) (by decide +kernel), List.mem_of_getElem? (i := 1845) (by decide +kernel), List.mem_of_getElem? (i := 1846) (by decide +kernel)⟩
theorem lw_p103 : lw_okq (⟨"NewsReelModel", "chooses", "(II)Z"⟩, 52) := ⟨⟨by decide +kernel, by decide +kernel⟩, List.mem_of_getElem? (i := 1317) (by decide +kernel), List.mem_of_getElem? (i := 1849) (by decide +kernel), List.mem_of_getElem? (i := 1850) (by decide +kernel)⟩
theorem lw_p104 : lw_okq (⟨"NewsReelModel", "bannedIn", "(I)I"⟩, 52) := ⟨⟨by decide +kernel, by decide +kernel⟩, List.mem_of_getElem? (i := 1317) (by decide +kernel), List.mem_of_getElem? (i := 1853) (by decide +kernel), List.mem_of_getElem? (i := 1854) (by decide +kernel)⟩
theorem lw_p105 : lw_okq (⟨"NewsReelModel", "isBetter", "(II)Z"⟩, 52) := ⟨⟨by decide +kernel, by decide +kernel⟩, List.mem_of_getElem? (i := 1317) (by decide +kernel), List.mem_of_getElem? (i := 1857) (by decide +kernel), List.mem_of_getElem? (i := 1858) (by decide +kernel)⟩
theorem lw_p106 : lw_okq (⟨"NewsReelModel", "readsReel", "()V"⟩, 52) := ⟨⟨by decide +kernel, by decide +kernel⟩, List.mem_of_getElem? (i := 1317) (by decide +kernel), List.mem_of_getElem? (i := 1876) (by decide +kernel), List.mem_of_getElem? (i := 1877) (by decide +kernel)⟩
theorem lw_p107 : lw_okq (⟨"NewsReelModel", "makes", "(IIII)V"⟩, 52) := ⟨⟨by decide +kernel, by decide +kernel⟩, List.mem_of_getElem? (i := 1317) (by decide +kernel), List.mem_of_getElem? (i := 1880) (by decide +kernel), List.mem_of_getElem? (i := 1881) (by decide +kernel)⟩
theorem lw_p108 : lw_okq (⟨"NewsReelModel", "readsItem", "()V"⟩, 52) := ⟨⟨by decide +kernel, by decide +kernel⟩, List.mem_of_getElem? (i := 1317) (by decide +kernel), List.mem_of_getElem? (i := 1884) (by decide +kernel), List.mem_of_getElem? (i := 1885) (by decide +kernel)⟩
theorem lw_p109 : lw_okq (⟨"NewsReelModel", "readsCut", "()V"⟩, 52) := ⟨⟨by decide +kernel, by decide +kernel⟩, List.mem_of_getElem? (i := 1317) (by decide +kernel), List.mem_of_getElem? (i := 1890) (by decide +kernel), List.mem_of_getElem? (i := 1891) (by decide +kernel)⟩
theorem lw_p110 : lw_okq (⟨"NewsReelModel", "needs", "(Ljava/lang/String;)V"⟩, 52) := ⟨⟨by decide +kernel, by decide +kernel⟩, List.mem_of_getElem? (i := 1317) (by decide +kernel), List.mem_of_getElem? (i := 1896) (by decide +kernel), List.mem_of_getElem? (i := 1897) (by decide +kernel)⟩
theorem lw_p111 : lw_okq (⟨"NewsReelModel", "readsHeld", "()V"⟩, 52) := ⟨⟨by decide +kernel, by decide +kernel⟩, List.mem_of_getElem? (i := 1317) (by decide +kernel), List.mem_of_getElem? (i := 1900) (by decide +kernel), List.mem_of_getElem? (i := 1901) (by decide +kernel)⟩
def lw_privs_7 : List (MethodName × Nat) := [(⟨"NewsReelModel", "allFaults", "()I"⟩, 52), (⟨"NewsReelModel", "faultsOf", "(II)I"⟩, 52), (⟨"NewsReelModel", "candidates", "(I)I"⟩, 52), (⟨"NewsReelModel", "isFault", "(III)Z"⟩, 52), (⟨"NewsReelModel", "isShot", "(I)Z"⟩, 52), (⟨"NewsReelModel", "isBy", "(II)Z"⟩, 52), (⟨"NewsReelModel", "laysSums", "()V"⟩, 52), (⟨"NewsReelModel", "chooses", "(II)Z"⟩, 52), (⟨"NewsReelModel", "bannedIn", "(I)I"⟩, 52), (⟨"NewsReelModel", "isBetter", "(II)Z"⟩, 52), (⟨"NewsReelModel", "readsReel", "()V"⟩, 52), (⟨"NewsReelModel", "makes", "(IIII)V"⟩, 52), (⟨"NewsReelModel", "readsItem", "()V"⟩, 52), (⟨"NewsReelModel", "readsCut", "()V"⟩, 52), (⟨"NewsReelModel", "needs", "(Ljava/lang/String;)V"⟩, 52), (⟨"NewsReelModel", "readsHeld", "()V"⟩, 52)]
theorem lw_r7 : ∀ q ∈ lw_privs_7, lw_okq q := List.forall_mem_cons.mpr ⟨lw_p96, List.forall_mem_cons.mpr ⟨lw_p97, List.forall_mem_cons.mpr ⟨lw_p98, List.forall_mem_cons.mpr ⟨lw_p99, List.forall_mem_cons.mpr ⟨lw_p100, List.forall_mem_cons.mpr ⟨lw_p101, List.forall_mem_cons.mpr ⟨lw_p102, List.forall_mem_cons.mpr ⟨lw_p103, List.forall_mem_cons.mpr ⟨lw_p104, List.forall_mem_cons.mpr ⟨lw_p105, List.forall_mem_cons.mpr ⟨lw_p106, List.forall_mem_cons.mpr ⟨lw_p107, List.forall_mem_cons.mpr ⟨lw_p108, List.forall_mem_cons.mpr ⟨lw_p109, List.forall_mem_cons.mpr ⟨lw_p110, List.forall_mem_cons.mpr ⟨lw_p111, fun _ h => absurd h List.not_mem_nil⟩⟩⟩⟩⟩⟩⟩⟩⟩⟩⟩⟩⟩⟩⟩⟩
theorem lw_p112 : lw_okq (⟨"NewsReelModel", "readsBlock", "(III)V"⟩, 52) := ⟨⟨by decide +kernel, by decide +kernel⟩, List.mem_of_getElem? (i := 1317) (by decide +kernel), List.mem_of_getElem? (i := 1904) (by decide +kernel), List.mem_of_getElem? (i := 1905) (by decide +kernel)⟩
theorem lw_p113 : lw_okq (⟨"NewsReelModel", "refuses", "(I)I"⟩, 52) := ⟨⟨by decide +kernel, by decide +kernel⟩, List.mem_of_getElem? (i := 1317) (by decide +kernel), List.mem_of_getElem? (i := 1908) (by decide +kernel), List.mem_of_getElem? (i := 1909) (by decide +kernel)⟩
theorem lw_p114 : lw_okq (⟨"NewsReelModel", "takesReel", "()V"⟩, 52) := ⟨⟨by decide +kernel, by decide +kernel⟩, List.mem_of_getElem? (i := 1317) (by decide +kernel), List.mem_of_getElem? (i := 1912) (by decide +kernel), List.mem_of_getElem? (i := 1913) (by decide +kernel)⟩
theorem lw_p115 : lw_okq (⟨"NewsReelModel", "begins", "()V"⟩, 52) := ⟨⟨by decide +kernel, by decide +kernel⟩, List.mem_of_getElem? (i := 1317) (by decide +kernel), List.mem_of_getElem? (i := 1916) (by decide +kernel), List.mem_of_getElem? (i := 1917) (by decide +kernel)⟩
theorem lw_p116 : lw_okq (⟨"NewsReelModel", "readsVoice", "()V"⟩, 52) := ⟨⟨by decide +kernel, by decide +kernel⟩, List.mem_of_getElem? (i := 1317) (by decide +kernel), List.mem_of_getElem? (i := 1924) (by decide +kernel), List.mem_of_getElem? (i := 1925) (by decide +kernel)⟩
theorem lw_p117 : lw_okq (⟨"NewsReelModel", "readsSentence", "()V"⟩, 52) := ⟨⟨by decide +kernel, by decide +kernel⟩, List.mem_of_getElem? (i := 1317) (by decide +kernel), List.mem_of_getElem? (i := 1928) (by decide +kernel), List.mem_of_getElem? (i := 1929) (by decide +kernel)⟩
theorem lw_p118 : lw_okq (⟨"NewsReelModel", "readsWord", "()V"⟩, 52) := ⟨⟨by decide +kernel, by decide +kernel⟩, List.mem_of_getElem? (i := 1317) (by decide +kernel), List.mem_of_getElem? (i := 1932) (by decide +kernel), List.mem_of_getElem? (i := 1933) (by decide +kernel)⟩
theorem lw_p119 : lw_okq (⟨"NewsReelModel", "takesVoice", "()V"⟩, 52) := ⟨⟨by decide +kernel, by decide +kernel⟩, List.mem_of_getElem? (i := 1317) (by decide +kernel), List.mem_of_getElem? (i := 1936) (by decide +kernel), List.mem_of_getElem? (i := 1937) (by decide +kernel)⟩
theorem lw_p120 : lw_okq (⟨"NewsReelModel", "lays", "(IIIII)V"⟩, 52) := ⟨⟨by decide +kernel, by decide +kernel⟩, List.mem_of_getElem? (i := 1317) (by decide +kernel), List.mem_of_getElem? (i := 1944) (by decide +kernel), List.mem_of_getElem? (i := 1945) (by decide +kernel)⟩
theorem lw_p121 : lw_okq (⟨"NewsReelModel", "rowOf", "(I)I"⟩, 52) := ⟨⟨by decide +kernel, by decide +kernel⟩, List.mem_of_getElem? (i := 1317) (by decide +kernel), List.mem_of_getElem? (i := 1952) (by decide +kernel), List.mem_of_getElem? (i := 1953) (by decide +kernel)⟩
theorem lw_p122 : lw_okq (⟨"NewsReelModel", "shiftsBack", "(II)V"⟩, 52) := ⟨⟨by decide +kernel, by decide +kernel⟩, List.mem_of_getElem? (i := 1317) (by decide +kernel), List.mem_of_getElem? (i := 1956) (by decide +kernel), List.mem_of_getElem? (i := 1957) (by decide +kernel)⟩
theorem lw_p123 : lw_okq (⟨"NewsReelModel", "endNow", "()I"⟩, 52) := ⟨⟨by decide +kernel, by decide +kernel⟩, List.mem_of_getElem? (i := 1317) (by decide +kernel), List.mem_of_getElem? (i := 1960) (by decide +kernel), List.mem_of_getElem? (i := 1961) (by decide +kernel)⟩
theorem lw_p124 : lw_okq (⟨"NewsReelModel", "isItem", "(I)Z"⟩, 52) := ⟨⟨by decide +kernel, by decide +kernel⟩, List.mem_of_getElem? (i := 1317) (by decide +kernel), List.mem_of_getElem? (i := 1968) (by decide +kernel), List.mem_of_getElem? (i := 1969) (by decide +kernel)⟩
theorem lw_p125 : lw_okq (⟨"NewsReelModel", "framesOf", "(I)I"⟩, 52) := ⟨⟨by decide +kernel, by decide +kernel⟩, List.mem_of_getElem? (i := 1317) (by decide +kernel), List.mem_of_getElem? (i := 1972) (by decide +kernel), List.mem_of_getElem? (i := 1973) (by decide +kernel)⟩
theorem lw_p126 : lw_okq (⟨"NewsReelModel", "shiftsFront", "(II)V"⟩, 52) := ⟨⟨by decide +kernel, by decide +kernel⟩, List.mem_of_getElem? (i := 1317) (by decide +kernel), List.mem_of_getElem? (i := 1980) (by decide +kernel), List.mem_of_getElem? (i := 1981) (by decide +kernel)⟩
theorem lw_p127 : lw_okq (⟨"NewsReelModel", "writesRow", "(I)V"⟩, 52) := ⟨⟨by decide +kernel, by decide +kernel⟩, List.mem_of_getElem? (i := 1317) (by decide +kernel), List.mem_of_getElem? (i := 2004) (by decide +kernel), List.mem_of_getElem? (i := 2005) (by decide +kernel)⟩
def lw_privs_8 : List (MethodName × Nat) := [(⟨"NewsReelModel", "readsBlock", "(III)V"⟩, 52), (⟨"NewsReelModel", "refuses", "(I)I"⟩, 52), (⟨"NewsReelModel", "takesReel", "()V"⟩, 52), (⟨"NewsReelModel", "begins", "()V"⟩, 52), (⟨"NewsReelModel", "readsVoice", "()V"⟩, 52), (⟨"NewsReelModel", "readsSentence", "()V"⟩, 52), (⟨"NewsReelModel", "readsWord", "()V"⟩, 52), (⟨"NewsReelModel", "takesVoice", "()V"⟩, 52), (⟨"NewsReelModel", "lays", "(IIIII)V"⟩, 52), (⟨"NewsReelModel", "rowOf", "(I)I"⟩, 52), (⟨"NewsReelModel", "shiftsBack", "(II)V"⟩, 52), (⟨"NewsReelModel", "endNow", "()I"⟩, 52), (⟨"NewsReelModel", "isItem", "(I)Z"⟩, 52), (⟨"NewsReelModel", "framesOf", "(I)I"⟩, 52), (⟨"NewsReelModel", "shiftsFront", "(II)V"⟩, 52), (⟨"NewsReelModel", "writesRow", "(I)V"⟩, 52)]
theorem lw_r8 : ∀ q ∈ lw_privs_8, lw_okq q := List.forall_mem_cons.mpr ⟨lw_p112, List.forall_mem_cons.mpr ⟨lw_p113, List.forall_mem_cons.mpr ⟨lw_p114, List.forall_mem_cons.mpr ⟨lw_p115, List.forall_mem_cons.mpr ⟨lw_p116, List.forall_mem_cons.mpr ⟨lw_p117, List.forall_mem_cons.mpr ⟨lw_p118, List.forall_mem_cons.mpr ⟨lw_p119, List.forall_mem_cons.mpr ⟨lw_p120, List.forall_mem_cons.mpr ⟨lw_p121, List.forall_mem_cons.mpr ⟨lw_p122, List.forall_mem_cons.mpr ⟨lw_p123, List.forall_mem_cons.mpr ⟨lw_p124, List.forall_mem_cons.mpr ⟨lw_p125, List.forall_mem_cons.mpr ⟨lw_p126, List.forall_mem_cons.mpr ⟨lw_p127, fun _ h => absurd h List.not_mem_nil⟩⟩⟩⟩⟩⟩⟩⟩⟩⟩⟩⟩⟩⟩⟩⟩
theorem lw_p128 : lw_okq (⟨"NewsReelModel", "writesCut", "(I)V"⟩, 52) := ⟨⟨by decide +kernel, by decide +kernel⟩, List.mem_of_getElem? (i := 1317) (by decide +kernel), List.mem_of_getElem? (i := 2008) (by decide +kernel), List.mem_of_getElem? (i := 2009) (by decide +kernel)⟩
theorem lw_p129 : lw_okq (⟨"NewsReelModel", "writesWord", "(Ljava/lang/String;)V"⟩, 52) := ⟨⟨by decide +kernel, by decide +kernel⟩, List.mem_of_getElem? (i := 1317) (by decide +kernel), List.mem_of_getElem? (i := 2013) (by decide +kernel), List.mem_of_getElem? (i := 2014) (by decide +kernel)⟩
theorem lw_p130 : lw_okq (⟨"NewsReelModel", "writes", "(I)V"⟩, 52) := ⟨⟨by decide +kernel, by decide +kernel⟩, List.mem_of_getElem? (i := 1317) (by decide +kernel), List.mem_of_getElem? (i := 2017) (by decide +kernel), List.mem_of_getElem? (i := 2018) (by decide +kernel)⟩
theorem lw_p131 : lw_okq (⟨"NewsReelModel", "writesNumber", "(I)V"⟩, 52) := ⟨⟨by decide +kernel, by decide +kernel⟩, List.mem_of_getElem? (i := 1317) (by decide +kernel), List.mem_of_getElem? (i := 2021) (by decide +kernel), List.mem_of_getElem? (i := 2022) (by decide +kernel)⟩
def lw_privs_9 : List (MethodName × Nat) := [(⟨"NewsReelModel", "writesCut", "(I)V"⟩, 52), (⟨"NewsReelModel", "writesWord", "(Ljava/lang/String;)V"⟩, 52), (⟨"NewsReelModel", "writes", "(I)V"⟩, 52), (⟨"NewsReelModel", "writesNumber", "(I)V"⟩, 52)]
theorem lw_r9 : ∀ q ∈ lw_privs_9, lw_okq q := List.forall_mem_cons.mpr ⟨lw_p128, List.forall_mem_cons.mpr ⟨lw_p129, List.forall_mem_cons.mpr ⟨lw_p130, List.forall_mem_cons.mpr ⟨lw_p131, fun _ h => absurd h List.not_mem_nil⟩⟩⟩⟩
def lw_privs : List (MethodName × Nat) := lw_privs_1 ++ (lw_privs_2 ++ (lw_privs_3 ++ (lw_privs_4 ++ (lw_privs_5 ++ (lw_privs_6 ++ (lw_privs_7 ++ (lw_privs_8 ++ (lw_privs_9))))))))
def lw_tbl : List Cond := k2_sels lw_privs ++ tables_1
theorem lw_privs_ok : ∀ q ∈ lw_privs, lw_okq q := by
  show ∀ q ∈ lw_privs_1 ++ (lw_privs_2 ++ (lw_privs_3 ++ (lw_privs_4 ++ (lw_privs_5 ++ (lw_privs_6 ++ (lw_privs_7 ++ (lw_privs_8 ++ (lw_privs_9)))))))), lw_okq q
  exact List.forall_mem_append.mpr ⟨lw_r1, List.forall_mem_append.mpr ⟨lw_r2, List.forall_mem_append.mpr ⟨lw_r3, List.forall_mem_append.mpr ⟨lw_r4, List.forall_mem_append.mpr ⟨lw_r5, List.forall_mem_append.mpr ⟨lw_r6, List.forall_mem_append.mpr ⟨lw_r7, List.forall_mem_append.mpr ⟨lw_r8, lw_r9⟩⟩⟩⟩⟩⟩⟩⟩
/-- the streams that the claim lets the run draw from -/
abbrev lw_cs : List Choice := [Jvm.Choice.named "NaN.bits"]
theorem lw_bits : nanBits ∈ lw_cs := by first | decide | exact List.mem_cons_self | simp [lw_cs, nanBits]
-- ===== end of PART A; then your names; then what follows =====
def RX0 : String := "NewsReel$Choice"
def TX0 : u_T := fun k => match k with
  | 0 => ("NewsReel$Choice", "set", "I", false)
  | 1 => ("NewsReel$Choice", "waste", "I", false)
  | 2 => ("NewsReel$Choice", "size", "I", false)
  | _ => ("NewsReel$Choice", "totals", "[I", true)
def tyX0 : Nat → FieldType := fun k => match k with
  | 0 => .int
  | 1 => .int
  | 2 => .int
  | _ => .array .int
abbrev wsX00 : List Cond := u_ws RX0 TX0 4
theorem nmX0 : ∀ a, a < 4 → ∀ b, b < 4 → a ≠ b → (TX0 a).2.1 ≠ (TX0 b).2.1 := by decide +kernel
theorem tyX0_ok : ∀ k, k < 4 → parseFieldDescriptor (TX0 k).2.2.1 = some (tyX0 k) := by decide +kernel
abbrev cX0_init : ByteArray := prog_2_method_1_code
def yX0_init : MethodName := ⟨RX0, "<init>", "()V"⟩
abbrev cX0_find : ByteArray := prog_2_method_2_code
def yX0_find : MethodName := ⟨RX0, "find", "(LNewsReel$Library;II)V"⟩
abbrev cX0_compare : ByteArray := prog_2_method_3_code
def yX0_compare : MethodName := ⟨RX0, "compare", "(II)V"⟩
def RX1 : String := "NewsReel$Faults"
def TX1 : u_T := fun k => match k with
  | 0 => ("NewsReel$Faults", "count", "I", false)
  | 1 => ("NewsReel$Faults", "kinds", "[I", true)
  | _ => ("NewsReel$Faults", "places", "[I", true)
def tyX1 : Nat → FieldType := fun k => match k with
  | 0 => .int
  | 1 => .array .int
  | _ => .array .int
abbrev wsX10 : List Cond := u_ws RX1 TX1 3
theorem nmX1 : ∀ a, a < 3 → ∀ b, b < 3 → a ≠ b → (TX1 a).2.1 ≠ (TX1 b).2.1 := by decide +kernel
theorem tyX1_ok : ∀ k, k < 3 → parseFieldDescriptor (TX1 k).2.2.1 = some (tyX1 k) := by decide +kernel
abbrev cX1_init : ByteArray := prog_3_method_1_code
def yX1_init : MethodName := ⟨RX1, "<init>", "()V"⟩
abbrev cX1_find : ByteArray := prog_3_method_2_code
def yX1_find : MethodName := ⟨RX1, "find", "(LNewsReel$State;LNewsReel$Pieces;LNewsReel$Speech;)V"⟩
abbrev cX1_findBanned : ByteArray := prog_3_method_3_code
def yX1_findBanned : MethodName := ⟨RX1, "findBanned", "(LNewsReel$Pieces;LNewsReel$Library;)V"⟩
abbrev cX1_findUnseenNames : ByteArray := prog_3_method_4_code
def yX1_findUnseenNames : MethodName := ⟨RX1, "findUnseenNames", "(LNewsReel$Pieces;LNewsReel$Speech;)V"⟩
abbrev cX1_findShort : ByteArray := prog_3_method_5_code
def yX1_findShort : MethodName := ⟨RX1, "findShort", "(LNewsReel$Pieces;I)V"⟩
abbrev cX1_findSameCamera : ByteArray := prog_3_method_6_code
def yX1_findSameCamera : MethodName := ⟨RX1, "findSameCamera", "(LNewsReel$Pieces;LNewsReel$Library;)V"⟩
abbrev cX1_add : ByteArray := prog_3_method_7_code
def yX1_add : MethodName := ⟨RX1, "add", "(II)V"⟩
abbrev cX1_countOf : ByteArray := prog_3_method_8_code
def yX1_countOf : MethodName := ⟨RX1, "countOf", "(I)I"⟩
def RX2 : String := "NewsReel$Items"
def TX2 : u_T := fun k => match k with
  | 0 => ("NewsReel$Items", "count", "I", false)
  | 1 => ("NewsReel$Items", "kinds", "[I", true)
  | 2 => ("NewsReel$Items", "numbers", "[I", true)
  | 3 => ("NewsReel$Items", "firsts", "[I", true)
  | 4 => ("NewsReel$Items", "lasts", "[I", true)
  | 5 => ("NewsReel$Items", "depths", "[I", true)
  | _ => ("NewsReel$Items", "timesAt", "[I", true)
def tyX2 : Nat → FieldType := fun k => match k with
  | 0 => .int
  | 1 => .array .int
  | 2 => .array .int
  | 3 => .array .int
  | 4 => .array .int
  | 5 => .array .int
  | _ => .array .int
abbrev wsX20 : List Cond := u_ws RX2 TX2 7
theorem nmX2 : ∀ a, a < 7 → ∀ b, b < 7 → a ≠ b → (TX2 a).2.1 ≠ (TX2 b).2.1 := by decide +kernel
theorem tyX2_ok : ∀ k, k < 7 → parseFieldDescriptor (TX2 k).2.2.1 = some (tyX2 k) := by decide +kernel
abbrev cX2_init : ByteArray := prog_4_method_1_code
def yX2_init : MethodName := ⟨RX2, "<init>", "()V"⟩
abbrev cX2_clear : ByteArray := prog_4_method_2_code
def yX2_clear : MethodName := ⟨RX2, "clear", "()V"⟩
abbrev cX2_copyFrom : ByteArray := prog_4_method_3_code
def yX2_copyFrom : MethodName := ⟨RX2, "copyFrom", "(LNewsReel$Items;)V"⟩
abbrev cX2_add : ByteArray := prog_4_method_4_code
def yX2_add : MethodName := ⟨RX2, "add", "(IIIII)V"⟩
abbrev cX2_addTop : ByteArray := prog_4_method_5_code
def yX2_addTop : MethodName := ⟨RX2, "addTop", "(LNewsReel$Items;I)V"⟩
abbrev cX2_topCount : ByteArray := prog_4_method_6_code
def yX2_topCount : MethodName := ⟨RX2, "topCount", "()I"⟩
abbrev cX2_topIndex : ByteArray := prog_4_method_7_code
def yX2_topIndex : MethodName := ⟨RX2, "topIndex", "(I)I"⟩
abbrev cX2_behind : ByteArray := prog_4_method_8_code
def yX2_behind : MethodName := ⟨RX2, "behind", "(I)I"⟩
abbrev cX2_isBlock : ByteArray := prog_4_method_9_code
def yX2_isBlock : MethodName := ⟨RX2, "isBlock", "(I)Z"⟩
abbrev cX2_framesOf : ByteArray := prog_4_method_10_code
def yX2_framesOf : MethodName := ⟨RX2, "framesOf", "(I)I"⟩
abbrev cX2_shorten : ByteArray := prog_4_method_11_code
def yX2_shorten : MethodName := ⟨RX2, "shorten", "(II)V"⟩
abbrev cX2_deepest : ByteArray := prog_4_method_12_code
def yX2_deepest : MethodName := ⟨RX2, "deepest", "()I"⟩
abbrev cX2_pieceCount : ByteArray := prog_4_method_13_code
def yX2_pieceCount : MethodName := ⟨RX2, "pieceCount", "()I"⟩
abbrev cX2_readFrom : ByteArray := prog_4_method_14_code
def yX2_readFrom : MethodName := ⟨RX2, "readFrom", "(LNewsReel$Text;LNewsReel$Library;)Z"⟩
abbrev cX2_readItems : ByteArray := prog_4_method_15_code
def yX2_readItems : MethodName := ⟨RX2, "readItems", "(LNewsReel$Text;LNewsReel$Library;I)Z"⟩
abbrev cX2_readItem : ByteArray := prog_4_method_16_code
def yX2_readItem : MethodName := ⟨RX2, "readItem", "(LNewsReel$Text;LNewsReel$Library;I)Z"⟩
abbrev cX2_kindTold : ByteArray := prog_4_method_17_code
def yX2_kindTold : MethodName := ⟨RX2, "kindTold", "(LNewsReel$Text;)I"⟩
abbrev cX2_readCut : ByteArray := prog_4_method_18_code
def yX2_readCut : MethodName := ⟨RX2, "readCut", "(LNewsReel$Text;LNewsReel$Library;I)Z"⟩
abbrev cX2_readMap : ByteArray := prog_4_method_19_code
def yX2_readMap : MethodName := ⟨RX2, "readMap", "(LNewsReel$Text;LNewsReel$Library;I)Z"⟩
abbrev cX2_readBlock : ByteArray := prog_4_method_20_code
def yX2_readBlock : MethodName := ⟨RX2, "readBlock", "(ILNewsReel$Text;LNewsReel$Library;I)Z"⟩
def RX3 : String := "NewsReel$Library"
def TX3 : u_T := fun k => match k with
  | 0 => ("NewsReel$Library", "shots", "I", false)
  | 1 => ("NewsReel$Library", "cameras", "[I", true)
  | 2 => ("NewsReel$Library", "lengths", "[I", true)
  | 3 => ("NewsReel$Library", "maps", "I", false)
  | 4 => ("NewsReel$Library", "names", "[B", true)
  | 5 => ("NewsReel$Library", "nameLengths", "[I", true)
  | 6 => ("NewsReel$Library", "bans", "I", false)
  | 7 => ("NewsReel$Library", "banCameras", "[I", true)
  | 8 => ("NewsReel$Library", "banFroms", "[I", true)
  | 9 => ("NewsReel$Library", "banTos", "[I", true)
  | 10 => ("NewsReel$Library", "settings", "[I", true)
  | _ => ("NewsReel$Library", "told", "[Z", true)
def tyX3 : Nat → FieldType := fun k => match k with
  | 0 => .int
  | 1 => .array .int
  | 2 => .array .int
  | 3 => .int
  | 4 => .array .byte
  | 5 => .array .int
  | 6 => .int
  | 7 => .array .int
  | 8 => .array .int
  | 9 => .array .int
  | 10 => .array .int
  | _ => .array .boolean
abbrev wsX30 : List Cond := u_ws RX3 TX3 12
theorem nmX3 : ∀ a, a < 12 → ∀ b, b < 12 → a ≠ b → (TX3 a).2.1 ≠ (TX3 b).2.1 := by decide +kernel
theorem tyX3_ok : ∀ k, k < 12 → parseFieldDescriptor (TX3 k).2.2.1 = some (tyX3 k) := by decide +kernel
abbrev cX3_init : ByteArray := prog_5_method_1_code
def yX3_init : MethodName := ⟨RX3, "<init>", "()V"⟩
abbrev cX3_copyFrom : ByteArray := prog_5_method_2_code
def yX3_copyFrom : MethodName := ⟨RX3, "copyFrom", "(LNewsReel$Library;)V"⟩
abbrev cX3_cameraOf : ByteArray := prog_5_method_3_code
def yX3_cameraOf : MethodName := ⟨RX3, "cameraOf", "(I)I"⟩
abbrev cX3_lengthOf : ByteArray := prog_5_method_4_code
def yX3_lengthOf : MethodName := ⟨RX3, "lengthOf", "(I)I"⟩
abbrev cX3_nameLengthOf : ByteArray := prog_5_method_5_code
def yX3_nameLengthOf : MethodName := ⟨RX3, "nameLengthOf", "(I)I"⟩
abbrev cX3_setting : ByteArray := prog_5_method_6_code
def yX3_setting : MethodName := ⟨RX3, "setting", "(I)I"⟩
abbrev cX3_set : ByteArray := prog_5_method_7_code
def yX3_set : MethodName := ⟨RX3, "set", "(II)V"⟩
abbrev cX3_shotsOf : ByteArray := prog_5_method_8_code
def yX3_shotsOf : MethodName := ⟨RX3, "shotsOf", "(I)I"⟩
abbrev cX3_allowedShots : ByteArray := prog_5_method_9_code
def yX3_allowedShots : MethodName := ⟨RX3, "allowedShots", "(I)I"⟩
abbrev cX3_isBanned : ByteArray := prog_5_method_10_code
def yX3_isBanned : MethodName := ⟨RX3, "isBanned", "(II)Z"⟩
abbrev cX3_mapNamed : ByteArray := prog_5_method_11_code
def yX3_mapNamed : MethodName := ⟨RX3, "mapNamed", "([BII)I"⟩
abbrev cX3_isName : ByteArray := prog_5_method_12_code
def yX3_isName : MethodName := ⟨RX3, "isName", "(I[BII)Z"⟩
abbrev cX3_readFrom : ByteArray := prog_5_method_13_code
def yX3_readFrom : MethodName := ⟨RX3, "readFrom", "(LNewsReel$Text;)Z"⟩
abbrev cX3_readStatement : ByteArray := prog_5_method_14_code
def yX3_readStatement : MethodName := ⟨RX3, "readStatement", "(LNewsReel$Text;)Z"⟩
abbrev cX3_settingTold : ByteArray := prog_5_method_15_code
def yX3_settingTold : MethodName := ⟨RX3, "settingTold", "(LNewsReel$Text;)I"⟩
abbrev cX3_readShot : ByteArray := prog_5_method_16_code
def yX3_readShot : MethodName := ⟨RX3, "readShot", "(LNewsReel$Text;)Z"⟩
abbrev cX3_readName : ByteArray := prog_5_method_17_code
def yX3_readName : MethodName := ⟨RX3, "readName", "(LNewsReel$Text;)Z"⟩
abbrev cX3_readBan : ByteArray := prog_5_method_18_code
def yX3_readBan : MethodName := ⟨RX3, "readBan", "(LNewsReel$Text;)Z"⟩
abbrev cX3_readSetting : ByteArray := prog_5_method_19_code
def yX3_readSetting : MethodName := ⟨RX3, "readSetting", "(LNewsReel$Text;I)Z"⟩
def RX4 : String := "NewsReel$Output"
def TX4 : u_T := fun k => match k with
  | 0 => ("NewsReel$Output", "bytes", "[B", true)
  | _ => ("NewsReel$Output", "length", "I", false)
def tyX4 : Nat → FieldType := fun k => match k with
  | 0 => .array .byte
  | _ => .int
abbrev wsX40 : List Cond := u_ws RX4 TX4 2
theorem nmX4 : ∀ a, a < 2 → ∀ b, b < 2 → a ≠ b → (TX4 a).2.1 ≠ (TX4 b).2.1 := by decide +kernel
theorem tyX4_ok : ∀ k, k < 2 → parseFieldDescriptor (TX4 k).2.2.1 = some (tyX4 k) := by decide +kernel
abbrev cX4_init : ByteArray := prog_6_method_1_code
def yX4_init : MethodName := ⟨RX4, "<init>", "()V"⟩
abbrev cX4_byteAt : ByteArray := prog_6_method_2_code
def yX4_byteAt : MethodName := ⟨RX4, "byteAt", "(I)I"⟩
abbrev cX4_writeItems : ByteArray := prog_6_method_3_code
def yX4_writeItems : MethodName := ⟨RX4, "writeItems", "(LNewsReel$Items;LNewsReel$Library;)V"⟩
abbrev cX4_closeBlocks : ByteArray := prog_6_method_4_code
def yX4_closeBlocks : MethodName := ⟨RX4, "closeBlocks", "(I)V"⟩
abbrev cX4_writeHead : ByteArray := prog_6_method_5_code
def yX4_writeHead : MethodName := ⟨RX4, "writeHead", "(LNewsReel$Items;I)V"⟩
abbrev cX4_writeFrames : ByteArray := prog_6_method_6_code
def yX4_writeFrames : MethodName := ⟨RX4, "writeFrames", "(LNewsReel$Items;ILNewsReel$Library;)V"⟩
abbrev cX4_writeWords : ByteArray := prog_6_method_7_code
def yX4_writeWords : MethodName := ⟨RX4, "writeWords", "(LNewsReel$Voice;)V"⟩
abbrev cX4_putText : ByteArray := prog_6_method_8_code
def yX4_putText : MethodName := ⟨RX4, "putText", "(Ljava/lang/String;)V"⟩
abbrev cX4_putNumber : ByteArray := prog_6_method_9_code
def yX4_putNumber : MethodName := ⟨RX4, "putNumber", "(I)V"⟩
abbrev cX4_put : ByteArray := prog_6_method_10_code
def yX4_put : MethodName := ⟨RX4, "put", "(I)V"⟩
def RX5 : String := "NewsReel$Pieces"
def TX5 : u_T := fun k => match k with
  | 0 => ("NewsReel$Pieces", "count", "I", false)
  | 1 => ("NewsReel$Pieces", "end", "I", false)
  | 2 => ("NewsReel$Pieces", "kinds", "[I", true)
  | 3 => ("NewsReel$Pieces", "numbers", "[I", true)
  | 4 => ("NewsReel$Pieces", "firsts", "[I", true)
  | 5 => ("NewsReel$Pieces", "frames", "[I", true)
  | 6 => ("NewsReel$Pieces", "begins", "[I", true)
  | 7 => ("NewsReel$Pieces", "overlaps", "[I", true)
  | 8 => ("NewsReel$Pieces", "mixOverlaps", "[I", true)
  | _ => ("NewsReel$Pieces", "mixesInCommon", "I", false)
def tyX5 : Nat → FieldType := fun k => match k with
  | 0 => .int
  | 1 => .int
  | 2 => .array .int
  | 3 => .array .int
  | 4 => .array .int
  | 5 => .array .int
  | 6 => .array .int
  | 7 => .array .int
  | 8 => .array .int
  | _ => .int
abbrev wsX50 : List Cond := u_ws RX5 TX5 10
theorem nmX5 : ∀ a, a < 10 → ∀ b, b < 10 → a ≠ b → (TX5 a).2.1 ≠ (TX5 b).2.1 := by decide +kernel
theorem tyX5_ok : ∀ k, k < 10 → parseFieldDescriptor (TX5 k).2.2.1 = some (tyX5 k) := by decide +kernel
abbrev cX5_init : ByteArray := prog_7_method_1_code
def yX5_init : MethodName := ⟨RX5, "<init>", "()V"⟩
abbrev cX5_cutFrom : ByteArray := prog_7_method_2_code
def yX5_cutFrom : MethodName := ⟨RX5, "cutFrom", "(LNewsReel$Items;)V"⟩
abbrev cX5_addItems : ByteArray := prog_7_method_3_code
def yX5_addItems : MethodName := ⟨RX5, "addItems", "(LNewsReel$Items;IIII)V"⟩
abbrev cX5_addItem : ByteArray := prog_7_method_4_code
def yX5_addItem : MethodName := ⟨RX5, "addItem", "(LNewsReel$Items;III)V"⟩
abbrev cX5_hasPieces : ByteArray := prog_7_method_5_code
def yX5_hasPieces : MethodName := ⟨RX5, "hasPieces", "(LNewsReel$Items;II)Z"⟩
abbrev cX5_addPiece : ByteArray := prog_7_method_6_code
def yX5_addPiece : MethodName := ⟨RX5, "addPiece", "(LNewsReel$Items;II)V"⟩
abbrev cX5_overlapOf : ByteArray := prog_7_method_7_code
def yX5_overlapOf : MethodName := ⟨RX5, "overlapOf", "(I)I"⟩
abbrev cX5_endOf : ByteArray := prog_7_method_8_code
def yX5_endOf : MethodName := ⟨RX5, "endOf", "(I)I"⟩
abbrev cX5_onScreen : ByteArray := prog_7_method_9_code
def yX5_onScreen : MethodName := ⟨RX5, "onScreen", "(I)I"⟩
abbrev cX5_framesOnScreen : ByteArray := prog_7_method_10_code
def yX5_framesOnScreen : MethodName := ⟨RX5, "framesOnScreen", "(I)I"⟩
abbrev cX5_shows : ByteArray := prog_7_method_11_code
def yX5_shows : MethodName := ⟨RX5, "shows", "(II)Z"⟩
abbrev cX5_cameraOf : ByteArray := prog_7_method_12_code
def yX5_cameraOf : MethodName := ⟨RX5, "cameraOf", "(ILNewsReel$Library;)I"⟩
abbrev cX5_countOf : ByteArray := prog_7_method_13_code
def yX5_countOf : MethodName := ⟨RX5, "countOf", "(II)I"⟩
abbrev cX5_framesOf : ByteArray := prog_7_method_14_code
def yX5_framesOf : MethodName := ⟨RX5, "framesOf", "(II)I"⟩
abbrev cX5_longest : ByteArray := prog_7_method_15_code
def yX5_longest : MethodName := ⟨RX5, "longest", "()I"⟩
abbrev cX5_allOverlaps : ByteArray := prog_7_method_16_code
def yX5_allOverlaps : MethodName := ⟨RX5, "allOverlaps", "()I"⟩
def RX6 : String := "NewsReel$Speech"
def TX6 : u_T := fun k => match k with
  | 0 => ("NewsReel$Speech", "count", "I", false)
  | 1 => ("NewsReel$Speech", "end", "I", false)
  | 2 => ("NewsReel$Speech", "begins", "[I", true)
  | 3 => ("NewsReel$Speech", "ends", "[I", true)
  | _ => ("NewsReel$Speech", "maps", "[I", true)
def tyX6 : Nat → FieldType := fun k => match k with
  | 0 => .int
  | 1 => .int
  | 2 => .array .int
  | 3 => .array .int
  | _ => .array .int
abbrev wsX60 : List Cond := u_ws RX6 TX6 5
theorem nmX6 : ∀ a, a < 5 → ∀ b, b < 5 → a ≠ b → (TX6 a).2.1 ≠ (TX6 b).2.1 := by decide +kernel
theorem tyX6_ok : ∀ k, k < 5 → parseFieldDescriptor (TX6 k).2.2.1 = some (tyX6 k) := by decide +kernel
abbrev cX6_init : ByteArray := prog_8_method_1_code
def yX6_init : MethodName := ⟨RX6, "<init>", "()V"⟩
abbrev cX6_timeFrom : ByteArray := prog_8_method_2_code
def yX6_timeFrom : MethodName := ⟨RX6, "timeFrom", "(LNewsReel$Voice;LNewsReel$Library;)V"⟩
abbrev cX6_wordAt : ByteArray := prog_8_method_3_code
def yX6_wordAt : MethodName := ⟨RX6, "wordAt", "(I)I"⟩
abbrev cX6_countOf : ByteArray := prog_8_method_4_code
def yX6_countOf : MethodName := ⟨RX6, "countOf", "(I)I"⟩
def RX7 : String := "NewsReel$State"
def TX7 : u_T := fun k => match k with
  | 0 => ("NewsReel$State", "library", "LNewsReel$Library;", true)
  | 1 => ("NewsReel$State", "voice", "LNewsReel$Voice;", true)
  | _ => ("NewsReel$State", "items", "LNewsReel$Items;", true)
def tyX7 : Nat → FieldType := fun k => match k with
  | 0 => .object "NewsReel$Library"
  | 1 => .object "NewsReel$Voice"
  | _ => .object "NewsReel$Items"
abbrev wsX70 : List Cond := u_ws RX7 TX7 3
theorem nmX7 : ∀ a, a < 3 → ∀ b, b < 3 → a ≠ b → (TX7 a).2.1 ≠ (TX7 b).2.1 := by decide +kernel
theorem tyX7_ok : ∀ k, k < 3 → parseFieldDescriptor (TX7 k).2.2.1 = some (tyX7 k) := by decide +kernel
abbrev cX7_init : ByteArray := prog_9_method_1_code
def yX7_init : MethodName := ⟨RX7, "<init>", "()V"⟩
abbrev cX7_copyFrom : ByteArray := prog_9_method_2_code
def yX7_copyFrom : MethodName := ⟨RX7, "copyFrom", "(LNewsReel$State;)V"⟩
def RX8 : String := "NewsReel$Text"
def TX8 : u_T := fun k => match k with
  | 0 => ("NewsReel$Text", "bytes", "[B", true)
  | 1 => ("NewsReel$Text", "length", "I", false)
  | 2 => ("NewsReel$Text", "kind", "I", false)
  | 3 => ("NewsReel$Text", "start", "I", false)
  | 4 => ("NewsReel$Text", "behind", "I", false)
  | 5 => ("NewsReel$Text", "value", "I", false)
  | 6 => ("NewsReel$Text", "taken", "I", false)
  | 7 => ("NewsReel$Text", "errorCode", "I", false)
  | _ => ("NewsReel$Text", "errorPosition", "I", false)
def tyX8 : Nat → FieldType := fun k => match k with
  | 0 => .array .byte
  | 1 => .int
  | 2 => .int
  | 3 => .int
  | 4 => .int
  | 5 => .int
  | 6 => .int
  | 7 => .int
  | _ => .int
abbrev wsX80 : List Cond := u_ws RX8 TX8 9
theorem nmX8 : ∀ a, a < 9 → ∀ b, b < 9 → a ≠ b → (TX8 a).2.1 ≠ (TX8 b).2.1 := by decide +kernel
theorem tyX8_ok : ∀ k, k < 9 → parseFieldDescriptor (TX8 k).2.2.1 = some (tyX8 k) := by decide +kernel
abbrev cX8_init : ByteArray := prog_10_method_1_code
def yX8_init : MethodName := ⟨RX8, "<init>", "()V"⟩
abbrev cX8_append : ByteArray := prog_10_method_2_code
def yX8_append : MethodName := ⟨RX8, "append", "(I)V"⟩
abbrev cX8_startReading : ByteArray := prog_10_method_3_code
def yX8_startReading : MethodName := ⟨RX8, "startReading", "()V"⟩
abbrev cX8_fail : ByteArray := prog_10_method_4_code
def yX8_fail : MethodName := ⟨RX8, "fail", "(I)Z"⟩
abbrev cX8_size : ByteArray := prog_10_method_5_code
def yX8_size : MethodName := ⟨RX8, "size", "()I"⟩
abbrev cX8_advance : ByteArray := prog_10_method_6_code
def yX8_advance : MethodName := ⟨RX8, "advance", "()V"⟩
abbrev cX8_isWord : ByteArray := prog_10_method_7_code
def yX8_isWord : MethodName := ⟨RX8, "isWord", "(Ljava/lang/String;)Z"⟩
abbrev cX8_take : ByteArray := prog_10_method_8_code
def yX8_take : MethodName := ⟨RX8, "take", "(I)Z"⟩
abbrev cX8_takeWord : ByteArray := prog_10_method_9_code
def yX8_takeWord : MethodName := ⟨RX8, "takeWord", "(Ljava/lang/String;)Z"⟩
abbrev cX8_takeNumber : ByteArray := prog_10_method_10_code
def yX8_takeNumber : MethodName := ⟨RX8, "takeNumber", "(II)Z"⟩
abbrev cX8_isLetter : ByteArray := prog_10_method_11_code
def yX8_isLetter : MethodName := ⟨RX8, "isLetter", "(I)Z"⟩
abbrev cX8_isDigit : ByteArray := prog_10_method_12_code
def yX8_isDigit : MethodName := ⟨RX8, "isDigit", "(I)Z"⟩
abbrev cX8_kindOfSign : ByteArray := prog_10_method_13_code
def yX8_kindOfSign : MethodName := ⟨RX8, "kindOfSign", "(I)I"⟩
def RX9 : String := "NewsReel$Voice"
def TX9 : u_T := fun k => match k with
  | 0 => ("NewsReel$Voice", "words", "I", false)
  | 1 => ("NewsReel$Voice", "letterCount", "I", false)
  | 2 => ("NewsReel$Voice", "letters", "[B", true)
  | 3 => ("NewsReel$Voice", "starts", "[I", true)
  | 4 => ("NewsReel$Voice", "sizes", "[I", true)
  | 5 => ("NewsReel$Voice", "syllables", "[I", true)
  | _ => ("NewsReel$Voice", "endsSentence", "[Z", true)
def tyX9 : Nat → FieldType := fun k => match k with
  | 0 => .int
  | 1 => .int
  | 2 => .array .byte
  | 3 => .array .int
  | 4 => .array .int
  | 5 => .array .int
  | _ => .array .boolean
abbrev wsX90 : List Cond := u_ws RX9 TX9 7
theorem nmX9 : ∀ a, a < 7 → ∀ b, b < 7 → a ≠ b → (TX9 a).2.1 ≠ (TX9 b).2.1 := by decide +kernel
theorem tyX9_ok : ∀ k, k < 7 → parseFieldDescriptor (TX9 k).2.2.1 = some (tyX9 k) := by decide +kernel
abbrev cX9_init : ByteArray := prog_11_method_1_code
def yX9_init : MethodName := ⟨RX9, "<init>", "()V"⟩
abbrev cX9_clear : ByteArray := prog_11_method_2_code
def yX9_clear : MethodName := ⟨RX9, "clear", "()V"⟩
abbrev cX9_copyFrom : ByteArray := prog_11_method_3_code
def yX9_copyFrom : MethodName := ⟨RX9, "copyFrom", "(LNewsReel$Voice;)V"⟩
abbrev cX9_allSyllables : ByteArray := prog_11_method_4_code
def yX9_allSyllables : MethodName := ⟨RX9, "allSyllables", "()I"⟩
abbrev cX9_sentences : ByteArray := prog_11_method_5_code
def yX9_sentences : MethodName := ⟨RX9, "sentences", "()I"⟩
abbrev cX9_sentenceOf : ByteArray := prog_11_method_6_code
def yX9_sentenceOf : MethodName := ⟨RX9, "sentenceOf", "(I)I"⟩
abbrev cX9_endAt : ByteArray := prog_11_method_7_code
def yX9_endAt : MethodName := ⟨RX9, "endAt", "(II)I"⟩
abbrev cX9_readFrom : ByteArray := prog_11_method_8_code
def yX9_readFrom : MethodName := ⟨RX9, "readFrom", "(LNewsReel$Text;)Z"⟩
abbrev cX9_readWord : ByteArray := prog_11_method_9_code
def yX9_readWord : MethodName := ⟨RX9, "readWord", "(LNewsReel$Text;)Z"⟩
abbrev cX9_syllablesOf : ByteArray := prog_11_method_10_code
def yX9_syllablesOf : MethodName := ⟨RX9, "syllablesOf", "(II)I"⟩
abbrev cX9_isVowel : ByteArray := prog_11_method_11_code
def yX9_isVowel : MethodName := ⟨RX9, "isVowel", "(I)Z"⟩
def RX10 : String := "NewsReel"
def TX10 : u_T := fun k => match k with
  | 0 => ("NewsReel", "text", "LNewsReel$Text;", true)
  | 1 => ("NewsReel", "written", "LNewsReel$Output;", true)
  | 2 => ("NewsReel", "state", "LNewsReel$State;", true)
  | 3 => ("NewsReel", "draft", "LNewsReel$State;", true)
  | 4 => ("NewsReel", "past", "[LNewsReel$State;", true)
  | 5 => ("NewsReel", "pastCount", "I", false)
  | 6 => ("NewsReel", "pastNext", "I", false)
  | 7 => ("NewsReel", "saved", "[LNewsReel$State;", true)
  | 8 => ("NewsReel", "isSaved", "[Z", true)
  | 9 => ("NewsReel", "pieces", "LNewsReel$Pieces;", true)
  | 10 => ("NewsReel", "speech", "LNewsReel$Speech;", true)
  | 11 => ("NewsReel", "found", "LNewsReel$Faults;", true)
  | 12 => ("NewsReel", "choice", "LNewsReel$Choice;", true)
  | _ => ("NewsReel", "accounts", "[I", true)
def tyX10 : Nat → FieldType := fun k => match k with
  | 0 => .object "NewsReel$Text"
  | 1 => .object "NewsReel$Output"
  | 2 => .object "NewsReel$State"
  | 3 => .object "NewsReel$State"
  | 4 => .array (.object "NewsReel$State")
  | 5 => .int
  | 6 => .int
  | 7 => .array (.object "NewsReel$State")
  | 8 => .array .boolean
  | 9 => .object "NewsReel$Pieces"
  | 10 => .object "NewsReel$Speech"
  | 11 => .object "NewsReel$Faults"
  | 12 => .object "NewsReel$Choice"
  | _ => .array .int
abbrev wsX100 : List Cond := u_ws RX10 TX10 14
theorem nmX10 : ∀ a, a < 14 → ∀ b, b < 14 → a ≠ b → (TX10 a).2.1 ≠ (TX10 b).2.1 := by decide +kernel
theorem tyX10_ok : ∀ k, k < 14 → parseFieldDescriptor (TX10 k).2.2.1 = some (tyX10 k) := by decide +kernel
abbrev cX10_init : ByteArray := prog_1_method_1_code
def yX10_init : MethodName := ⟨RX10, "<init>", "()V"⟩
abbrev cX10_appendText : ByteArray := prog_1_method_2_code
def yX10_appendText : MethodName := ⟨RX10, "appendText", "(I)I"⟩
abbrev cX10_truncateText : ByteArray := prog_1_method_3_code
def yX10_truncateText : MethodName := ⟨RX10, "truncateText", "(I)I"⟩
abbrev cX10_load : ByteArray := prog_1_method_4_code
def yX10_load : MethodName := ⟨RX10, "load", "()I"⟩
abbrev cX10_errorCode : ByteArray := prog_1_method_5_code
def yX10_errorCode : MethodName := ⟨RX10, "errorCode", "()I"⟩
abbrev cX10_errorPosition : ByteArray := prog_1_method_6_code
def yX10_errorPosition : MethodName := ⟨RX10, "errorPosition", "()I"⟩
abbrev cX10_count : ByteArray := prog_1_method_7_code
def yX10_count : MethodName := ⟨RX10, "count", "(I)I"⟩
abbrev cX10_shot : ByteArray := prog_1_method_8_code
def yX10_shot : MethodName := ⟨RX10, "shot", "(II)I"⟩
abbrev cX10_map : ByteArray := prog_1_method_9_code
def yX10_map : MethodName := ⟨RX10, "map", "(II)I"⟩
abbrev cX10_ban : ByteArray := prog_1_method_10_code
def yX10_ban : MethodName := ⟨RX10, "ban", "(II)I"⟩
abbrev cX10_word : ByteArray := prog_1_method_11_code
def yX10_word : MethodName := ⟨RX10, "word", "(II)I"⟩
abbrev cX10_piece : ByteArray := prog_1_method_12_code
def yX10_piece : MethodName := ⟨RX10, "piece", "(II)I"⟩
abbrev cX10_reel : ByteArray := prog_1_method_13_code
def yX10_reel : MethodName := ⟨RX10, "reel", "(I)I"⟩
abbrev cX10_screen : ByteArray := prog_1_method_14_code
def yX10_screen : MethodName := ⟨RX10, "screen", "(I)I"⟩
abbrev cX10_spoken : ByteArray := prog_1_method_15_code
def yX10_spoken : MethodName := ⟨RX10, "spoken", "(I)I"⟩
abbrev cX10_account : ByteArray := prog_1_method_16_code
def yX10_account : MethodName := ⟨RX10, "account", "(I)I"⟩
abbrev cX10_faults : ByteArray := prog_1_method_17_code
def yX10_faults : MethodName := ⟨RX10, "faults", "(I)I"⟩
abbrev cX10_fault : ByteArray := prog_1_method_18_code
def yX10_fault : MethodName := ⟨RX10, "fault", "(II)I"⟩
abbrev cX10_fits : ByteArray := prog_1_method_19_code
def yX10_fits : MethodName := ⟨RX10, "fits", "()Z"⟩
abbrev cX10_share : ByteArray := prog_1_method_20_code
def yX10_share : MethodName := ⟨RX10, "share", "(I)D"⟩
abbrev cX10_pace : ByteArray := prog_1_method_21_code
def yX10_pace : MethodName := ⟨RX10, "pace", "()F"⟩
abbrev cX10_best : ByteArray := prog_1_method_22_code
def yX10_best : MethodName := ⟨RX10, "best", "(I)I"⟩
abbrev cX10_bestWeek : ByteArray := prog_1_method_23_code
def yX10_bestWeek : MethodName := ⟨RX10, "bestWeek", "()I"⟩
abbrev cX10_bestSpeed : ByteArray := prog_1_method_24_code
def yX10_bestSpeed : MethodName := ⟨RX10, "bestSpeed", "()I"⟩
abbrev cX10_edit : ByteArray := prog_1_method_25_code
def yX10_edit : MethodName := ⟨RX10, "edit", "()I"⟩
abbrev cX10_say : ByteArray := prog_1_method_26_code
def yX10_say : MethodName := ⟨RX10, "say", "()I"⟩
abbrev cX10_assemble : ByteArray := prog_1_method_27_code
def yX10_assemble : MethodName := ⟨RX10, "assemble", "()I"⟩
abbrev cX10_insert : ByteArray := prog_1_method_28_code
def yX10_insert : MethodName := ⟨RX10, "insert", "(III)I"⟩
abbrev cX10_trim : ByteArray := prog_1_method_29_code
def yX10_trim : MethodName := ⟨RX10, "trim", "(II)I"⟩
abbrev cX10_remove : ByteArray := prog_1_method_30_code
def yX10_remove : MethodName := ⟨RX10, "remove", "(I)I"⟩
abbrev cX10_move : ByteArray := prog_1_method_31_code
def yX10_move : MethodName := ⟨RX10, "move", "(II)I"⟩
abbrev cX10_setWeek : ByteArray := prog_1_method_32_code
def yX10_setWeek : MethodName := ⟨RX10, "setWeek", "(I)I"⟩
abbrev cX10_setVoice : ByteArray := prog_1_method_33_code
def yX10_setVoice : MethodName := ⟨RX10, "setVoice", "(II)I"⟩
abbrev cX10_setSlack : ByteArray := prog_1_method_34_code
def yX10_setSlack : MethodName := ⟨RX10, "setSlack", "(I)I"⟩
abbrev cX10_writeReel : ByteArray := prog_1_method_35_code
def yX10_writeReel : MethodName := ⟨RX10, "writeReel", "()I"⟩
abbrev cX10_writeVoice : ByteArray := prog_1_method_36_code
def yX10_writeVoice : MethodName := ⟨RX10, "writeVoice", "()I"⟩
abbrev cX10_output : ByteArray := prog_1_method_37_code
def yX10_output : MethodName := ⟨RX10, "output", "(I)I"⟩
abbrev cX10_undo : ByteArray := prog_1_method_38_code
def yX10_undo : MethodName := ⟨RX10, "undo", "()I"⟩
abbrev cX10_save : ByteArray := prog_1_method_39_code
def yX10_save : MethodName := ⟨RX10, "save", "(I)V"⟩
abbrev cX10_restore : ByteArray := prog_1_method_40_code
def yX10_restore : MethodName := ⟨RX10, "restore", "(I)V"⟩
abbrev cX10_requireIndex : ByteArray := prog_1_method_41_code
def yX10_requireIndex : MethodName := ⟨RX10, "requireIndex", "(II)V"⟩
abbrev cX10_requireRange : ByteArray := prog_1_method_42_code
def yX10_requireRange : MethodName := ⟨RX10, "requireRange", "(III)V"⟩
abbrev cX10_requireSetting : ByteArray := prog_1_method_43_code
def yX10_requireSetting : MethodName := ⟨RX10, "requireSetting", "(II)V"⟩
abbrev cX10_refuse : ByteArray := prog_1_method_44_code
def yX10_refuse : MethodName := ⟨RX10, "refuse", "(I)I"⟩
abbrev cX10_remember : ByteArray := prog_1_method_45_code
def yX10_remember : MethodName := ⟨RX10, "remember", "()V"⟩
abbrev cX10_forgetActs : ByteArray := prog_1_method_46_code
def yX10_forgetActs : MethodName := ⟨RX10, "forgetActs", "()V"⟩
abbrev cX10_settle : ByteArray := prog_1_method_47_code
def yX10_settle : MethodName := ⟨RX10, "settle", "()V"⟩
abbrev cX10_takeDraftItems : ByteArray := prog_1_method_48_code
def yX10_takeDraftItems : MethodName := ⟨RX10, "takeDraftItems", "()I"⟩
abbrev cX10_topMovedTo : ByteArray := prog_1_method_49_code
def yX10_topMovedTo : MethodName := ⟨RX10, "topMovedTo", "(III)I"⟩
abbrev cX10_isBanned : ByteArray := prog_1_method_50_code
def yX10_isBanned : MethodName := ⟨RX10, "isBanned", "(I)Z"⟩
abbrev cX10_shownWords : ByteArray := prog_1_method_51_code
def yX10_shownWords : MethodName := ⟨RX10, "shownWords", "(I)I"⟩
abbrev cX10_findChoice : ByteArray := prog_1_method_52_code
def yX10_findChoice : MethodName := ⟨RX10, "findChoice", "(I)V"⟩
abbrev cX10_gapAtSpeed : ByteArray := prog_1_method_53_code
def yX10_gapAtSpeed : MethodName := ⟨RX10, "gapAtSpeed", "(I)I"⟩
def RX11 : String := "NewsReelModel"
def TX11 : u_T := fun k => match k with
  | 0 => ("NewsReelModel", "s", "[I", true)
  | 1 => ("NewsReelModel", "aside", "[I", true)
  | 2 => ("NewsReelModel", "past", "[I", true)
  | 3 => ("NewsReelModel", "saved", "[I", true)
  | 4 => ("NewsReelModel", "accounts", "[I", true)
  | 5 => ("NewsReelModel", "isSaved", "[Z", true)
  | 6 => ("NewsReelModel", "undos", "I", false)
  | 7 => ("NewsReelModel", "thrown", "I", false)
  | 8 => ("NewsReelModel", "pieceKind", "[I", true)
  | 9 => ("NewsReelModel", "pieceNumber", "[I", true)
  | 10 => ("NewsReelModel", "pieceFirst", "[I", true)
  | 11 => ("NewsReelModel", "pieceFrames", "[I", true)
  | 12 => ("NewsReelModel", "pieceBegin", "[I", true)
  | 13 => ("NewsReelModel", "pieceOverlap", "[I", true)
  | 14 => ("NewsReelModel", "mixes", "[I", true)
  | 15 => ("NewsReelModel", "mixId", "[I", true)
  | 16 => ("NewsReelModel", "mixOverlap", "[I", true)
  | 17 => ("NewsReelModel", "pieces", "I", false)
  | 18 => ("NewsReelModel", "openAt", "[I", true)
  | 19 => ("NewsReelModel", "openLeft", "[I", true)
  | 20 => ("NewsReelModel", "openId", "[I", true)
  | 21 => ("NewsReelModel", "open", "I", false)
  | 22 => ("NewsReelModel", "doings", "I", false)
  | 23 => ("NewsReelModel", "wordBegin", "[I", true)
  | 24 => ("NewsReelModel", "wordEnd", "[I", true)
  | 25 => ("NewsReelModel", "sums", "[I", true)
  | 26 => ("NewsReelModel", "bestSet", "I", false)
  | 27 => ("NewsReelModel", "bestWaste", "I", false)
  | 28 => ("NewsReelModel", "text", "[I", true)
  | 29 => ("NewsReelModel", "length", "I", false)
  | 30 => ("NewsReelModel", "at", "I", false)
  | 31 => ("NewsReelModel", "start", "I", false)
  | 32 => ("NewsReelModel", "token", "I", false)
  | 33 => ("NewsReelModel", "number", "I", false)
  | 34 => ("NewsReelModel", "error", "I", false)
  | 35 => ("NewsReelModel", "errorAt", "I", false)
  | 36 => ("NewsReelModel", "errorTold", "I", false)
  | 37 => ("NewsReelModel", "placeTold", "I", false)
  | 38 => ("NewsReelModel", "told", "I", false)
  | 39 => ("NewsReelModel", "made", "[I", true)
  | 40 => ("NewsReelModel", "madeMany", "I", false)
  | 41 => ("NewsReelModel", "madeItems", "I", false)
  | 42 => ("NewsReelModel", "blocks", "I", false)
  | 43 => ("NewsReelModel", "madeLetters", "[I", true)
  | 44 => ("NewsReelModel", "madeFrom", "[I", true)
  | 45 => ("NewsReelModel", "madeLong", "[I", true)
  | 46 => ("NewsReelModel", "madeLast", "[I", true)
  | 47 => ("NewsReelModel", "letterMany", "I", false)
  | 48 => ("NewsReelModel", "wordMany", "I", false)
  | 49 => ("NewsReelModel", "taken", "[I", true)
  | 50 => ("NewsReelModel", "written", "[I", true)
  | _ => ("NewsReelModel", "writtenMany", "I", false)
def tyX11 : Nat → FieldType := fun k => match k with
  | 0 => .array .int
  | 1 => .array .int
  | 2 => .array .int
  | 3 => .array .int
  | 4 => .array .int
  | 5 => .array .boolean
  | 6 => .int
  | 7 => .int
  | 8 => .array .int
  | 9 => .array .int
  | 10 => .array .int
  | 11 => .array .int
  | 12 => .array .int
  | 13 => .array .int
  | 14 => .array .int
  | 15 => .array .int
  | 16 => .array .int
  | 17 => .int
  | 18 => .array .int
  | 19 => .array .int
  | 20 => .array .int
  | 21 => .int
  | 22 => .int
  | 23 => .array .int
  | 24 => .array .int
  | 25 => .array .int
  | 26 => .int
  | 27 => .int
  | 28 => .array .int
  | 29 => .int
  | 30 => .int
  | 31 => .int
  | 32 => .int
  | 33 => .int
  | 34 => .int
  | 35 => .int
  | 36 => .int
  | 37 => .int
  | 38 => .int
  | 39 => .array .int
  | 40 => .int
  | 41 => .int
  | 42 => .int
  | 43 => .array .int
  | 44 => .array .int
  | 45 => .array .int
  | 46 => .array .int
  | 47 => .int
  | 48 => .int
  | 49 => .array .int
  | 50 => .array .int
  | _ => .int
abbrev wsX110 : List Cond := u_ws RX11 TX11 52
theorem nmX11 : ∀ a, a < 52 → ∀ b, b < 52 → a ≠ b → (TX11 a).2.1 ≠ (TX11 b).2.1 := by decide +kernel
theorem tyX11_ok : ∀ k, k < 52 → parseFieldDescriptor (TX11 k).2.2.1 = some (tyX11 k) := by decide +kernel
abbrev cX11_init : ByteArray := prog_13_method_1_code
def yX11_init : MethodName := ⟨RX11, "<init>", "()V"⟩
abbrev cX11_thrown : ByteArray := prog_13_method_2_code
def yX11_thrown : MethodName := ⟨RX11, "thrown", "()I"⟩
abbrev cX11_isIn : ByteArray := prog_13_method_3_code
def yX11_isIn : MethodName := ⟨RX11, "isIn", "(III)Z"⟩
abbrev cX11_bit : ByteArray := prog_13_method_4_code
def yX11_bit : MethodName := ⟨RX11, "bit", "(Z)I"⟩
abbrev cX11_bits : ByteArray := prog_13_method_5_code
def yX11_bits : MethodName := ⟨RX11, "bits", "(I)I"⟩
abbrev cX11_goes : ByteArray := prog_13_method_6_code
def yX11_goes : MethodName := ⟨RX11, "goes", "(Z)Z"⟩
abbrev cX11_goesBoth : ByteArray := prog_13_method_7_code
def yX11_goesBoth : MethodName := ⟨RX11, "goesBoth", "(ZZ)Z"⟩
abbrev cX11_clears : ByteArray := prog_13_method_8_code
def yX11_clears : MethodName := ⟨RX11, "clears", "()V"⟩
abbrev cX11_copies : ByteArray := prog_13_method_9_code
def yX11_copies : MethodName := ⟨RX11, "copies", "([II[II)V"⟩
abbrev cX11_cameraOf : ByteArray := prog_13_method_10_code
def yX11_cameraOf : MethodName := ⟨RX11, "cameraOf", "(I)I"⟩
abbrev cX11_lengthOf : ByteArray := prog_13_method_11_code
def yX11_lengthOf : MethodName := ⟨RX11, "lengthOf", "(I)I"⟩
abbrev cX11_isBannedIn : ByteArray := prog_13_method_12_code
def yX11_isBannedIn : MethodName := ⟨RX11, "isBannedIn", "(II)Z"⟩
abbrev cX11_isBanned : ByteArray := prog_13_method_13_code
def yX11_isBanned : MethodName := ⟨RX11, "isBanned", "(I)Z"⟩
abbrev cX11_r : ByteArray := prog_13_method_14_code
def yX11_r : MethodName := ⟨RX11, "r", "(II)I"⟩
abbrev cX11_lays : ByteArray := prog_13_method_15_code
def yX11_lays : MethodName := ⟨RX11, "lays", "(IIIII)V"⟩
abbrev cX11_opens : ByteArray := prog_13_method_16_code
def yX11_opens : MethodName := ⟨RX11, "opens", "(IIZ)V"⟩
abbrev cX11_addsPiece : ByteArray := prog_13_method_17_code
def yX11_addsPiece : MethodName := ⟨RX11, "addsPiece", "(I)V"⟩
abbrev cX11_commonOverlap : ByteArray := prog_13_method_18_code
def yX11_commonOverlap : MethodName := ⟨RX11, "commonOverlap", "(I)I"⟩
abbrev cX11_closes : ByteArray := prog_13_method_19_code
def yX11_closes : MethodName := ⟨RX11, "closes", "(I)I"⟩
abbrev cX11_goesThrough : ByteArray := prog_13_method_20_code
def yX11_goesThrough : MethodName := ⟨RX11, "goesThrough", "(I)I"⟩
abbrev cX11_laysPieces : ByteArray := prog_13_method_21_code
def yX11_laysPieces : MethodName := ⟨RX11, "laysPieces", "()V"⟩
abbrev cX11_endOf : ByteArray := prog_13_method_22_code
def yX11_endOf : MethodName := ⟨RX11, "endOf", "(I)I"⟩
abbrev cX11_theEnd : ByteArray := prog_13_method_23_code
def yX11_theEnd : MethodName := ⟨RX11, "theEnd", "()I"⟩
abbrev cX11_screenIn : ByteArray := prog_13_method_24_code
def yX11_screenIn : MethodName := ⟨RX11, "screenIn", "(I)I"⟩
abbrev cX11_w : ByteArray := prog_13_method_25_code
def yX11_w : MethodName := ⟨RX11, "w", "(II)I"⟩
abbrev cX11_letter : ByteArray := prog_13_method_26_code
def yX11_letter : MethodName := ⟨RX11, "letter", "(II)I"⟩
abbrev cX11_isVowel : ByteArray := prog_13_method_27_code
def yX11_isVowel : MethodName := ⟨RX11, "isVowel", "(I)Z"⟩
abbrev cX11_syllables : ByteArray := prog_13_method_28_code
def yX11_syllables : MethodName := ⟨RX11, "syllables", "(I)I"⟩
abbrev cX11_allSyllables : ByteArray := prog_13_method_29_code
def yX11_allSyllables : MethodName := ⟨RX11, "allSyllables", "()I"⟩
abbrev cX11_sentencesAhead : ByteArray := prog_13_method_30_code
def yX11_sentencesAhead : MethodName := ⟨RX11, "sentencesAhead", "(I)I"⟩
abbrev cX11_laysWords : ByteArray := prog_13_method_31_code
def yX11_laysWords : MethodName := ⟨RX11, "laysWords", "()I"⟩
abbrev cX11_isNamed : ByteArray := prog_13_method_32_code
def yX11_isNamed : MethodName := ⟨RX11, "isNamed", "(II)Z"⟩
abbrev cX11_mapOf : ByteArray := prog_13_method_33_code
def yX11_mapOf : MethodName := ⟨RX11, "mapOf", "(I)I"⟩
abbrev cX11_isShown : ByteArray := prog_13_method_34_code
def yX11_isShown : MethodName := ⟨RX11, "isShown", "(II)Z"⟩
abbrev cX11_candidates : ByteArray := prog_13_method_35_code
def yX11_candidates : MethodName := ⟨RX11, "candidates", "(I)I"⟩
abbrev cX11_isShot : ByteArray := prog_13_method_36_code
def yX11_isShot : MethodName := ⟨RX11, "isShot", "(I)Z"⟩
abbrev cX11_isFault : ByteArray := prog_13_method_37_code
def yX11_isFault : MethodName := ⟨RX11, "isFault", "(III)Z"⟩
abbrev cX11_faultsOf : ByteArray := prog_13_method_38_code
def yX11_faultsOf : MethodName := ⟨RX11, "faultsOf", "(II)I"⟩
abbrev cX11_allFaults : ByteArray := prog_13_method_39_code
def yX11_allFaults : MethodName := ⟨RX11, "allFaults", "()I"⟩
abbrev cX11_laysSums : ByteArray := prog_13_method_40_code
def yX11_laysSums : MethodName := ⟨RX11, "laysSums", "()V"⟩
abbrev cX11_bannedIn : ByteArray := prog_13_method_41_code
def yX11_bannedIn : MethodName := ⟨RX11, "bannedIn", "(I)I"⟩
abbrev cX11_isBetter : ByteArray := prog_13_method_42_code
def yX11_isBetter : MethodName := ⟨RX11, "isBetter", "(II)Z"⟩
abbrev cX11_chooses : ByteArray := prog_13_method_43_code
def yX11_chooses : MethodName := ⟨RX11, "chooses", "(II)Z"⟩
abbrev cX11_appendText : ByteArray := prog_13_method_44_code
def yX11_appendText : MethodName := ⟨RX11, "appendText", "(I)I"⟩
abbrev cX11_truncateText : ByteArray := prog_13_method_45_code
def yX11_truncateText : MethodName := ⟨RX11, "truncateText", "(I)I"⟩
abbrev cX11_errorCode : ByteArray := prog_13_method_46_code
def yX11_errorCode : MethodName := ⟨RX11, "errorCode", "()I"⟩
abbrev cX11_errorPosition : ByteArray := prog_13_method_47_code
def yX11_errorPosition : MethodName := ⟨RX11, "errorPosition", "()I"⟩
abbrev cX11_byteAt : ByteArray := prog_13_method_48_code
def yX11_byteAt : MethodName := ⟨RX11, "byteAt", "(I)I"⟩
abbrev cX11_isLetter : ByteArray := prog_13_method_49_code
def yX11_isLetter : MethodName := ⟨RX11, "isLetter", "(I)Z"⟩
abbrev cX11_isDigit : ByteArray := prog_13_method_50_code
def yX11_isDigit : MethodName := ⟨RX11, "isDigit", "(I)Z"⟩
abbrev cX11_isSymbol : ByteArray := prog_13_method_51_code
def yX11_isSymbol : MethodName := ⟨RX11, "isSymbol", "(I)Z"⟩
abbrev cX11_scans : ByteArray := prog_13_method_52_code
def yX11_scans : MethodName := ⟨RX11, "scans", "()V"⟩
abbrev cX11_fails : ByteArray := prog_13_method_53_code
def yX11_fails : MethodName := ⟨RX11, "fails", "(I)V"⟩
abbrev cX11_isGood : ByteArray := prog_13_method_54_code
def yX11_isGood : MethodName := ⟨RX11, "isGood", "()Z"⟩
abbrev cX11_goesOn : ByteArray := prog_13_method_55_code
def yX11_goesOn : MethodName := ⟨RX11, "goesOn", "()V"⟩
abbrev cX11_isWord : ByteArray := prog_13_method_56_code
def yX11_isWord : MethodName := ⟨RX11, "isWord", "(Ljava/lang/String;)Z"⟩
abbrev cX11_isSign : ByteArray := prog_13_method_57_code
def yX11_isSign : MethodName := ⟨RX11, "isSign", "(I)Z"⟩
abbrev cX11_needsSign : ByteArray := prog_13_method_58_code
def yX11_needsSign : MethodName := ⟨RX11, "needsSign", "(I)V"⟩
abbrev cX11_needs : ByteArray := prog_13_method_59_code
def yX11_needs : MethodName := ⟨RX11, "needs", "(Ljava/lang/String;)V"⟩
abbrev cX11_reads : ByteArray := prog_13_method_60_code
def yX11_reads : MethodName := ⟨RX11, "reads", "(II)I"⟩
abbrev cX11_beginsText : ByteArray := prog_13_method_61_code
def yX11_beginsText : MethodName := ⟨RX11, "beginsText", "()V"⟩
abbrev cX11_endsText : ByteArray := prog_13_method_62_code
def yX11_endsText : MethodName := ⟨RX11, "endsText", "()V"⟩
abbrev cX11_readsValue : ByteArray := prog_13_method_63_code
def yX11_readsValue : MethodName := ⟨RX11, "readsValue", "(III)V"⟩
abbrev cX11_readsShot : ByteArray := prog_13_method_64_code
def yX11_readsShot : MethodName := ⟨RX11, "readsShot", "()V"⟩
abbrev cX11_isTold : ByteArray := prog_13_method_65_code
def yX11_isTold : MethodName := ⟨RX11, "isTold", "(I)Z"⟩
abbrev cX11_readsMap : ByteArray := prog_13_method_66_code
def yX11_readsMap : MethodName := ⟨RX11, "readsMap", "()V"⟩
abbrev cX11_readsBan : ByteArray := prog_13_method_67_code
def yX11_readsBan : MethodName := ⟨RX11, "readsBan", "()V"⟩
abbrev cX11_readsStatement : ByteArray := prog_13_method_68_code
def yX11_readsStatement : MethodName := ⟨RX11, "readsStatement", "()V"⟩
abbrev cX11_load : ByteArray := prog_13_method_69_code
def yX11_load : MethodName := ⟨RX11, "load", "()I"⟩
abbrev cX11_makes : ByteArray := prog_13_method_70_code
def yX11_makes : MethodName := ⟨RX11, "makes", "(IIII)V"⟩
abbrev cX11_readsCut : ByteArray := prog_13_method_71_code
def yX11_readsCut : MethodName := ⟨RX11, "readsCut", "()V"⟩
abbrev cX11_readsHeld : ByteArray := prog_13_method_72_code
def yX11_readsHeld : MethodName := ⟨RX11, "readsHeld", "()V"⟩
abbrev cX11_readsBlock : ByteArray := prog_13_method_73_code
def yX11_readsBlock : MethodName := ⟨RX11, "readsBlock", "(III)V"⟩
abbrev cX11_readsItem : ByteArray := prog_13_method_74_code
def yX11_readsItem : MethodName := ⟨RX11, "readsItem", "()V"⟩
abbrev cX11_readsReel : ByteArray := prog_13_method_75_code
def yX11_readsReel : MethodName := ⟨RX11, "readsReel", "()V"⟩
abbrev cX11_takesReel : ByteArray := prog_13_method_76_code
def yX11_takesReel : MethodName := ⟨RX11, "takesReel", "()V"⟩
abbrev cX11_readsWord : ByteArray := prog_13_method_77_code
def yX11_readsWord : MethodName := ⟨RX11, "readsWord", "()V"⟩
abbrev cX11_readsSentence : ByteArray := prog_13_method_78_code
def yX11_readsSentence : MethodName := ⟨RX11, "readsSentence", "()V"⟩
abbrev cX11_readsVoice : ByteArray := prog_13_method_79_code
def yX11_readsVoice : MethodName := ⟨RX11, "readsVoice", "()V"⟩
abbrev cX11_takesVoice : ByteArray := prog_13_method_80_code
def yX11_takesVoice : MethodName := ⟨RX11, "takesVoice", "()V"⟩
abbrev cX11_behind : ByteArray := prog_13_method_81_code
def yX11_behind : MethodName := ⟨RX11, "behind", "(I)I"⟩
abbrev cX11_itemMany : ByteArray := prog_13_method_82_code
def yX11_itemMany : MethodName := ⟨RX11, "itemMany", "()I"⟩
abbrev cX11_allItems : ByteArray := prog_13_method_83_code
def yX11_allItems : MethodName := ⟨RX11, "allItems", "()I"⟩
abbrev cX11_rowOf : ByteArray := prog_13_method_84_code
def yX11_rowOf : MethodName := ⟨RX11, "rowOf", "(I)I"⟩
abbrev cX11_deepest : ByteArray := prog_13_method_85_code
def yX11_deepest : MethodName := ⟨RX11, "deepest", "()I"⟩
abbrev cX11_shiftsBack : ByteArray := prog_13_method_86_code
def yX11_shiftsBack : MethodName := ⟨RX11, "shiftsBack", "(II)V"⟩
abbrev cX11_shiftsFront : ByteArray := prog_13_method_87_code
def yX11_shiftsFront : MethodName := ⟨RX11, "shiftsFront", "(II)V"⟩
abbrev cX11_count : ByteArray := prog_13_method_88_code
def yX11_count : MethodName := ⟨RX11, "count", "(I)I"⟩
abbrev cX11_isShotThere : ByteArray := prog_13_method_89_code
def yX11_isShotThere : MethodName := ⟨RX11, "isShotThere", "(I)Z"⟩
abbrev cX11_piecesOf : ByteArray := prog_13_method_90_code
def yX11_piecesOf : MethodName := ⟨RX11, "piecesOf", "(IIZ)I"⟩
abbrev cX11_shot : ByteArray := prog_13_method_91_code
def yX11_shot : MethodName := ⟨RX11, "shot", "(II)I"⟩
abbrev cX11_isMap : ByteArray := prog_13_method_92_code
def yX11_isMap : MethodName := ⟨RX11, "isMap", "(I)Z"⟩
abbrev cX11_namedBy : ByteArray := prog_13_method_93_code
def yX11_namedBy : MethodName := ⟨RX11, "namedBy", "(IZ)I"⟩
abbrev cX11_map : ByteArray := prog_13_method_94_code
def yX11_map : MethodName := ⟨RX11, "map", "(II)I"⟩
abbrev cX11_shotsBy : ByteArray := prog_13_method_95_code
def yX11_shotsBy : MethodName := ⟨RX11, "shotsBy", "(I)I"⟩
abbrev cX11_ban : ByteArray := prog_13_method_96_code
def yX11_ban : MethodName := ⟨RX11, "ban", "(II)I"⟩
abbrev cX11_word : ByteArray := prog_13_method_97_code
def yX11_word : MethodName := ⟨RX11, "word", "(II)I"⟩
abbrev cX11_piece : ByteArray := prog_13_method_98_code
def yX11_piece : MethodName := ⟨RX11, "piece", "(II)I"⟩
abbrev cX11_longest : ByteArray := prog_13_method_99_code
def yX11_longest : MethodName := ⟨RX11, "longest", "()I"⟩
abbrev cX11_overlaps : ByteArray := prog_13_method_100_code
def yX11_overlaps : MethodName := ⟨RX11, "overlaps", "()I"⟩
abbrev cX11_reel : ByteArray := prog_13_method_101_code
def yX11_reel : MethodName := ⟨RX11, "reel", "(I)I"⟩
abbrev cX11_screen : ByteArray := prog_13_method_102_code
def yX11_screen : MethodName := ⟨RX11, "screen", "(I)I"⟩
abbrev cX11_spoken : ByteArray := prog_13_method_103_code
def yX11_spoken : MethodName := ⟨RX11, "spoken", "(I)I"⟩
abbrev cX11_account : ByteArray := prog_13_method_104_code
def yX11_account : MethodName := ⟨RX11, "account", "(I)I"⟩
abbrev cX11_faults : ByteArray := prog_13_method_105_code
def yX11_faults : MethodName := ⟨RX11, "faults", "(I)I"⟩
abbrev cX11_fault : ByteArray := prog_13_method_106_code
def yX11_fault : MethodName := ⟨RX11, "fault", "(II)I"⟩
abbrev cX11_fits : ByteArray := prog_13_method_107_code
def yX11_fits : MethodName := ⟨RX11, "fits", "()Z"⟩
abbrev cX11_isBy : ByteArray := prog_13_method_108_code
def yX11_isBy : MethodName := ⟨RX11, "isBy", "(II)Z"⟩
abbrev cX11_share : ByteArray := prog_13_method_109_code
def yX11_share : MethodName := ⟨RX11, "share", "(I)D"⟩
abbrev cX11_pace : ByteArray := prog_13_method_110_code
def yX11_pace : MethodName := ⟨RX11, "pace", "()F"⟩
abbrev cX11_best : ByteArray := prog_13_method_111_code
def yX11_best : MethodName := ⟨RX11, "best", "(I)I"⟩
abbrev cX11_bestWeek : ByteArray := prog_13_method_112_code
def yX11_bestWeek : MethodName := ⟨RX11, "bestWeek", "()I"⟩
abbrev cX11_bestSpeed : ByteArray := prog_13_method_113_code
def yX11_bestSpeed : MethodName := ⟨RX11, "bestSpeed", "()I"⟩
abbrev cX11_begins : ByteArray := prog_13_method_114_code
def yX11_begins : MethodName := ⟨RX11, "begins", "()V"⟩
abbrev cX11_refuses : ByteArray := prog_13_method_115_code
def yX11_refuses : MethodName := ⟨RX11, "refuses", "(I)I"⟩
abbrev cX11_endNow : ByteArray := prog_13_method_116_code
def yX11_endNow : MethodName := ⟨RX11, "endNow", "()I"⟩
abbrev cX11_edit : ByteArray := prog_13_method_117_code
def yX11_edit : MethodName := ⟨RX11, "edit", "()I"⟩
abbrev cX11_say : ByteArray := prog_13_method_118_code
def yX11_say : MethodName := ⟨RX11, "say", "()I"⟩
abbrev cX11_assemble : ByteArray := prog_13_method_119_code
def yX11_assemble : MethodName := ⟨RX11, "assemble", "()I"⟩
abbrev cX11_insert : ByteArray := prog_13_method_120_code
def yX11_insert : MethodName := ⟨RX11, "insert", "(III)I"⟩
abbrev cX11_isItem : ByteArray := prog_13_method_121_code
def yX11_isItem : MethodName := ⟨RX11, "isItem", "(I)Z"⟩
abbrev cX11_framesOf : ByteArray := prog_13_method_122_code
def yX11_framesOf : MethodName := ⟨RX11, "framesOf", "(I)I"⟩
abbrev cX11_trim : ByteArray := prog_13_method_123_code
def yX11_trim : MethodName := ⟨RX11, "trim", "(II)I"⟩
abbrev cX11_remove : ByteArray := prog_13_method_124_code
def yX11_remove : MethodName := ⟨RX11, "remove", "(I)I"⟩
abbrev cX11_move : ByteArray := prog_13_method_125_code
def yX11_move : MethodName := ⟨RX11, "move", "(II)I"⟩
abbrev cX11_setWeek : ByteArray := prog_13_method_126_code
def yX11_setWeek : MethodName := ⟨RX11, "setWeek", "(I)I"⟩
abbrev cX11_setVoice : ByteArray := prog_13_method_127_code
def yX11_setVoice : MethodName := ⟨RX11, "setVoice", "(II)I"⟩
abbrev cX11_setSlack : ByteArray := prog_13_method_128_code
def yX11_setSlack : MethodName := ⟨RX11, "setSlack", "(I)I"⟩
abbrev cX11_writes : ByteArray := prog_13_method_129_code
def yX11_writes : MethodName := ⟨RX11, "writes", "(I)V"⟩
abbrev cX11_writesWord : ByteArray := prog_13_method_130_code
def yX11_writesWord : MethodName := ⟨RX11, "writesWord", "(Ljava/lang/String;)V"⟩
abbrev cX11_writesNumber : ByteArray := prog_13_method_131_code
def yX11_writesNumber : MethodName := ⟨RX11, "writesNumber", "(I)V"⟩
abbrev cX11_writesCut : ByteArray := prog_13_method_132_code
def yX11_writesCut : MethodName := ⟨RX11, "writesCut", "(I)V"⟩
abbrev cX11_writesRow : ByteArray := prog_13_method_133_code
def yX11_writesRow : MethodName := ⟨RX11, "writesRow", "(I)V"⟩
abbrev cX11_writeReel : ByteArray := prog_13_method_134_code
def yX11_writeReel : MethodName := ⟨RX11, "writeReel", "()I"⟩
abbrev cX11_writeVoice : ByteArray := prog_13_method_135_code
def yX11_writeVoice : MethodName := ⟨RX11, "writeVoice", "()I"⟩
abbrev cX11_output : ByteArray := prog_13_method_136_code
def yX11_output : MethodName := ⟨RX11, "output", "(I)I"⟩
abbrev cX11_undo : ByteArray := prog_13_method_137_code
def yX11_undo : MethodName := ⟨RX11, "undo", "()I"⟩
abbrev cX11_isSlot : ByteArray := prog_13_method_138_code
def yX11_isSlot : MethodName := ⟨RX11, "isSlot", "(I)Z"⟩
abbrev cX11_save : ByteArray := prog_13_method_139_code
def yX11_save : MethodName := ⟨RX11, "save", "(I)V"⟩
abbrev cX11_restore : ByteArray := prog_13_method_140_code
def yX11_restore : MethodName := ⟨RX11, "restore", "(I)V"⟩
def RJ6 : String := "java/lang/Integer"
def TJ6 : u_T := fun k => match k with
  | _ => ("", "", "", false)
def tyJ6 : Nat → FieldType := fun k => match k with
  | _ => .int
abbrev wsJ60 : List Cond := u_ws RJ6 TJ6 0
theorem nmJ6 : ∀ a, a < 0 → ∀ b, b < 0 → a ≠ b → (TJ6 a).2.1 ≠ (TJ6 b).2.1 := by decide +kernel
theorem tyJ6_ok : ∀ k, k < 0 → parseFieldDescriptor (TJ6 k).2.2.1 = some (tyJ6 k) := by decide +kernel
abbrev cJ6_bitCount_0f7a4 : ByteArray := prog_18_method_49_code
def yJ6_bitCount_0f7a4 : MethodName := ⟨RJ6, "bitCount", "(I)I"⟩
def RJ9 : String := "java/lang/Math"
def TJ9 : u_T := fun k => match k with
  | _ => ("", "", "", false)
def tyJ9 : Nat → FieldType := fun k => match k with
  | _ => .int
abbrev wsJ90 : List Cond := u_ws RJ9 TJ9 0
theorem nmJ9 : ∀ a, a < 0 → ∀ b, b < 0 → a ≠ b → (TJ9 a).2.1 ≠ (TJ9 b).2.1 := by decide +kernel
theorem tyJ9_ok : ∀ k, k < 0 → parseFieldDescriptor (TJ9 k).2.2.1 = some (tyJ9 k) := by decide +kernel
abbrev cJ9_abs_0f7a4 : ByteArray := prog_19_method_59_code
def yJ9_abs_0f7a4 : MethodName := ⟨RJ9, "abs", "(I)I"⟩
abbrev cJ9_max_7cf53 : ByteArray := prog_19_method_65_code
def yJ9_max_7cf53 : MethodName := ⟨RJ9, "max", "(II)I"⟩
abbrev cJ9_min_7cf53 : ByteArray := prog_19_method_69_code
def yJ9_min_7cf53 : MethodName := ⟨RJ9, "min", "(II)I"⟩
def RJ0 : String := "java/lang/String"
def TJ0 : u_T := fun k => match k with
  | _ => ("", "", "", false)
def tyJ0 : Nat → FieldType := fun k => match k with
  | _ => .int
abbrev wsJ00 : List Cond := u_ws RJ0 TJ0 0
theorem nmJ0 : ∀ a, a < 0 → ∀ b, b < 0 → a ≠ b → (TJ0 a).2.1 ≠ (TJ0 b).2.1 := by decide +kernel
theorem tyJ0_ok : ∀ k, k < 0 → parseFieldDescriptor (TJ0 k).2.2.1 = some (tyJ0 k) := by decide +kernel
abbrev cJ0_length_8abf5 : ByteArray := prog_21_method_54_code
def yJ0_length_8abf5 : MethodName := ⟨RJ0, "length", "()I"⟩
abbrev cJ0_charAt_5068e : ByteArray := prog_21_method_56_code
def yJ0_charAt_5068e : MethodName := ⟨RJ0, "charAt", "(I)C"⟩
abbrev cJ0_coder_7d493 : ByteArray := prog_21_method_152_code
def yJ0_coder_7d493 : MethodName := ⟨RJ0, "coder", "()B"⟩
abbrev cJ0_isLatin1_aae02 : ByteArray := prog_21_method_154_code
def yJ0_isLatin1_aae02 : MethodName := ⟨RJ0, "isLatin1", "()Z"⟩
abbrev cJ0_checkIndex_df160 : ByteArray := prog_21_method_155_code
def yJ0_checkIndex_df160 : MethodName := ⟨RJ0, "checkIndex", "(II)V"⟩
def RJ1 : String := "java/lang/StringLatin1"
def TJ1 : u_T := fun k => match k with
  | _ => ("", "", "", false)
def tyJ1 : Nat → FieldType := fun k => match k with
  | _ => .int
abbrev wsJ10 : List Cond := u_ws RJ1 TJ1 0
theorem nmJ1 : ∀ a, a < 0 → ∀ b, b < 0 → a ≠ b → (TJ1 a).2.1 ≠ (TJ1 b).2.1 := by decide +kernel
theorem tyJ1_ok : ∀ k, k < 0 → parseFieldDescriptor (TJ1 k).2.2.1 = some (tyJ1 k) := by decide +kernel
abbrev cJ1_charAt_3b067 : ByteArray := prog_22_method_2_code
def yJ1_charAt_3b067 : MethodName := ⟨RJ1, "charAt", "([BI)C"⟩
def RJ2 : String := "java/lang/StringUTF16"
def TJ2 : u_T := fun k => match k with
  | _ => ("", "", "", false)
def tyJ2 : Nat → FieldType := fun k => match k with
  | _ => .int
abbrev wsJ20 : List Cond := u_ws RJ2 TJ2 0
theorem nmJ2 : ∀ a, a < 0 → ∀ b, b < 0 → a ≠ b → (TJ2 a).2.1 ≠ (TJ2 b).2.1 := by decide +kernel
theorem tyJ2_ok : ∀ k, k < 0 → parseFieldDescriptor (TJ2 k).2.2.1 = some (tyJ2 k) := by decide +kernel
abbrev cJ2_getChar_3b067 : ByteArray := prog_23_method_5_code
def yJ2_getChar_3b067 : MethodName := ⟨RJ2, "getChar", "([BI)C"⟩
abbrev cJ2_length_9d52b : ByteArray := prog_23_method_6_code
def yJ2_length_9d52b : MethodName := ⟨RJ2, "length", "([B)I"⟩
abbrev cJ2_charAt_3b067 : ByteArray := prog_23_method_83_code
def yJ2_charAt_3b067 : MethodName := ⟨RJ2, "charAt", "([BI)C"⟩
abbrev cJ2_checkIndex_2214a : ByteArray := prog_23_method_91_code
def yJ2_checkIndex_2214a : MethodName := ⟨RJ2, "checkIndex", "(I[B)V"⟩
def RJ10 : String := "java/lang/System"
def TJ10 : u_T := fun k => match k with
  | _ => ("", "", "", false)
def tyJ10 : Nat → FieldType := fun k => match k with
  | _ => .int
abbrev wsJ100 : List Cond := u_ws RJ10 TJ10 0
theorem nmJ10 : ∀ a, a < 0 → ∀ b, b < 0 → a ≠ b → (TJ10 a).2.1 ≠ (TJ10 b).2.1 := by decide +kernel
theorem tyJ10_ok : ∀ k, k < 0 → parseFieldDescriptor (TJ10 k).2.2.1 = some (tyJ10 k) := by decide +kernel
def RJ3 : String := "jdk/internal/util/Preconditions"
def TJ3 : u_T := fun k => match k with
  | _ => ("", "", "", false)
def tyJ3 : Nat → FieldType := fun k => match k with
  | _ => .int
abbrev wsJ30 : List Cond := u_ws RJ3 TJ3 0
theorem nmJ3 : ∀ a, a < 0 → ∀ b, b < 0 → a ≠ b → (TJ3 a).2.1 ≠ (TJ3 b).2.1 := by decide +kernel
theorem tyJ3_ok : ∀ k, k < 0 → parseFieldDescriptor (TJ3 k).2.2.1 = some (tyJ3 k) := by decide +kernel
abbrev cJ3_checkIndex_8e157 : ByteArray := prog_26_method_11_code
def yJ3_checkIndex_8e157 : MethodName := ⟨RJ3, "checkIndex", "(IILjava/util/function/BiFunction;)I"⟩
def RL : String := "NewsReelLaw"
abbrev cL_appendText : ByteArray := method_3_code
def yL_appendText : MethodName := ⟨RL, "appendText", "(LNewsReel;I[J)I"⟩
abbrev cL_truncateText : ByteArray := method_4_code
def yL_truncateText : MethodName := ⟨RL, "truncateText", "(LNewsReel;I[J)I"⟩
abbrev cL_count : ByteArray := method_5_code
def yL_count : MethodName := ⟨RL, "count", "(LNewsReel;I[J)I"⟩
abbrev cL_shot : ByteArray := method_6_code
def yL_shot : MethodName := ⟨RL, "shot", "(LNewsReel;II[J)I"⟩
abbrev cL_map : ByteArray := method_7_code
def yL_map : MethodName := ⟨RL, "map", "(LNewsReel;II[J)I"⟩
abbrev cL_ban : ByteArray := method_8_code
def yL_ban : MethodName := ⟨RL, "ban", "(LNewsReel;II[J)I"⟩
abbrev cL_word : ByteArray := method_9_code
def yL_word : MethodName := ⟨RL, "word", "(LNewsReel;II[J)I"⟩
abbrev cL_piece : ByteArray := method_10_code
def yL_piece : MethodName := ⟨RL, "piece", "(LNewsReel;II[J)I"⟩
abbrev cL_reel : ByteArray := method_11_code
def yL_reel : MethodName := ⟨RL, "reel", "(LNewsReel;I[J)I"⟩
abbrev cL_account : ByteArray := method_12_code
def yL_account : MethodName := ⟨RL, "account", "(LNewsReel;I[J)I"⟩
abbrev cL_faults : ByteArray := method_13_code
def yL_faults : MethodName := ⟨RL, "faults", "(LNewsReel;I[J)I"⟩
abbrev cL_fault : ByteArray := method_14_code
def yL_fault : MethodName := ⟨RL, "fault", "(LNewsReel;II[J)I"⟩
abbrev cL_share : ByteArray := method_15_code
def yL_share : MethodName := ⟨RL, "share", "(LNewsReel;I[D)I"⟩
abbrev cL_best : ByteArray := method_16_code
def yL_best : MethodName := ⟨RL, "best", "(LNewsReel;I[J)I"⟩
abbrev cL_insert : ByteArray := method_17_code
def yL_insert : MethodName := ⟨RL, "insert", "(LNewsReel;III[J)I"⟩
abbrev cL_trim : ByteArray := method_18_code
def yL_trim : MethodName := ⟨RL, "trim", "(LNewsReel;II[J)I"⟩
abbrev cL_remove : ByteArray := method_19_code
def yL_remove : MethodName := ⟨RL, "remove", "(LNewsReel;I[J)I"⟩
abbrev cL_move : ByteArray := method_20_code
def yL_move : MethodName := ⟨RL, "move", "(LNewsReel;II[J)I"⟩
abbrev cL_setWeek : ByteArray := method_21_code
def yL_setWeek : MethodName := ⟨RL, "setWeek", "(LNewsReel;I[J)I"⟩
abbrev cL_setVoice : ByteArray := method_22_code
def yL_setVoice : MethodName := ⟨RL, "setVoice", "(LNewsReel;II[J)I"⟩
abbrev cL_setSlack : ByteArray := method_23_code
def yL_setSlack : MethodName := ⟨RL, "setSlack", "(LNewsReel;I[J)I"⟩
abbrev cL_save : ByteArray := method_24_code
def yL_save : MethodName := ⟨RL, "save", "(LNewsReel;I)I"⟩
abbrev cL_restore : ByteArray := method_25_code
def yL_restore : MethodName := ⟨RL, "restore", "(LNewsReel;I)I"⟩
abbrev cL_law : ByteArray := code
def yL_law : MethodName := ⟨RL, "law", "([I)Z"⟩
abbrev vwCl : List vw_C := [(RX0, TX0, 4), (RX1, TX1, 3), (RX2, TX2, 7), (RX3, TX3, 12), (RX4, TX4, 2), (RX5, TX5, 10), (RX6, TX6, 5), (RX7, TX7, 3), (RX8, TX8, 9), (RX9, TX9, 7), (RX10, TX10, 14), (RX11, TX11, 52)]
