section
-- ===== PART A: goes FIRST, ahead of the names: the tables' words, and 'selects' of the private methods out of them =====
/-- a private method of a class that the tables say can be made, by its rows of tables_1 -/
def lw_okq (q : MethodName × Nat) : Prop := (q.1.cls ≠ "java/lang/invoke/MethodHandle" ∧ q.1.cls ≠ "java/lang/invoke/VarHandle") ∧ Cond.instantiable q.1.cls q.2 ∈ tables_1 ∧ Cond.privateMethod q.1 ∈ tables_1 ∧ Cond.instanceMethod q.1 ∈ tables_1
theorem lw_p0 : lw_okq (⟨"SquareTower$Squares", "fillUnit", "()V"⟩, 2) := ⟨⟨by decide +kernel, by decide +kernel⟩, List.mem_of_getElem? (i := 41) (by decide +kernel), List.mem_of_getElem? (i := 47) (by decide +kernel), List.mem_of_getElem? (i := 48) (by decide +kernel)⟩
theorem lw_p1 : lw_okq (⟨"SquareTower$Squares", "put", "(III)V"⟩, 2) := ⟨⟨by decide +kernel, by decide +kernel⟩, List.mem_of_getElem? (i := 41) (by decide +kernel), List.mem_of_getElem? (i := 70) (by decide +kernel), List.mem_of_getElem? (i := 71) (by decide +kernel)⟩
theorem lw_p2 : lw_okq (⟨"SquareTower$Squares", "fillSingles", "()V"⟩, 2) := ⟨⟨by decide +kernel, by decide +kernel⟩, List.mem_of_getElem? (i := 41) (by decide +kernel), List.mem_of_getElem? (i := 74) (by decide +kernel), List.mem_of_getElem? (i := 75) (by decide +kernel)⟩
theorem lw_p3 : lw_okq (⟨"SquareTower$Squares", "timesTerm", "(III)I"⟩, 2) := ⟨⟨by decide +kernel, by decide +kernel⟩, List.mem_of_getElem? (i := 41) (by decide +kernel), List.mem_of_getElem? (i := 82) (by decide +kernel), List.mem_of_getElem? (i := 83) (by decide +kernel)⟩
theorem lw_p4 : lw_okq (⟨"SquareTower$Squares", "fillLonger", "()V"⟩, 2) := ⟨⟨by decide +kernel, by decide +kernel⟩, List.mem_of_getElem? (i := 41) (by decide +kernel), List.mem_of_getElem? (i := 107) (by decide +kernel), List.mem_of_getElem? (i := 108) (by decide +kernel)⟩
theorem lw_p5 : lw_okq (⟨"SquareTower", "sumOfAllowed", "()I"⟩, 10) := ⟨⟨by decide +kernel, by decide +kernel⟩, List.mem_of_getElem? (i := 16) (by decide +kernel), List.mem_of_getElem? (i := 287) (by decide +kernel), List.mem_of_getElem? (i := 288) (by decide +kernel)⟩
theorem lw_p6 : lw_okq (⟨"SquareTower", "sumOfRows", "()I"⟩, 10) := ⟨⟨by decide +kernel, by decide +kernel⟩, List.mem_of_getElem? (i := 16) (by decide +kernel), List.mem_of_getElem? (i := 293) (by decide +kernel), List.mem_of_getElem? (i := 294) (by decide +kernel)⟩
theorem lw_p7 : lw_okq (⟨"SquareTower$RowProduct", "timesRow", "(III)I"⟩, 1) := ⟨⟨by decide +kernel, by decide +kernel⟩, List.mem_of_getElem? (i := 140) (by decide +kernel), List.mem_of_getElem? (i := 303) (by decide +kernel), List.mem_of_getElem? (i := 304) (by decide +kernel)⟩
theorem lw_p8 : lw_okq (⟨"SquareTower", "spaceHasChanged", "()V"⟩, 10) := ⟨⟨by decide +kernel, by decide +kernel⟩, List.mem_of_getElem? (i := 16) (by decide +kernel), List.mem_of_getElem? (i := 345) (by decide +kernel), List.mem_of_getElem? (i := 346) (by decide +kernel)⟩
theorem lw_p9 : lw_okq (⟨"SquareTower$Space", "findFault", "()V"⟩, 5) := ⟨⟨by decide +kernel, by decide +kernel⟩, List.mem_of_getElem? (i := 118) (by decide +kernel), List.mem_of_getElem? (i := 428) (by decide +kernel), List.mem_of_getElem? (i := 429) (by decide +kernel)⟩
theorem lw_p10 : lw_okq (⟨"SquareTower$Space", "byTheRule", "(III)I"⟩, 5) := ⟨⟨by decide +kernel, by decide +kernel⟩, List.mem_of_getElem? (i := 118) (by decide +kernel), List.mem_of_getElem? (i := 433) (by decide +kernel), List.mem_of_getElem? (i := 434) (by decide +kernel)⟩
theorem lw_p11 : lw_okq (⟨"SquareTower$Tower", "buildDegree", "(I)V"⟩, 12) := ⟨⟨by decide +kernel, by decide +kernel⟩, List.mem_of_getElem? (i := 150) (by decide +kernel), List.mem_of_getElem? (i := 462) (by decide +kernel), List.mem_of_getElem? (i := 463) (by decide +kernel)⟩
theorem lw_p12 : lw_okq (⟨"SquareTower$BitRows", "flipWord", "(IIJ)V"⟩, 3) := ⟨⟨by decide +kernel, by decide +kernel⟩, List.mem_of_getElem? (i := 159) (by decide +kernel), List.mem_of_getElem? (i := 479) (by decide +kernel), List.mem_of_getElem? (i := 480) (by decide +kernel)⟩
theorem lw_p13 : lw_okq (⟨"SquareTower$Tower", "carryOver", "(LSquareTower$Floor;LSquareTower$Floor;ILSquareTower$BitRows;)V"⟩, 12) := ⟨⟨by decide +kernel, by decide +kernel⟩, List.mem_of_getElem? (i := 150) (by decide +kernel), List.mem_of_getElem? (i := 503) (by decide +kernel), List.mem_of_getElem? (i := 504) (by decide +kernel)⟩
theorem lw_p14 : lw_okq (⟨"SquareTower$Tower", "listPlaces", "(LSquareTower$Floor;II)V"⟩, 12) := ⟨⟨by decide +kernel, by decide +kernel⟩, List.mem_of_getElem? (i := 150) (by decide +kernel), List.mem_of_getElem? (i := 512) (by decide +kernel), List.mem_of_getElem? (i := 513) (by decide +kernel)⟩
theorem lw_p15 : lw_okq (⟨"SquareTower$Tower", "putProduct", "(IILSquareTower$BitRows;I)V"⟩, 12) := ⟨⟨by decide +kernel, by decide +kernel⟩, List.mem_of_getElem? (i := 150) (by decide +kernel), List.mem_of_getElem? (i := 523) (by decide +kernel), List.mem_of_getElem? (i := 524) (by decide +kernel)⟩
def lw_privs_1 : List (MethodName × Nat) := [(⟨"SquareTower$Squares", "fillUnit", "()V"⟩, 2), (⟨"SquareTower$Squares", "put", "(III)V"⟩, 2), (⟨"SquareTower$Squares", "fillSingles", "()V"⟩, 2), (⟨"SquareTower$Squares", "timesTerm", "(III)I"⟩, 2), (⟨"SquareTower$Squares", "fillLonger", "()V"⟩, 2), (⟨"SquareTower", "sumOfAllowed", "()I"⟩, 10), (⟨"SquareTower", "sumOfRows", "()I"⟩, 10), (⟨"SquareTower$RowProduct", "timesRow", "(III)I"⟩, 1), (⟨"SquareTower", "spaceHasChanged", "()V"⟩, 10), (⟨"SquareTower$Space", "findFault", "()V"⟩, 5), (⟨"SquareTower$Space", "byTheRule", "(III)I"⟩, 5), (⟨"SquareTower$Tower", "buildDegree", "(I)V"⟩, 12), (⟨"SquareTower$BitRows", "flipWord", "(IIJ)V"⟩, 3), (⟨"SquareTower$Tower", "carryOver", "(LSquareTower$Floor;LSquareTower$Floor;ILSquareTower$BitRows;)V"⟩, 12), (⟨"SquareTower$Tower", "listPlaces", "(LSquareTower$Floor;II)V"⟩, 12), (⟨"SquareTower$Tower", "putProduct", "(IILSquareTower$BitRows;I)V"⟩, 12)]
theorem lw_r1 : ∀ q ∈ lw_privs_1, lw_okq q := List.forall_mem_cons.mpr ⟨lw_p0, List.forall_mem_cons.mpr ⟨lw_p1, List.forall_mem_cons.mpr ⟨lw_p2, List.forall_mem_cons.mpr ⟨lw_p3, List.forall_mem_cons.mpr ⟨lw_p4, List.forall_mem_cons.mpr ⟨lw_p5, List.forall_mem_cons.mpr ⟨lw_p6, List.forall_mem_cons.mpr ⟨lw_p7, List.forall_mem_cons.mpr ⟨lw_p8, List.forall_mem_cons.mpr ⟨lw_p9, List.forall_mem_cons.mpr ⟨lw_p10, List.forall_mem_cons.mpr ⟨lw_p11, List.forall_mem_cons.mpr ⟨lw_p12, List.forall_mem_cons.mpr ⟨lw_p13, List.forall_mem_cons.mpr ⟨lw_p14, List.forall_mem_cons.mpr ⟨lw_p15, fun _ h => absurd h List.not_mem_nil⟩⟩⟩⟩⟩⟩⟩⟩⟩⟩⟩⟩⟩⟩⟩⟩
theorem lw_p16 : lw_okq (⟨"SquareTower$BitRows", "word", "(II)J"⟩, 3) := ⟨⟨by decide +kernel, by decide +kernel⟩, List.mem_of_getElem? (i := 159) (by decide +kernel), List.mem_of_getElem? (i := 543) (by decide +kernel), List.mem_of_getElem? (i := 544) (by decide +kernel)⟩
theorem lw_p17 : lw_okq (⟨"SquareTower$Tower", "applyChain", "(II)I"⟩, 12) := ⟨⟨by decide +kernel, by decide +kernel⟩, List.mem_of_getElem? (i := 150) (by decide +kernel), List.mem_of_getElem? (i := 548) (by decide +kernel), List.mem_of_getElem? (i := 549) (by decide +kernel)⟩
theorem lw_p18 : lw_okq (⟨"SquareTower$Tower", "keepOrDrop", "(ILSquareTower$BitRows;)V"⟩, 12) := ⟨⟨by decide +kernel, by decide +kernel⟩, List.mem_of_getElem? (i := 150) (by decide +kernel), List.mem_of_getElem? (i := 554) (by decide +kernel), List.mem_of_getElem? (i := 555) (by decide +kernel)⟩
theorem lw_p19 : lw_okq (⟨"SquareTower$Tower", "reduce", "(I)I"⟩, 12) := ⟨⟨by decide +kernel, by decide +kernel⟩, List.mem_of_getElem? (i := 150) (by decide +kernel), List.mem_of_getElem? (i := 558) (by decide +kernel), List.mem_of_getElem? (i := 559) (by decide +kernel)⟩
theorem lw_p20 : lw_okq (⟨"SquareTower$Tower", "cover", "(LSquareTower$Floor;LSquareTower$BitRows;I)V"⟩, 12) := ⟨⟨by decide +kernel, by decide +kernel⟩, List.mem_of_getElem? (i := 150) (by decide +kernel), List.mem_of_getElem? (i := 575) (by decide +kernel), List.mem_of_getElem? (i := 576) (by decide +kernel)⟩
theorem lw_p21 : lw_okq (⟨"SquareTower", "mayBeTold", "(IIII)Z"⟩, 10) := ⟨⟨by decide +kernel, by decide +kernel⟩, List.mem_of_getElem? (i := 16) (by decide +kernel), List.mem_of_getElem? (i := 625) (by decide +kernel), List.mem_of_getElem? (i := 626) (by decide +kernel)⟩
theorem lw_p22 : lw_okq (⟨"SquareTower$Chart", "toldFrom", "(I)I"⟩, 1) := ⟨⟨by decide +kernel, by decide +kernel⟩, List.mem_of_getElem? (i := 234) (by decide +kernel), List.mem_of_getElem? (i := 642) (by decide +kernel), List.mem_of_getElem? (i := 643) (by decide +kernel)⟩
theorem lw_p23 : lw_okq (⟨"SquareTower", "leftOnPage", "(III)I"⟩, 10) := ⟨⟨by decide +kernel, by decide +kernel⟩, List.mem_of_getElem? (i := 16) (by decide +kernel), List.mem_of_getElem? (i := 651) (by decide +kernel), List.mem_of_getElem? (i := 652) (by decide +kernel)⟩
theorem lw_p24 : lw_okq (⟨"SquareTowerModel", "findWords", "()V"⟩, 30) := ⟨⟨by decide +kernel, by decide +kernel⟩, List.mem_of_getElem? (i := 671) (by decide +kernel), List.mem_of_getElem? (i := 677) (by decide +kernel), List.mem_of_getElem? (i := 678) (by decide +kernel)⟩
theorem lw_p25 : lw_okq (⟨"SquareTowerModel", "findRows", "()V"⟩, 30) := ⟨⟨by decide +kernel, by decide +kernel⟩, List.mem_of_getElem? (i := 671) (by decide +kernel), List.mem_of_getElem? (i := 681) (by decide +kernel), List.mem_of_getElem? (i := 682) (by decide +kernel)⟩
theorem lw_p26 : lw_okq (⟨"SquareTowerModel", "findSquares", "()V"⟩, 30) := ⟨⟨by decide +kernel, by decide +kernel⟩, List.mem_of_getElem? (i := 671) (by decide +kernel), List.mem_of_getElem? (i := 685) (by decide +kernel), List.mem_of_getElem? (i := 686) (by decide +kernel)⟩
theorem lw_p27 : lw_okq (⟨"SquareTowerModel", "squareOf", "(III)I"⟩, 30) := ⟨⟨by decide +kernel, by decide +kernel⟩, List.mem_of_getElem? (i := 671) (by decide +kernel), List.mem_of_getElem? (i := 689) (by decide +kernel), List.mem_of_getElem? (i := 690) (by decide +kernel)⟩
theorem lw_p28 : lw_okq (⟨"SquareTowerModel", "placeOf", "(IIII)I"⟩, 30) := ⟨⟨by decide +kernel, by decide +kernel⟩, List.mem_of_getElem? (i := 671) (by decide +kernel), List.mem_of_getElem? (i := 693) (by decide +kernel), List.mem_of_getElem? (i := 694) (by decide +kernel)⟩
theorem lw_p29 : lw_okq (⟨"SquareTowerModel", "restOf", "(II)I"⟩, 30) := ⟨⟨by decide +kernel, by decide +kernel⟩, List.mem_of_getElem? (i := 671) (by decide +kernel), List.mem_of_getElem? (i := 697) (by decide +kernel), List.mem_of_getElem? (i := 698) (by decide +kernel)⟩
theorem lw_p30 : lw_okq (⟨"SquareTowerModel", "squares", "(III)I"⟩, 30) := ⟨⟨by decide +kernel, by decide +kernel⟩, List.mem_of_getElem? (i := 671) (by decide +kernel), List.mem_of_getElem? (i := 704) (by decide +kernel), List.mem_of_getElem? (i := 705) (by decide +kernel)⟩
theorem lw_p31 : lw_okq (⟨"SquareTowerModel", "manyOf", "(I)I"⟩, 30) := ⟨⟨by decide +kernel, by decide +kernel⟩, List.mem_of_getElem? (i := 671) (by decide +kernel), List.mem_of_getElem? (i := 708) (by decide +kernel), List.mem_of_getElem? (i := 709) (by decide +kernel)⟩
def lw_privs_2 : List (MethodName × Nat) := [(⟨"SquareTower$BitRows", "word", "(II)J"⟩, 3), (⟨"SquareTower$Tower", "applyChain", "(II)I"⟩, 12), (⟨"SquareTower$Tower", "keepOrDrop", "(ILSquareTower$BitRows;)V"⟩, 12), (⟨"SquareTower$Tower", "reduce", "(I)I"⟩, 12), (⟨"SquareTower$Tower", "cover", "(LSquareTower$Floor;LSquareTower$BitRows;I)V"⟩, 12), (⟨"SquareTower", "mayBeTold", "(IIII)Z"⟩, 10), (⟨"SquareTower$Chart", "toldFrom", "(I)I"⟩, 1), (⟨"SquareTower", "leftOnPage", "(III)I"⟩, 10), (⟨"SquareTowerModel", "findWords", "()V"⟩, 30), (⟨"SquareTowerModel", "findRows", "()V"⟩, 30), (⟨"SquareTowerModel", "findSquares", "()V"⟩, 30), (⟨"SquareTowerModel", "squareOf", "(III)I"⟩, 30), (⟨"SquareTowerModel", "placeOf", "(IIII)I"⟩, 30), (⟨"SquareTowerModel", "restOf", "(II)I"⟩, 30), (⟨"SquareTowerModel", "squares", "(III)I"⟩, 30), (⟨"SquareTowerModel", "manyOf", "(I)I"⟩, 30)]
theorem lw_r2 : ∀ q ∈ lw_privs_2, lw_okq q := List.forall_mem_cons.mpr ⟨lw_p16, List.forall_mem_cons.mpr ⟨lw_p17, List.forall_mem_cons.mpr ⟨lw_p18, List.forall_mem_cons.mpr ⟨lw_p19, List.forall_mem_cons.mpr ⟨lw_p20, List.forall_mem_cons.mpr ⟨lw_p21, List.forall_mem_cons.mpr ⟨lw_p22, List.forall_mem_cons.mpr ⟨lw_p23, List.forall_mem_cons.mpr ⟨lw_p24, List.forall_mem_cons.mpr ⟨lw_p25, List.forall_mem_cons.mpr ⟨lw_p26, List.forall_mem_cons.mpr ⟨lw_p27, List.forall_mem_cons.mpr ⟨lw_p28, List.forall_mem_cons.mpr ⟨lw_p29, List.forall_mem_cons.mpr ⟨lw_p30, List.forall_mem_cons.mpr ⟨lw_p31, fun _ h => absurd h List.not_mem_nil⟩⟩⟩⟩⟩⟩⟩⟩⟩⟩⟩⟩⟩⟩⟩⟩
theorem lw_p32 : lw_okq (⟨"SquareTowerModel", "squareOfRow", "(III)I"⟩, 30) := ⟨⟨by decide +kernel, by decide +kernel⟩, List.mem_of_getElem? (i := 671) (by decide +kernel), List.mem_of_getElem? (i := 712) (by decide +kernel), List.mem_of_getElem? (i := 713) (by decide +kernel)⟩
theorem lw_p33 : lw_okq (⟨"SquareTowerModel", "rowAt", "(IIII)I"⟩, 30) := ⟨⟨by decide +kernel, by decide +kernel⟩, List.mem_of_getElem? (i := 671) (by decide +kernel), List.mem_of_getElem? (i := 716) (by decide +kernel), List.mem_of_getElem? (i := 717) (by decide +kernel)⟩
theorem lw_p34 : lw_okq (⟨"SquareTowerModel", "findProducts", "()V"⟩, 30) := ⟨⟨by decide +kernel, by decide +kernel⟩, List.mem_of_getElem? (i := 671) (by decide +kernel), List.mem_of_getElem? (i := 720) (by decide +kernel), List.mem_of_getElem? (i := 721) (by decide +kernel)⟩
theorem lw_p35 : lw_okq (⟨"SquareTowerModel", "degreeOf", "(I)I"⟩, 30) := ⟨⟨by decide +kernel, by decide +kernel⟩, List.mem_of_getElem? (i := 671) (by decide +kernel), List.mem_of_getElem? (i := 724) (by decide +kernel), List.mem_of_getElem? (i := 725) (by decide +kernel)⟩
theorem lw_p36 : lw_okq (⟨"SquareTowerModel", "wordDegree", "()I"⟩, 30) := ⟨⟨by decide +kernel, by decide +kernel⟩, List.mem_of_getElem? (i := 671) (by decide +kernel), List.mem_of_getElem? (i := 826) (by decide +kernel), List.mem_of_getElem? (i := 827) (by decide +kernel)⟩
theorem lw_p37 : lw_okq (⟨"SquareTowerModel", "sumOf", "(I)I"⟩, 30) := ⟨⟨by decide +kernel, by decide +kernel⟩, List.mem_of_getElem? (i := 671) (by decide +kernel), List.mem_of_getElem? (i := 838) (by decide +kernel), List.mem_of_getElem? (i := 839) (by decide +kernel)⟩
theorem lw_p38 : lw_okq (⟨"SquareTowerModel", "squaresRow", "(III)I"⟩, 30) := ⟨⟨by decide +kernel, by decide +kernel⟩, List.mem_of_getElem? (i := 671) (by decide +kernel), List.mem_of_getElem? (i := 842) (by decide +kernel), List.mem_of_getElem? (i := 843) (by decide +kernel)⟩
theorem lw_p39 : lw_okq (⟨"SquareTowerModel", "changes", "()V"⟩, 30) := ⟨⟨by decide +kernel, by decide +kernel⟩, List.mem_of_getElem? (i := 671) (by decide +kernel), List.mem_of_getElem? (i := 861) (by decide +kernel), List.mem_of_getElem? (i := 862) (by decide +kernel)⟩
theorem lw_p40 : lw_okq (⟨"SquareTowerModel", "comes", "(I)V"⟩, 30) := ⟨⟨by decide +kernel, by decide +kernel⟩, List.mem_of_getElem? (i := 671) (by decide +kernel), List.mem_of_getElem? (i := 869) (by decide +kernel), List.mem_of_getElem? (i := 870) (by decide +kernel)⟩
theorem lw_p41 : lw_okq (⟨"SquareTowerModel", "isElement", "(I)Z"⟩, 30) := ⟨⟨by decide +kernel, by decide +kernel⟩, List.mem_of_getElem? (i := 671) (by decide +kernel), List.mem_of_getElem? (i := 877) (by decide +kernel), List.mem_of_getElem? (i := 878) (by decide +kernel)⟩
theorem lw_p42 : lw_okq (⟨"SquareTowerModel", "ofDegree", "(I)I"⟩, 30) := ⟨⟨by decide +kernel, by decide +kernel⟩, List.mem_of_getElem? (i := 671) (by decide +kernel), List.mem_of_getElem? (i := 881) (by decide +kernel), List.mem_of_getElem? (i := 882) (by decide +kernel)⟩
theorem lw_p43 : lw_okq (⟨"SquareTowerModel", "acted", "(II)I"⟩, 30) := ⟨⟨by decide +kernel, by decide +kernel⟩, List.mem_of_getElem? (i := 671) (by decide +kernel), List.mem_of_getElem? (i := 893) (by decide +kernel), List.mem_of_getElem? (i := 894) (by decide +kernel)⟩
theorem lw_p44 : lw_okq (⟨"SquareTowerModel", "findFault", "()I"⟩, 30) := ⟨⟨by decide +kernel, by decide +kernel⟩, List.mem_of_getElem? (i := 671) (by decide +kernel), List.mem_of_getElem? (i := 905) (by decide +kernel), List.mem_of_getElem? (i := 906) (by decide +kernel)⟩
theorem lw_p45 : lw_okq (⟨"SquareTowerModel", "isSound", "()Z"⟩, 30) := ⟨⟨by decide +kernel, by decide +kernel⟩, List.mem_of_getElem? (i := 671) (by decide +kernel), List.mem_of_getElem? (i := 916) (by decide +kernel), List.mem_of_getElem? (i := 917) (by decide +kernel)⟩
theorem lw_p46 : lw_okq (⟨"SquareTowerModel", "liveAt", "(II)I"⟩, 30) := ⟨⟨by decide +kernel, by decide +kernel⟩, List.mem_of_getElem? (i := 671) (by decide +kernel), List.mem_of_getElem? (i := 920) (by decide +kernel), List.mem_of_getElem? (i := 921) (by decide +kernel)⟩
theorem lw_p47 : lw_okq (⟨"SquareTowerModel", "layAll", "()V"⟩, 30) := ⟨⟨by decide +kernel, by decide +kernel⟩, List.mem_of_getElem? (i := 671) (by decide +kernel), List.mem_of_getElem? (i := 924) (by decide +kernel), List.mem_of_getElem? (i := 925) (by decide +kernel)⟩
def lw_privs_3 : List (MethodName × Nat) := [(⟨"SquareTowerModel", "squareOfRow", "(III)I"⟩, 30), (⟨"SquareTowerModel", "rowAt", "(IIII)I"⟩, 30), (⟨"SquareTowerModel", "findProducts", "()V"⟩, 30), (⟨"SquareTowerModel", "degreeOf", "(I)I"⟩, 30), (⟨"SquareTowerModel", "wordDegree", "()I"⟩, 30), (⟨"SquareTowerModel", "sumOf", "(I)I"⟩, 30), (⟨"SquareTowerModel", "squaresRow", "(III)I"⟩, 30), (⟨"SquareTowerModel", "changes", "()V"⟩, 30), (⟨"SquareTowerModel", "comes", "(I)V"⟩, 30), (⟨"SquareTowerModel", "isElement", "(I)Z"⟩, 30), (⟨"SquareTowerModel", "ofDegree", "(I)I"⟩, 30), (⟨"SquareTowerModel", "acted", "(II)I"⟩, 30), (⟨"SquareTowerModel", "findFault", "()I"⟩, 30), (⟨"SquareTowerModel", "isSound", "()Z"⟩, 30), (⟨"SquareTowerModel", "liveAt", "(II)I"⟩, 30), (⟨"SquareTowerModel", "layAll", "()V"⟩, 30)]
theorem lw_r3 : ∀ q ∈ lw_privs_3, lw_okq q := List.forall_mem_cons.mpr ⟨lw_p32, List.forall_mem_cons.mpr ⟨lw_p33, List.forall_mem_cons.mpr ⟨lw_p34, List.forall_mem_cons.mpr ⟨lw_p35, List.forall_mem_cons.mpr ⟨lw_p36, List.forall_mem_cons.mpr ⟨lw_p37, List.forall_mem_cons.mpr ⟨lw_p38, List.forall_mem_cons.mpr ⟨lw_p39, List.forall_mem_cons.mpr ⟨lw_p40, List.forall_mem_cons.mpr ⟨lw_p41, List.forall_mem_cons.mpr ⟨lw_p42, List.forall_mem_cons.mpr ⟨lw_p43, List.forall_mem_cons.mpr ⟨lw_p44, List.forall_mem_cons.mpr ⟨lw_p45, List.forall_mem_cons.mpr ⟨lw_p46, List.forall_mem_cons.mpr ⟨lw_p47, fun _ h => absurd h List.not_mem_nil⟩⟩⟩⟩⟩⟩⟩⟩⟩⟩⟩⟩⟩⟩⟩⟩
theorem lw_p48 : lw_okq (⟨"SquareTowerModel", "lays", "(II)V"⟩, 30) := ⟨⟨by decide +kernel, by decide +kernel⟩, List.mem_of_getElem? (i := 671) (by decide +kernel), List.mem_of_getElem? (i := 928) (by decide +kernel), List.mem_of_getElem? (i := 929) (by decide +kernel)⟩
theorem lw_p49 : lw_okq (⟨"SquareTowerModel", "clearNow", "()V"⟩, 30) := ⟨⟨by decide +kernel, by decide +kernel⟩, List.mem_of_getElem? (i := 671) (by decide +kernel), List.mem_of_getElem? (i := 932) (by decide +kernel), List.mem_of_getElem? (i := 933) (by decide +kernel)⟩
theorem lw_p50 : lw_okq (⟨"SquareTowerModel", "goes", "(IIII)V"⟩, 30) := ⟨⟨by decide +kernel, by decide +kernel⟩, List.mem_of_getElem? (i := 671) (by decide +kernel), List.mem_of_getElem? (i := 936) (by decide +kernel), List.mem_of_getElem? (i := 937) (by decide +kernel)⟩
theorem lw_p51 : lw_okq (⟨"SquareTowerModel", "turns", "(I)V"⟩, 30) := ⟨⟨by decide +kernel, by decide +kernel⟩, List.mem_of_getElem? (i := 671) (by decide +kernel), List.mem_of_getElem? (i := 940) (by decide +kernel), List.mem_of_getElem? (i := 941) (by decide +kernel)⟩
theorem lw_p52 : lw_okq (⟨"SquareTowerModel", "reduces", "()I"⟩, 30) := ⟨⟨by decide +kernel, by decide +kernel⟩, List.mem_of_getElem? (i := 671) (by decide +kernel), List.mem_of_getElem? (i := 944) (by decide +kernel), List.mem_of_getElem? (i := 945) (by decide +kernel)⟩
theorem lw_p53 : lw_okq (⟨"SquareTowerModel", "lead", "()I"⟩, 30) := ⟨⟨by decide +kernel, by decide +kernel⟩, List.mem_of_getElem? (i := 671) (by decide +kernel), List.mem_of_getElem? (i := 948) (by decide +kernel), List.mem_of_getElem? (i := 949) (by decide +kernel)⟩
theorem lw_p54 : lw_okq (⟨"SquareTowerModel", "keeps", "(I)V"⟩, 30) := ⟨⟨by decide +kernel, by decide +kernel⟩, List.mem_of_getElem? (i := 671) (by decide +kernel), List.mem_of_getElem? (i := 952) (by decide +kernel), List.mem_of_getElem? (i := 953) (by decide +kernel)⟩
theorem lw_p55 : lw_okq (⟨"SquareTowerModel", "comesGenerator", "(II)V"⟩, 30) := ⟨⟨by decide +kernel, by decide +kernel⟩, List.mem_of_getElem? (i := 671) (by decide +kernel), List.mem_of_getElem? (i := 956) (by decide +kernel), List.mem_of_getElem? (i := 957) (by decide +kernel)⟩
theorem lw_p56 : lw_okq (⟨"SquareTowerModel", "offset", "(III)I"⟩, 30) := ⟨⟨by decide +kernel, by decide +kernel⟩, List.mem_of_getElem? (i := 671) (by decide +kernel), List.mem_of_getElem? (i := 964) (by decide +kernel), List.mem_of_getElem? (i := 965) (by decide +kernel)⟩
theorem lw_p57 : lw_okq (⟨"SquareTowerModel", "rankOf", "([II)I"⟩, 30) := ⟨⟨by decide +kernel, by decide +kernel⟩, List.mem_of_getElem? (i := 671) (by decide +kernel), List.mem_of_getElem? (i := 968) (by decide +kernel), List.mem_of_getElem? (i := 969) (by decide +kernel)⟩
theorem lw_p58 : lw_okq (⟨"SquareTowerModel", "wide", "(II)I"⟩, 30) := ⟨⟨by decide +kernel, by decide +kernel⟩, List.mem_of_getElem? (i := 671) (by decide +kernel), List.mem_of_getElem? (i := 978) (by decide +kernel), List.mem_of_getElem? (i := 979) (by decide +kernel)⟩
theorem lw_p59 : lw_okq (⟨"SquareTowerModel", "rankAt", "(III)I"⟩, 30) := ⟨⟨by decide +kernel, by decide +kernel⟩, List.mem_of_getElem? (i := 671) (by decide +kernel), List.mem_of_getElem? (i := 986) (by decide +kernel), List.mem_of_getElem? (i := 987) (by decide +kernel)⟩
theorem lw_p60 : lw_okq (⟨"SquareTowerModel", "rankBoth", "(III)I"⟩, 30) := ⟨⟨by decide +kernel, by decide +kernel⟩, List.mem_of_getElem? (i := 671) (by decide +kernel), List.mem_of_getElem? (i := 990) (by decide +kernel), List.mem_of_getElem? (i := 991) (by decide +kernel)⟩
theorem lw_p61 : lw_okq (⟨"SquareTowerModel", "pageAt", "(III)I"⟩, 30) := ⟨⟨by decide +kernel, by decide +kernel⟩, List.mem_of_getElem? (i := 671) (by decide +kernel), List.mem_of_getElem? (i := 994) (by decide +kernel), List.mem_of_getElem? (i := 995) (by decide +kernel)⟩
def lw_privs_4 : List (MethodName × Nat) := [(⟨"SquareTowerModel", "lays", "(II)V"⟩, 30), (⟨"SquareTowerModel", "clearNow", "()V"⟩, 30), (⟨"SquareTowerModel", "goes", "(IIII)V"⟩, 30), (⟨"SquareTowerModel", "turns", "(I)V"⟩, 30), (⟨"SquareTowerModel", "reduces", "()I"⟩, 30), (⟨"SquareTowerModel", "lead", "()I"⟩, 30), (⟨"SquareTowerModel", "keeps", "(I)V"⟩, 30), (⟨"SquareTowerModel", "comesGenerator", "(II)V"⟩, 30), (⟨"SquareTowerModel", "offset", "(III)I"⟩, 30), (⟨"SquareTowerModel", "rankOf", "([II)I"⟩, 30), (⟨"SquareTowerModel", "wide", "(II)I"⟩, 30), (⟨"SquareTowerModel", "rankAt", "(III)I"⟩, 30), (⟨"SquareTowerModel", "rankBoth", "(III)I"⟩, 30), (⟨"SquareTowerModel", "pageAt", "(III)I"⟩, 30)]
theorem lw_r4 : ∀ q ∈ lw_privs_4, lw_okq q := List.forall_mem_cons.mpr ⟨lw_p48, List.forall_mem_cons.mpr ⟨lw_p49, List.forall_mem_cons.mpr ⟨lw_p50, List.forall_mem_cons.mpr ⟨lw_p51, List.forall_mem_cons.mpr ⟨lw_p52, List.forall_mem_cons.mpr ⟨lw_p53, List.forall_mem_cons.mpr ⟨lw_p54, List.forall_mem_cons.mpr ⟨lw_p55, List.forall_mem_cons.mpr ⟨lw_p56, List.forall_mem_cons.mpr ⟨lw_p57, List.forall_mem_cons.mpr ⟨lw_p58, List.forall_mem_cons.mpr ⟨lw_p59, List.forall_mem_cons.mpr ⟨lw_p60, List.forall_mem_cons.mpr ⟨lw_p61, fun _ h => absurd h List.not_mem_nil⟩⟩⟩⟩⟩⟩⟩⟩⟩⟩⟩⟩⟩⟩
def lw_privs : List (MethodName × Nat) := lw_privs_1 ++ (lw_privs_2 ++ (lw_privs_3 ++ (lw_privs_4)))
def lw_tbl : List Cond := k2_sels lw_privs ++ tables_1
theorem lw_privs_ok : ∀ q ∈ lw_privs, lw_okq q := by
  show ∀ q ∈ lw_privs_1 ++ (lw_privs_2 ++ (lw_privs_3 ++ (lw_privs_4))), lw_okq q
  exact List.forall_mem_append.mpr ⟨lw_r1, List.forall_mem_append.mpr ⟨lw_r2, List.forall_mem_append.mpr ⟨lw_r3, lw_r4⟩⟩⟩
end
section
/-! ===== BEGIN words of one list among another's, by their places ===== -/
theorem goodIn_r {big : List Cond} (ws : List Cond) (ps : List Nat) (hp : ws = ps.filterMap (fun i => big[i]?)) (h : ws.all goodWord = true) : GoodIn big ws := by
  intro w hw
  have h1 := List.all_eq_true.mp h w hw
  rw [hp] at hw
  obtain ⟨i, -, hi⟩ := List.mem_filterMap.mp hw
  have hm : w ∈ big := by first | exact List.mem_of_getElem? hi | exact List.getElem?_mem hi
  exact ⟨hm, good_of_word h1⟩
theorem goodIn_app {big a b : List Cond} (ha : GoodIn big a) (hb : GoodIn big b) : GoodIn big (a ++ b) := fun w h => (List.mem_append.mp h).elim (ha w) (hb w)
theorem goodIn_ca {big a b : List Cond} {c : Cond} (ha : GoodIn big (c :: a)) (hb : GoodIn big b) : GoodIn big (c :: (a ++ b)) := fun w h => (List.mem_cons.mp h).elim (fun e => ha w (List.mem_cons.mpr (Or.inl e))) (fun h => (List.mem_append.mp h).elim (fun h => ha w (List.mem_cons.mpr (Or.inr h))) (hb w))
theorem goodIn_sub {big ws : List Cond} (hm : ∀ w ∈ ws, w ∈ big) (h : ws.all goodWord = true) : GoodIn big ws := fun w hw => ⟨hm w hw, good_of_word (List.all_eq_true.mp h w hw)⟩
/-! ===== END ===== -/

/-! ===== BEGIN printed: names, fields, word lists, decode rows ===== -/
def RX0 : String := "SquareTower$Basis"
def TX0 : u_T := fun k => match k with
  | 0 => ("SquareTower$Basis", "numbers", "[I", true)
  | _ => ("SquareTower$Basis", "starts", "[I", true)
def tyX0 : Nat → FieldType := fun k => match k with
  | 0 => .array .int
  | _ => .array .int
abbrev wsX00 : List Cond := u_ws RX0 TX0 2
theorem nmX0 : ∀ a, a < 2 → ∀ b, b < 2 → a ≠ b → (TX0 a).2.1 ≠ (TX0 b).2.1 := by decide +kernel
theorem tyX0_ok : ∀ k, k < 2 → parseFieldDescriptor (TX0 k).2.2.1 = some (tyX0 k) := by decide +kernel
abbrev cX0_init : ByteArray := prog_2_method_1_code
def yX0_init : MethodName := ⟨RX0, "<init>", "(IIZ)V"⟩
abbrev cX0_share : ByteArray := prog_2_method_2_code
def yX0_share : MethodName := ⟨RX0, "share", "(II)I"⟩
abbrev cX0_start : ByteArray := prog_2_method_3_code
def yX0_start : MethodName := ⟨RX0, "start", "(I)I"⟩
abbrev cX0_size : ByteArray := prog_2_method_4_code
def yX0_size : MethodName := ⟨RX0, "size", "(I)I"⟩
abbrev cX0_numberAt : ByteArray := prog_2_method_5_code
def yX0_numberAt : MethodName := ⟨RX0, "numberAt", "(II)I"⟩
abbrev cX0_find : ByteArray := prog_2_method_6_code
def yX0_find : MethodName := ⟨RX0, "find", "(IIII)I"⟩
abbrev cX0_bit : ByteArray := prog_2_method_7_code
def yX0_bit : MethodName := ⟨RX0, "bit", "(II)I"⟩
def RX1 : String := "SquareTower$BitRows"
def TX1 : u_T := fun k => match k with
  | 0 => ("SquareTower$BitRows", "cells", "[J", true)
  | 1 => ("SquareTower$BitRows", "words", "I", false)
  | _ => ("SquareTower$BitRows", "count", "I", false)
def tyX1 : Nat → FieldType := fun k => match k with
  | 0 => .array .long
  | 1 => .int
  | _ => .int
abbrev wsX10 : List Cond := u_ws RX1 TX1 3
theorem nmX1 : ∀ a, a < 3 → ∀ b, b < 3 → a ≠ b → (TX1 a).2.1 ≠ (TX1 b).2.1 := by decide +kernel
theorem tyX1_ok : ∀ k, k < 3 → parseFieldDescriptor (TX1 k).2.2.1 = some (tyX1 k) := by decide +kernel
abbrev cX1_init : ByteArray := prog_3_method_1_code
def yX1_init : MethodName := ⟨RX1, "<init>", "(I)V"⟩
abbrev cX1_restart : ByteArray := prog_3_method_2_code
def yX1_restart : MethodName := ⟨RX1, "restart", "(I)V"⟩
abbrev cX1_height : ByteArray := prog_3_method_3_code
def yX1_height : MethodName := ⟨RX1, "height", "()I"⟩
abbrev cX1_open : ByteArray := prog_3_method_4_code
def yX1_open : MethodName := ⟨RX1, "open", "()I"⟩
abbrev cX1_dropLast : ByteArray := prog_3_method_5_code
def yX1_dropLast : MethodName := ⟨RX1, "dropLast", "()V"⟩
abbrev cX1_word : ByteArray := prog_3_method_6_code
def yX1_word : MethodName := ⟨RX1, "word", "(II)J"⟩
abbrev cX1_flipWord : ByteArray := prog_3_method_7_code
def yX1_flipWord : MethodName := ⟨RX1, "flipWord", "(IIJ)V"⟩
abbrev cX1_bit : ByteArray := prog_3_method_8_code
def yX1_bit : MethodName := ⟨RX1, "bit", "(II)I"⟩
abbrev cX1_firstBits : ByteArray := prog_3_method_9_code
def yX1_firstBits : MethodName := ⟨RX1, "firstBits", "(I)I"⟩
abbrev cX1_flip : ByteArray := prog_3_method_10_code
def yX1_flip : MethodName := ⟨RX1, "flip", "(III)V"⟩
abbrev cX1_add : ByteArray := prog_3_method_11_code
def yX1_add : MethodName := ⟨RX1, "add", "(II)V"⟩
abbrev cX1_next : ByteArray := prog_3_method_12_code
def yX1_next : MethodName := ⟨RX1, "next", "(II)I"⟩
abbrev cX1_copy : ByteArray := prog_3_method_13_code
def yX1_copy : MethodName := ⟨RX1, "copy", "(LSquareTower$BitRows;I)I"⟩
def RX2 : String := "SquareTower$Chart"
def TX2 : u_T := fun k => match k with
  | _ => ("SquareTower$Chart", "ranks", "[I", true)
def tyX2 : Nat → FieldType := fun k => match k with
  | _ => .array .int
abbrev wsX20 : List Cond := u_ws RX2 TX2 1
theorem nmX2 : ∀ a, a < 1 → ∀ b, b < 1 → a ≠ b → (TX2 a).2.1 ≠ (TX2 b).2.1 := by decide +kernel
theorem tyX2_ok : ∀ k, k < 1 → parseFieldDescriptor (TX2 k).2.2.1 = some (tyX2 k) := by decide +kernel
abbrev cX2_init : ByteArray := prog_4_method_1_code
def yX2_init : MethodName := ⟨RX2, "<init>", "()V"⟩
abbrev cX2_index : ByteArray := prog_4_method_2_code
def yX2_index : MethodName := ⟨RX2, "index", "(III)I"⟩
abbrev cX2_wipe : ByteArray := prog_4_method_3_code
def yX2_wipe : MethodName := ⟨RX2, "wipe", "()V"⟩
abbrev cX2_tell : ByteArray := prog_4_method_4_code
def yX2_tell : MethodName := ⟨RX2, "tell", "(IIII)V"⟩
abbrev cX2_rankOf : ByteArray := prog_4_method_5_code
def yX2_rankOf : MethodName := ⟨RX2, "rankOf", "(III)I"⟩
abbrev cX2_spent : ByteArray := prog_4_method_6_code
def yX2_spent : MethodName := ⟨RX2, "spent", "(III)I"⟩
abbrev cX2_told : ByteArray := prog_4_method_7_code
def yX2_told : MethodName := ⟨RX2, "told", "()I"⟩
abbrev cX2_isLongerTold : ByteArray := prog_4_method_8_code
def yX2_isLongerTold : MethodName := ⟨RX2, "isLongerTold", "(I)Z"⟩
abbrev cX2_toldFrom : ByteArray := prog_4_method_9_code
def yX2_toldFrom : MethodName := ⟨RX2, "toldFrom", "(I)I"⟩
def RX3 : String := "SquareTower$Floor"
def TX3 : u_T := fun k => match k with
  | 0 => ("SquareTower$Floor", "allowed", "LSquareTower$Basis;", true)
  | 1 => ("SquareTower$Floor", "degrees", "[I", true)
  | 2 => ("SquareTower$Floor", "goals", "LSquareTower$BitRows;", true)
  | _ => ("SquareTower$Floor", "generators", "I", false)
def tyX3 : Nat → FieldType := fun k => match k with
  | 0 => .object "SquareTower$Basis"
  | 1 => .array .int
  | 2 => .object "SquareTower$BitRows"
  | _ => .int
abbrev wsX30 : List Cond := u_ws RX3 TX3 4
theorem nmX3 : ∀ a, a < 4 → ∀ b, b < 4 → a ≠ b → (TX3 a).2.1 ≠ (TX3 b).2.1 := by decide +kernel
theorem tyX3_ok : ∀ k, k < 4 → parseFieldDescriptor (TX3 k).2.2.1 = some (tyX3 k) := by decide +kernel
abbrev cX3_init : ByteArray := prog_5_method_1_code
def yX3_init : MethodName := ⟨RX3, "<init>", "(LSquareTower$Basis;)V"⟩
abbrev cX3_restart : ByteArray := prog_5_method_2_code
def yX3_restart : MethodName := ⟨RX3, "restart", "()V"⟩
abbrev cX3_generators : ByteArray := prog_5_method_3_code
def yX3_generators : MethodName := ⟨RX3, "generators", "()I"⟩
abbrev cX3_degreeOf : ByteArray := prog_5_method_4_code
def yX3_degreeOf : MethodName := ⟨RX3, "degreeOf", "(I)I"⟩
abbrev cX3_goals : ByteArray := prog_5_method_5_code
def yX3_goals : MethodName := ⟨RX3, "goals", "()LSquareTower$BitRows;"⟩
abbrev cX3_add : ByteArray := prog_5_method_6_code
def yX3_add : MethodName := ⟨RX3, "add", "(ILSquareTower$BitRows;I)V"⟩
abbrev cX3_width : ByteArray := prog_5_method_7_code
def yX3_width : MethodName := ⟨RX3, "width", "(II)I"⟩
abbrev cX3_places : ByteArray := prog_5_method_8_code
def yX3_places : MethodName := ⟨RX3, "places", "(I)I"⟩
abbrev cX3_generatorsOf : ByteArray := prog_5_method_9_code
def yX3_generatorsOf : MethodName := ⟨RX3, "generatorsOf", "(I)I"⟩
def RX4 : String := "SquareTower$RowProduct"
def TX4 : u_T := fun k => match k with
  | _ => ("SquareTower$RowProduct", "rows", "LSquareTower$Basis;", true)
def tyX4 : Nat → FieldType := fun k => match k with
  | _ => .object "SquareTower$Basis"
abbrev wsX40 : List Cond := u_ws RX4 TX4 1
theorem nmX4 : ∀ a, a < 1 → ∀ b, b < 1 → a ≠ b → (TX4 a).2.1 ≠ (TX4 b).2.1 := by decide +kernel
theorem tyX4_ok : ∀ k, k < 1 → parseFieldDescriptor (TX4 k).2.2.1 = some (tyX4 k) := by decide +kernel
abbrev cX4_init : ByteArray := prog_6_method_1_code
def yX4_init : MethodName := ⟨RX4, "<init>", "(LSquareTower$Basis;)V"⟩
abbrev cX4_timesSum : ByteArray := prog_6_method_2_code
def yX4_timesSum : MethodName := ⟨RX4, "timesSum", "(III)I"⟩
abbrev cX4_timesRow : ByteArray := prog_6_method_3_code
def yX4_timesRow : MethodName := ⟨RX4, "timesRow", "(III)I"⟩
def RX5 : String := "SquareTower$Space"
def TX5 : u_T := fun k => match k with
  | 0 => ("SquareTower$Space", "degrees", "[I", true)
  | 1 => ("SquareTower$Space", "acts", "[I", true)
  | 2 => ("SquareTower$Space", "faults", "[I", true)
  | 3 => ("SquareTower$Space", "size", "I", false)
  | _ => ("SquareTower$Space", "checked", "Z", false)
def tyX5 : Nat → FieldType := fun k => match k with
  | 0 => .array .int
  | 1 => .array .int
  | 2 => .array .int
  | 3 => .int
  | _ => .boolean
abbrev wsX50 : List Cond := u_ws RX5 TX5 5
theorem nmX5 : ∀ a, a < 5 → ∀ b, b < 5 → a ≠ b → (TX5 a).2.1 ≠ (TX5 b).2.1 := by decide +kernel
theorem tyX5_ok : ∀ k, k < 5 → parseFieldDescriptor (TX5 k).2.2.1 = some (tyX5 k) := by decide +kernel
abbrev cX5_init : ByteArray := prog_7_method_1_code
def yX5_init : MethodName := ⟨RX5, "<init>", "()V"⟩
abbrev cX5_size : ByteArray := prog_7_method_2_code
def yX5_size : MethodName := ⟨RX5, "size", "()I"⟩
abbrev cX5_has : ByteArray := prog_7_method_3_code
def yX5_has : MethodName := ⟨RX5, "has", "(I)Z"⟩
abbrev cX5_degreeOf : ByteArray := prog_7_method_4_code
def yX5_degreeOf : MethodName := ⟨RX5, "degreeOf", "(I)I"⟩
abbrev cX5_acted : ByteArray := prog_7_method_5_code
def yX5_acted : MethodName := ⟨RX5, "acted", "(II)I"⟩
abbrev cX5_setAct : ByteArray := prog_7_method_6_code
def yX5_setAct : MethodName := ⟨RX5, "setAct", "(III)V"⟩
abbrev cX5_restart : ByteArray := prog_7_method_7_code
def yX5_restart : MethodName := ⟨RX5, "restart", "()V"⟩
abbrev cX5_add : ByteArray := prog_7_method_8_code
def yX5_add : MethodName := ⟨RX5, "add", "(I)I"⟩
abbrev cX5_spread : ByteArray := prog_7_method_9_code
def yX5_spread : MethodName := ⟨RX5, "spread", "(III)V"⟩
abbrev cX5_ofDegree : ByteArray := prog_7_method_10_code
def yX5_ofDegree : MethodName := ⟨RX5, "ofDegree", "(I)I"⟩
abbrev cX5_apply : ByteArray := prog_7_method_11_code
def yX5_apply : MethodName := ⟨RX5, "apply", "(II)I"⟩
abbrev cX5_isSound : ByteArray := prog_7_method_12_code
def yX5_isSound : MethodName := ⟨RX5, "isSound", "()Z"⟩
abbrev cX5_firstFault : ByteArray := prog_7_method_13_code
def yX5_firstFault : MethodName := ⟨RX5, "firstFault", "(I)I"⟩
abbrev cX5_findFault : ByteArray := prog_7_method_14_code
def yX5_findFault : MethodName := ⟨RX5, "findFault", "()V"⟩
abbrev cX5_byTheRule : ByteArray := prog_7_method_15_code
def yX5_byTheRule : MethodName := ⟨RX5, "byTheRule", "(III)I"⟩
def RX6 : String := "SquareTower$Squares"
def TX6 : u_T := fun k => match k with
  | 0 => ("SquareTower$Squares", "allowed", "LSquareTower$Basis;", true)
  | _ => ("SquareTower$Squares", "products", "[I", true)
def tyX6 : Nat → FieldType := fun k => match k with
  | 0 => .object "SquareTower$Basis"
  | _ => .array .int
abbrev wsX60 : List Cond := u_ws RX6 TX6 2
theorem nmX6 : ∀ a, a < 2 → ∀ b, b < 2 → a ≠ b → (TX6 a).2.1 ≠ (TX6 b).2.1 := by decide +kernel
theorem tyX6_ok : ∀ k, k < 2 → parseFieldDescriptor (TX6 k).2.2.1 = some (tyX6 k) := by decide +kernel
abbrev cX6_init : ByteArray := prog_8_method_1_code
def yX6_init : MethodName := ⟨RX6, "<init>", "(LSquareTower$Basis;)V"⟩
abbrev cX6_fillUnit : ByteArray := prog_8_method_2_code
def yX6_fillUnit : MethodName := ⟨RX6, "fillUnit", "()V"⟩
abbrev cX6_fillSingles : ByteArray := prog_8_method_3_code
def yX6_fillSingles : MethodName := ⟨RX6, "fillSingles", "()V"⟩
abbrev cX6_fillLonger : ByteArray := prog_8_method_4_code
def yX6_fillLonger : MethodName := ⟨RX6, "fillLonger", "()V"⟩
abbrev cX6_timesTerm : ByteArray := prog_8_method_5_code
def yX6_timesTerm : MethodName := ⟨RX6, "timesTerm", "(III)I"⟩
abbrev cX6_timesSum : ByteArray := prog_8_method_6_code
def yX6_timesSum : MethodName := ⟨RX6, "timesSum", "(III)I"⟩
abbrev cX6_single : ByteArray := prog_8_method_7_code
def yX6_single : MethodName := ⟨RX6, "single", "(I)I"⟩
abbrev cX6_put : ByteArray := prog_8_method_8_code
def yX6_put : MethodName := ⟨RX6, "put", "(III)V"⟩
abbrev cX6_product : ByteArray := prog_8_method_9_code
def yX6_product : MethodName := ⟨RX6, "product", "(II)I"⟩
def RX7 : String := "SquareTower$Tower"
def TX7 : u_T := fun k => match k with
  | 0 => ("SquareTower$Tower", "allowed", "LSquareTower$Basis;", true)
  | 1 => ("SquareTower$Tower", "squares", "LSquareTower$Squares;", true)
  | 2 => ("SquareTower$Tower", "space", "LSquareTower$Space;", true)
  | 3 => ("SquareTower$Tower", "floors", "[LSquareTower$Floor;", true)
  | 4 => ("SquareTower$Tower", "kernels", "[LSquareTower$BitRows;", true)
  | 5 => ("SquareTower$Tower", "values", "LSquareTower$BitRows;", true)
  | 6 => ("SquareTower$Tower", "sources", "LSquareTower$BitRows;", true)
  | 7 => ("SquareTower$Tower", "pivots", "[I", true)
  | 8 => ("SquareTower$Tower", "chainAt", "[I", true)
  | 9 => ("SquareTower$Tower", "targetAt", "[I", true)
  | 10 => ("SquareTower$Tower", "kept", "[I", true)
  | _ => ("SquareTower$Tower", "built", "I", false)
def tyX7 : Nat → FieldType := fun k => match k with
  | 0 => .object "SquareTower$Basis"
  | 1 => .object "SquareTower$Squares"
  | 2 => .object "SquareTower$Space"
  | 3 => .array (.object "SquareTower$Floor")
  | 4 => .array (.object "SquareTower$BitRows")
  | 5 => .object "SquareTower$BitRows"
  | 6 => .object "SquareTower$BitRows"
  | 7 => .array .int
  | 8 => .array .int
  | 9 => .array .int
  | 10 => .array .int
  | _ => .int
abbrev wsX70 : List Cond := u_ws RX7 TX7 12
theorem nmX7 : ∀ a, a < 12 → ∀ b, b < 12 → a ≠ b → (TX7 a).2.1 ≠ (TX7 b).2.1 := by decide +kernel
theorem tyX7_ok : ∀ k, k < 12 → parseFieldDescriptor (TX7 k).2.2.1 = some (tyX7 k) := by decide +kernel
abbrev cX7_init : ByteArray := prog_9_method_1_code
def yX7_init : MethodName := ⟨RX7, "<init>", "(LSquareTower$Basis;LSquareTower$Squares;LSquareTower$Space;)V"⟩
abbrev cX7_restart : ByteArray := prog_9_method_2_code
def yX7_restart : MethodName := ⟨RX7, "restart", "()V"⟩
abbrev cX7_generatorsAt : ByteArray := prog_9_method_3_code
def yX7_generatorsAt : MethodName := ⟨RX7, "generatorsAt", "(II)I"⟩
abbrev cX7_turnByTurn : ByteArray := prog_9_method_4_code
def yX7_turnByTurn : MethodName := ⟨RX7, "turnByTurn", "(I)I"⟩
abbrev cX7_rankOfJoins : ByteArray := prog_9_method_5_code
def yX7_rankOfJoins : MethodName := ⟨RX7, "rankOfJoins", "(III)I"⟩
abbrev cX7_joinsOf : ByteArray := prog_9_method_6_code
def yX7_joinsOf : MethodName := ⟨RX7, "joinsOf", "(LSquareTower$Floor;LSquareTower$BitRows;III)I"⟩
abbrev cX7_build : ByteArray := prog_9_method_7_code
def yX7_build : MethodName := ⟨RX7, "build", "(I)V"⟩
abbrev cX7_buildDegree : ByteArray := prog_9_method_8_code
def yX7_buildDegree : MethodName := ⟨RX7, "buildDegree", "(I)V"⟩
abbrev cX7_listElements : ByteArray := prog_9_method_9_code
def yX7_listElements : MethodName := ⟨RX7, "listElements", "(LSquareTower$BitRows;I)V"⟩
abbrev cX7_carryOver : ByteArray := prog_9_method_10_code
def yX7_carryOver : MethodName := ⟨RX7, "carryOver", "(LSquareTower$Floor;LSquareTower$Floor;ILSquareTower$BitRows;)V"⟩
abbrev cX7_listPlaces : ByteArray := prog_9_method_11_code
def yX7_listPlaces : MethodName := ⟨RX7, "listPlaces", "(LSquareTower$Floor;II)V"⟩
abbrev cX7_putProduct : ByteArray := prog_9_method_12_code
def yX7_putProduct : MethodName := ⟨RX7, "putProduct", "(IILSquareTower$BitRows;I)V"⟩
abbrev cX7_applyChain : ByteArray := prog_9_method_13_code
def yX7_applyChain : MethodName := ⟨RX7, "applyChain", "(II)I"⟩
abbrev cX7_keepOrDrop : ByteArray := prog_9_method_14_code
def yX7_keepOrDrop : MethodName := ⟨RX7, "keepOrDrop", "(ILSquareTower$BitRows;)V"⟩
abbrev cX7_cover : ByteArray := prog_9_method_15_code
def yX7_cover : MethodName := ⟨RX7, "cover", "(LSquareTower$Floor;LSquareTower$BitRows;I)V"⟩
abbrev cX7_reduce : ByteArray := prog_9_method_16_code
def yX7_reduce : MethodName := ⟨RX7, "reduce", "(I)I"⟩
def RX8 : String := "SquareTower"
def TX8 : u_T := fun k => match k with
  | 0 => ("SquareTower", "allowed", "LSquareTower$Basis;", true)
  | 1 => ("SquareTower", "squares", "LSquareTower$Squares;", true)
  | 2 => ("SquareTower", "rowProduct", "LSquareTower$RowProduct;", true)
  | 3 => ("SquareTower", "rows", "LSquareTower$Basis;", true)
  | 4 => ("SquareTower", "space", "LSquareTower$Space;", true)
  | 5 => ("SquareTower", "tower", "LSquareTower$Tower;", true)
  | 6 => ("SquareTower", "chart", "LSquareTower$Chart;", true)
  | 7 => ("SquareTower", "chain", "[I", true)
  | 8 => ("SquareTower", "length", "I", false)
  | _ => ("SquareTower", "degree", "I", false)
def tyX8 : Nat → FieldType := fun k => match k with
  | 0 => .object "SquareTower$Basis"
  | 1 => .object "SquareTower$Squares"
  | 2 => .object "SquareTower$RowProduct"
  | 3 => .object "SquareTower$Basis"
  | 4 => .object "SquareTower$Space"
  | 5 => .object "SquareTower$Tower"
  | 6 => .object "SquareTower$Chart"
  | 7 => .array .int
  | 8 => .int
  | _ => .int
abbrev wsX80 : List Cond := u_ws RX8 TX8 10
theorem nmX8 : ∀ a, a < 10 → ∀ b, b < 10 → a ≠ b → (TX8 a).2.1 ≠ (TX8 b).2.1 := by decide +kernel
theorem tyX8_ok : ∀ k, k < 10 → parseFieldDescriptor (TX8 k).2.2.1 = some (tyX8 k) := by decide +kernel
abbrev cX8_init : ByteArray := prog_1_method_1_code
def yX8_init : MethodName := ⟨RX8, "<init>", "()V"⟩
abbrev cX8_square : ByteArray := prog_1_method_2_code
def yX8_square : MethodName := ⟨RX8, "square", "(I)I"⟩
abbrev cX8_clear : ByteArray := prog_1_method_3_code
def yX8_clear : MethodName := ⟨RX8, "clear", "()I"⟩
abbrev cX8_sum : ByteArray := prog_1_method_4_code
def yX8_sum : MethodName := ⟨RX8, "sum", "(I)I"⟩
abbrev cX8_term : ByteArray := prog_1_method_5_code
def yX8_term : MethodName := ⟨RX8, "term", "(III)I"⟩
abbrev cX8_many : ByteArray := prog_1_method_6_code
def yX8_many : MethodName := ⟨RX8, "many", "(I)I"⟩
abbrev cX8_sumOfAllowed : ByteArray := prog_1_method_7_code
def yX8_sumOfAllowed : MethodName := ⟨RX8, "sumOfAllowed", "()I"⟩
abbrev cX8_sumOfRows : ByteArray := prog_1_method_8_code
def yX8_sumOfRows : MethodName := ⟨RX8, "sumOfRows", "()I"⟩
abbrev cX8_placeOfBit : ByteArray := prog_1_method_9_code
def yX8_placeOfBit : MethodName := ⟨RX8, "placeOfBit", "(II)I"⟩
abbrev cX8_empty : ByteArray := prog_1_method_10_code
def yX8_empty : MethodName := ⟨RX8, "empty", "()I"⟩
abbrev cX8_element : ByteArray := prog_1_method_11_code
def yX8_element : MethodName := ⟨RX8, "element", "(I)I"⟩
abbrev cX8_act : ByteArray := prog_1_method_12_code
def yX8_act : MethodName := ⟨RX8, "act", "(III)I"⟩
abbrev cX8_space : ByteArray := prog_1_method_13_code
def yX8_space : MethodName := ⟨RX8, "space", "(III)I"⟩
abbrev cX8_does : ByteArray := prog_1_method_14_code
def yX8_does : MethodName := ⟨RX8, "does", "(I)I"⟩
abbrev cX8_about : ByteArray := prog_1_method_15_code
def yX8_about : MethodName := ⟨RX8, "about", "(II)I"⟩
abbrev cX8_fault : ByteArray := prog_1_method_16_code
def yX8_fault : MethodName := ⟨RX8, "fault", "(I)I"⟩
abbrev cX8_isName : ByteArray := prog_1_method_17_code
def yX8_isName : MethodName := ⟨RX8, "isName", "(III)Z"⟩
abbrev cX8_spaceHasChanged : ByteArray := prog_1_method_18_code
def yX8_spaceHasChanged : MethodName := ⟨RX8, "spaceHasChanged", "()V"⟩
abbrev cX8_live : ByteArray := prog_1_method_19_code
def yX8_live : MethodName := ⟨RX8, "live", "(II)I"⟩
abbrev cX8_joins : ByteArray := prog_1_method_20_code
def yX8_joins : MethodName := ⟨RX8, "joins", "(III)I"⟩
abbrev cX8_balance : ByteArray := prog_1_method_21_code
def yX8_balance : MethodName := ⟨RX8, "balance", "(I)I"⟩
abbrev cX8_isInChart : ByteArray := prog_1_method_22_code
def yX8_isInChart : MethodName := ⟨RX8, "isInChart", "(II)Z"⟩
abbrev cX8_differ : ByteArray := prog_1_method_23_code
def yX8_differ : MethodName := ⟨RX8, "differ", "(IIII)I"⟩
abbrev cX8_page : ByteArray := prog_1_method_24_code
def yX8_page : MethodName := ⟨RX8, "page", "(III)I"⟩
abbrev cX8_count : ByteArray := prog_1_method_25_code
def yX8_count : MethodName := ⟨RX8, "count", "(I)I"⟩
abbrev cX8_mayBeTold : ByteArray := prog_1_method_26_code
def yX8_mayBeTold : MethodName := ⟨RX8, "mayBeTold", "(IIII)Z"⟩
abbrev cX8_leftOnPage : ByteArray := prog_1_method_27_code
def yX8_leftOnPage : MethodName := ⟨RX8, "leftOnPage", "(III)I"⟩
abbrev cX8_isOdd : ByteArray := prog_1_method_28_code
def yX8_isOdd : MethodName := ⟨RX8, "isOdd", "(II)Z"⟩
def RX9 : String := "SquareTowerModel"
def TX9 : u_T := fun k => match k with
  | 0 => ("SquareTowerModel", "begins", "[I", true)
  | 1 => ("SquareTowerModel", "long1", "[I", true)
  | 2 => ("SquareTowerModel", "part", "[I", true)
  | 3 => ("SquareTowerModel", "row", "[I", true)
  | 4 => ("SquareTowerModel", "squared", "[I", true)
  | 5 => ("SquareTowerModel", "squaredRow", "[I", true)
  | 6 => ("SquareTowerModel", "product", "[I", true)
  | 7 => ("SquareTowerModel", "words", "I", false)
  | 8 => ("SquareTowerModel", "wordSize", "I", false)
  | 9 => ("SquareTowerModel", "word", "[I", true)
  | 10 => ("SquareTowerModel", "elements", "I", false)
  | 11 => ("SquareTowerModel", "degree", "[I", true)
  | 12 => ("SquareTowerModel", "acts", "[I", true)
  | 13 => ("SquareTowerModel", "isLaid", "Z", false)
  | 14 => ("SquareTowerModel", "generators", "[I", true)
  | 15 => ("SquareTowerModel", "generatorDegree", "[I", true)
  | 16 => ("SquareTowerModel", "goesTo", "[J", true)
  | 17 => ("SquareTowerModel", "differences", "I", false)
  | 18 => ("SquareTowerModel", "rank", "[I", true)
  | 19 => ("SquareTowerModel", "faultA", "I", false)
  | 20 => ("SquareTowerModel", "faultB", "I", false)
  | 21 => ("SquareTowerModel", "rows", "[J", true)
  | 22 => ("SquareTowerModel", "manyRows", "I", false)
  | 23 => ("SquareTowerModel", "leads", "[I", true)
  | 24 => ("SquareTowerModel", "now", "[J", true)
  | 25 => ("SquareTowerModel", "nothing", "[J", true)
  | 26 => ("SquareTowerModel", "manyNothing", "I", false)
  | 27 => ("SquareTowerModel", "nextNothing", "[J", true)
  | 28 => ("SquareTowerModel", "manyNext", "I", false)
  | _ => ("SquareTowerModel", "table", "[I", true)
def tyX9 : Nat → FieldType := fun k => match k with
  | 0 => .array .int
  | 1 => .array .int
  | 2 => .array .int
  | 3 => .array .int
  | 4 => .array .int
  | 5 => .array .int
  | 6 => .array .int
  | 7 => .int
  | 8 => .int
  | 9 => .array .int
  | 10 => .int
  | 11 => .array .int
  | 12 => .array .int
  | 13 => .boolean
  | 14 => .array .int
  | 15 => .array .int
  | 16 => .array .long
  | 17 => .int
  | 18 => .array .int
  | 19 => .int
  | 20 => .int
  | 21 => .array .long
  | 22 => .int
  | 23 => .array .int
  | 24 => .array .long
  | 25 => .array .long
  | 26 => .int
  | 27 => .array .long
  | 28 => .int
  | _ => .array .int
abbrev wsX90 : List Cond := u_ws RX9 TX9 30
theorem nmX9 : ∀ a, a < 30 → ∀ b, b < 30 → a ≠ b → (TX9 a).2.1 ≠ (TX9 b).2.1 := by decide +kernel
theorem tyX9_ok : ∀ k, k < 30 → parseFieldDescriptor (TX9 k).2.2.1 = some (tyX9 k) := by decide +kernel
abbrev cX9_init : ByteArray := prog_11_method_1_code
def yX9_init : MethodName := ⟨RX9, "<init>", "()V"⟩
abbrev cX9_in : ByteArray := prog_11_method_3_code
def yX9_in : MethodName := ⟨RX9, "in", "(III)Z"⟩
abbrev cX9_isOdd : ByteArray := prog_11_method_4_code
def yX9_isOdd : MethodName := ⟨RX9, "isOdd", "(II)Z"⟩
abbrev cX9_findWords : ByteArray := prog_11_method_5_code
def yX9_findWords : MethodName := ⟨RX9, "findWords", "()V"⟩
abbrev cX9_findRows : ByteArray := prog_11_method_6_code
def yX9_findRows : MethodName := ⟨RX9, "findRows", "()V"⟩
abbrev cX9_manyOf : ByteArray := prog_11_method_7_code
def yX9_manyOf : MethodName := ⟨RX9, "manyOf", "(I)I"⟩
abbrev cX9_placeOf : ByteArray := prog_11_method_8_code
def yX9_placeOf : MethodName := ⟨RX9, "placeOf", "(IIII)I"⟩
abbrev cX9_restOf : ByteArray := prog_11_method_9_code
def yX9_restOf : MethodName := ⟨RX9, "restOf", "(II)I"⟩
abbrev cX9_squares : ByteArray := prog_11_method_10_code
def yX9_squares : MethodName := ⟨RX9, "squares", "(III)I"⟩
abbrev cX9_squaresRow : ByteArray := prog_11_method_11_code
def yX9_squaresRow : MethodName := ⟨RX9, "squaresRow", "(III)I"⟩
abbrev cX9_squareOf : ByteArray := prog_11_method_12_code
def yX9_squareOf : MethodName := ⟨RX9, "squareOf", "(III)I"⟩
abbrev cX9_rowAt : ByteArray := prog_11_method_13_code
def yX9_rowAt : MethodName := ⟨RX9, "rowAt", "(IIII)I"⟩
abbrev cX9_squareOfRow : ByteArray := prog_11_method_14_code
def yX9_squareOfRow : MethodName := ⟨RX9, "squareOfRow", "(III)I"⟩
abbrev cX9_findSquares : ByteArray := prog_11_method_15_code
def yX9_findSquares : MethodName := ⟨RX9, "findSquares", "()V"⟩
abbrev cX9_degreeOf : ByteArray := prog_11_method_16_code
def yX9_degreeOf : MethodName := ⟨RX9, "degreeOf", "(I)I"⟩
abbrev cX9_findProducts : ByteArray := prog_11_method_17_code
def yX9_findProducts : MethodName := ⟨RX9, "findProducts", "()V"⟩
abbrev cX9_wordDegree : ByteArray := prog_11_method_18_code
def yX9_wordDegree : MethodName := ⟨RX9, "wordDegree", "()I"⟩
abbrev cX9_square : ByteArray := prog_11_method_19_code
def yX9_square : MethodName := ⟨RX9, "square", "(I)I"⟩
abbrev cX9_clear : ByteArray := prog_11_method_20_code
def yX9_clear : MethodName := ⟨RX9, "clear", "()I"⟩
abbrev cX9_sumOf : ByteArray := prog_11_method_21_code
def yX9_sumOf : MethodName := ⟨RX9, "sumOf", "(I)I"⟩
abbrev cX9_ones : ByteArray := prog_11_method_22_code
def yX9_ones : MethodName := ⟨RX9, "ones", "(I)I"⟩
abbrev cX9_sum : ByteArray := prog_11_method_23_code
def yX9_sum : MethodName := ⟨RX9, "sum", "(I)I"⟩
abbrev cX9_term : ByteArray := prog_11_method_24_code
def yX9_term : MethodName := ⟨RX9, "term", "(III)I"⟩
abbrev cX9_many : ByteArray := prog_11_method_25_code
def yX9_many : MethodName := ⟨RX9, "many", "(I)I"⟩
abbrev cX9_changes : ByteArray := prog_11_method_26_code
def yX9_changes : MethodName := ⟨RX9, "changes", "()V"⟩
abbrev cX9_empty : ByteArray := prog_11_method_27_code
def yX9_empty : MethodName := ⟨RX9, "empty", "()I"⟩
abbrev cX9_comes : ByteArray := prog_11_method_28_code
def yX9_comes : MethodName := ⟨RX9, "comes", "(I)V"⟩
abbrev cX9_element : ByteArray := prog_11_method_29_code
def yX9_element : MethodName := ⟨RX9, "element", "(I)I"⟩
abbrev cX9_ofDegree : ByteArray := prog_11_method_30_code
def yX9_ofDegree : MethodName := ⟨RX9, "ofDegree", "(I)I"⟩
abbrev cX9_isElement : ByteArray := prog_11_method_31_code
def yX9_isElement : MethodName := ⟨RX9, "isElement", "(I)Z"⟩
abbrev cX9_act : ByteArray := prog_11_method_32_code
def yX9_act : MethodName := ⟨RX9, "act", "(III)I"⟩
abbrev cX9_space : ByteArray := prog_11_method_33_code
def yX9_space : MethodName := ⟨RX9, "space", "(III)I"⟩
abbrev cX9_acted : ByteArray := prog_11_method_34_code
def yX9_acted : MethodName := ⟨RX9, "acted", "(II)I"⟩
abbrev cX9_does : ByteArray := prog_11_method_35_code
def yX9_does : MethodName := ⟨RX9, "does", "(I)I"⟩
abbrev cX9_about : ByteArray := prog_11_method_36_code
def yX9_about : MethodName := ⟨RX9, "about", "(II)I"⟩
abbrev cX9_findFault : ByteArray := prog_11_method_37_code
def yX9_findFault : MethodName := ⟨RX9, "findFault", "()I"⟩
abbrev cX9_isSound : ByteArray := prog_11_method_38_code
def yX9_isSound : MethodName := ⟨RX9, "isSound", "()Z"⟩
abbrev cX9_fault : ByteArray := prog_11_method_39_code
def yX9_fault : MethodName := ⟨RX9, "fault", "(I)I"⟩
abbrev cX9_offset : ByteArray := prog_11_method_40_code
def yX9_offset : MethodName := ⟨RX9, "offset", "(III)I"⟩
abbrev cX9_wide : ByteArray := prog_11_method_41_code
def yX9_wide : MethodName := ⟨RX9, "wide", "(II)I"⟩
abbrev cX9_turns : ByteArray := prog_11_method_42_code
def yX9_turns : MethodName := ⟨RX9, "turns", "(I)V"⟩
abbrev cX9_clearNow : ByteArray := prog_11_method_43_code
def yX9_clearNow : MethodName := ⟨RX9, "clearNow", "()V"⟩
abbrev cX9_goes : ByteArray := prog_11_method_44_code
def yX9_goes : MethodName := ⟨RX9, "goes", "(IIII)V"⟩
abbrev cX9_lead : ByteArray := prog_11_method_45_code
def yX9_lead : MethodName := ⟨RX9, "lead", "()I"⟩
abbrev cX9_reduces : ByteArray := prog_11_method_46_code
def yX9_reduces : MethodName := ⟨RX9, "reduces", "()I"⟩
abbrev cX9_keeps : ByteArray := prog_11_method_47_code
def yX9_keeps : MethodName := ⟨RX9, "keeps", "(I)V"⟩
abbrev cX9_comesGenerator : ByteArray := prog_11_method_48_code
def yX9_comesGenerator : MethodName := ⟨RX9, "comesGenerator", "(II)V"⟩
abbrev cX9_lays : ByteArray := prog_11_method_49_code
def yX9_lays : MethodName := ⟨RX9, "lays", "(II)V"⟩
abbrev cX9_layAll : ByteArray := prog_11_method_50_code
def yX9_layAll : MethodName := ⟨RX9, "layAll", "()V"⟩
abbrev cX9_isPlace : ByteArray := prog_11_method_51_code
def yX9_isPlace : MethodName := ⟨RX9, "isPlace", "(II)Z"⟩
abbrev cX9_liveAt : ByteArray := prog_11_method_52_code
def yX9_liveAt : MethodName := ⟨RX9, "liveAt", "(II)I"⟩
abbrev cX9_live : ByteArray := prog_11_method_53_code
def yX9_live : MethodName := ⟨RX9, "live", "(II)I"⟩
abbrev cX9_rankOf : ByteArray := prog_11_method_54_code
def yX9_rankOf : MethodName := ⟨RX9, "rankOf", "([II)I"⟩
abbrev cX9_joins : ByteArray := prog_11_method_55_code
def yX9_joins : MethodName := ⟨RX9, "joins", "(III)I"⟩
abbrev cX9_balance : ByteArray := prog_11_method_56_code
def yX9_balance : MethodName := ⟨RX9, "balance", "(I)I"⟩
abbrev cX9_rankAt : ByteArray := prog_11_method_57_code
def yX9_rankAt : MethodName := ⟨RX9, "rankAt", "(III)I"⟩
abbrev cX9_rankBoth : ByteArray := prog_11_method_58_code
def yX9_rankBoth : MethodName := ⟨RX9, "rankBoth", "(III)I"⟩
abbrev cX9_pageAt : ByteArray := prog_11_method_59_code
def yX9_pageAt : MethodName := ⟨RX9, "pageAt", "(III)I"⟩
abbrev cX9_differ : ByteArray := prog_11_method_60_code
def yX9_differ : MethodName := ⟨RX9, "differ", "(IIII)I"⟩
abbrev cX9_page : ByteArray := prog_11_method_61_code
def yX9_page : MethodName := ⟨RX9, "page", "(III)I"⟩
abbrev cX9_count : ByteArray := prog_11_method_62_code
def yX9_count : MethodName := ⟨RX9, "count", "(I)I"⟩
def RJ6 : String := "java/lang/Integer"
def TJ6 : u_T := fun k => match k with
  | _ => ("", "", "", false)
def tyJ6 : Nat → FieldType := fun k => match k with
  | _ => .int
abbrev wsJ60 : List Cond := u_ws RJ6 TJ6 0
theorem nmJ6 : ∀ a, a < 0 → ∀ b, b < 0 → a ≠ b → (TJ6 a).2.1 ≠ (TJ6 b).2.1 := by decide +kernel
theorem tyJ6_ok : ∀ k, k < 0 → parseFieldDescriptor (TJ6 k).2.2.1 = some (tyJ6 k) := by decide +kernel
abbrev cJ6_bitCount_0f7a4 : ByteArray := prog_12_method_49_code
def yJ6_bitCount_0f7a4 : MethodName := ⟨RJ6, "bitCount", "(I)I"⟩
def RJ13 : String := "java/lang/Long"
def TJ13 : u_T := fun k => match k with
  | _ => ("", "", "", false)
def tyJ13 : Nat → FieldType := fun k => match k with
  | _ => .int
abbrev wsJ130 : List Cond := u_ws RJ13 TJ13 0
theorem nmJ13 : ∀ a, a < 0 → ∀ b, b < 0 → a ≠ b → (TJ13 a).2.1 ≠ (TJ13 b).2.1 := by decide +kernel
theorem tyJ13_ok : ∀ k, k < 0 → parseFieldDescriptor (TJ13 k).2.2.1 = some (tyJ13 k) := by decide +kernel
abbrev cJ13_bitCount_95d88 : ByteArray := prog_13_method_50_code
def yJ13_bitCount_95d88 : MethodName := ⟨RJ13, "bitCount", "(J)I"⟩
def RJ9 : String := "java/lang/Math"
def TJ9 : u_T := fun k => match k with
  | _ => ("", "", "", false)
def tyJ9 : Nat → FieldType := fun k => match k with
  | _ => .int
abbrev wsJ90 : List Cond := u_ws RJ9 TJ9 0
theorem nmJ9 : ∀ a, a < 0 → ∀ b, b < 0 → a ≠ b → (TJ9 a).2.1 ≠ (TJ9 b).2.1 := by decide +kernel
theorem tyJ9_ok : ∀ k, k < 0 → parseFieldDescriptor (TJ9 k).2.2.1 = some (tyJ9 k) := by decide +kernel
abbrev cJ9_max_7cf53 : ByteArray := prog_14_method_65_code
def yJ9_max_7cf53 : MethodName := ⟨RJ9, "max", "(II)I"⟩
abbrev cJ9_min_7cf53 : ByteArray := prog_14_method_69_code
def yJ9_min_7cf53 : MethodName := ⟨RJ9, "min", "(II)I"⟩
def RJ7 : String := "java/util/Arrays"
def TJ7 : u_T := fun k => match k with
  | _ => ("", "", "", false)
def tyJ7 : Nat → FieldType := fun k => match k with
  | _ => .int
abbrev wsJ70 : List Cond := u_ws RJ7 TJ7 0
theorem nmJ7 : ∀ a, a < 0 → ∀ b, b < 0 → a ≠ b → (TJ7 a).2.1 ≠ (TJ7 b).2.1 := by decide +kernel
theorem tyJ7_ok : ∀ k, k < 0 → parseFieldDescriptor (TJ7 k).2.2.1 = some (tyJ7 k) := by decide +kernel
abbrev cJ7_rangeCheck_23922 : ByteArray := prog_15_method_30_code
def yJ7_rangeCheck_23922 : MethodName := ⟨RJ7, "rangeCheck", "(III)V"⟩
abbrev cJ7_fill_53178 : ByteArray := prog_15_method_103_code
def yJ7_fill_53178 : MethodName := ⟨RJ7, "fill", "([II)V"⟩
abbrev cJ7_fill_fda19 : ByteArray := prog_15_method_104_code
def yJ7_fill_fda19 : MethodName := ⟨RJ7, "fill", "([IIII)V"⟩
def RL : String := "SquareTowerLaw"
abbrev cL_law : ByteArray := code
def yL_law : MethodName := ⟨RL, "law", "([I)Z"⟩
def wsX0_share : List Cond := .code yX0_share cX0_share 2 (some .int) :: ([])
def wsX0_init : List Cond := .code yX0_init cX0_init 10 none :: ([.methodLink RX0 3 objectInit, .instanceMethod objectInit, .code objectInit ⟨#[0xb1]⟩ 1 none, .arrayClass .int, .fieldLink RX0 9 "SquareTower$Basis" "numbers" "[I", .fieldLink RX0 15 "SquareTower$Basis" "starts" "[I", .methodLink RX0 18 yX0_share, .static yX0_share, .initialized RX0, .code yX0_share cX0_share 2 (some .int)] ++ wsX00)
def wsX0_start : List Cond := .code yX0_start cX0_start 2 (some .int) :: ([.fieldLink RX0 15 "SquareTower$Basis" "starts" "[I", .methodLink RX0 22 Lib.Math.min.name, .static Lib.Math.min.name, .initialized "java/lang/Math", .code Lib.Math.min.name Lib.Math.min.code 2 (some .int), .methodLink RX0 27 Lib.Math.max.name, .static Lib.Math.max.name, .code Lib.Math.max.name Lib.Math.max.code 2 (some .int)] ++ wsX00)
def wsX0_size : List Cond := .code yX0_size cX0_size 2 (some .int) :: ([.fieldLink RX0 15 "SquareTower$Basis" "starts" "[I"] ++ wsX00)
def wsX0_numberAt : List Cond := .code yX0_numberAt cX0_numberAt 3 (some .int) :: ([.fieldLink RX0 9 "SquareTower$Basis" "numbers" "[I"] ++ wsX00)
def wsX0_find : List Cond := .code yX0_find cX0_find 6 (some .int) :: ([.methodLink RX0 30 yX0_start, .instanceMethod yX0_start, .selects RX0 yX0_start yX0_start, .initialized RX0, .code yX0_start cX0_start 2 (some .int), .fieldLink RX0 15 "SquareTower$Basis" "starts" "[I", .methodLink RX0 22 Lib.Math.min.name, .static Lib.Math.min.name, .initialized "java/lang/Math", .code Lib.Math.min.name Lib.Math.min.code 2 (some .int), .methodLink RX0 27 Lib.Math.max.name, .static Lib.Math.max.name, .code Lib.Math.max.name Lib.Math.max.code 2 (some .int), .methodLink RX0 34 yX0_numberAt, .instanceMethod yX0_numberAt, .selects RX0 yX0_numberAt yX0_numberAt, .code yX0_numberAt cX0_numberAt 3 (some .int), .fieldLink RX0 9 "SquareTower$Basis" "numbers" "[I"] ++ wsX00)
def wsX0_bit : List Cond := .code yX0_bit cX0_bit 4 (some .int) :: ([.methodLink RX0 30 yX0_start, .instanceMethod yX0_start, .selects RX0 yX0_start yX0_start, .initialized RX0, .code yX0_start cX0_start 2 (some .int), .fieldLink RX0 15 "SquareTower$Basis" "starts" "[I", .methodLink RX0 22 Lib.Math.min.name, .static Lib.Math.min.name, .initialized "java/lang/Math", .code Lib.Math.min.name Lib.Math.min.code 2 (some .int), .methodLink RX0 27 Lib.Math.max.name, .static Lib.Math.max.name, .code Lib.Math.max.name Lib.Math.max.code 2 (some .int), .methodLink RX0 37 yX0_size, .instanceMethod yX0_size, .selects RX0 yX0_size yX0_size, .code yX0_size cX0_size 2 (some .int)] ++ wsX00)
def wsX1_init : List Cond := .code yX1_init cX1_init 2 none :: ([.methodLink RX1 3 objectInit, .instanceMethod objectInit, .code objectInit ⟨#[0xb1]⟩ 1 none, .methodLink RX1 9 Lib.Math.max.name, .static Lib.Math.max.name, .initialized "java/lang/Math", .code Lib.Math.max.name Lib.Math.max.code 2 (some .int), .arrayClass .long, .fieldLink RX1 15 "SquareTower$BitRows" "cells" "[J", .fieldLink RX1 21 "SquareTower$BitRows" "words" "I", .fieldLink RX1 25 "SquareTower$BitRows" "count" "I"] ++ wsX10)
def wsX1_restart : List Cond := .code yX1_restart cX1_restart 2 none :: ([.methodLink RX1 28 Lib.Math.min.name, .static Lib.Math.min.name, .initialized "java/lang/Math", .code Lib.Math.min.name Lib.Math.min.code 2 (some .int), .methodLink RX1 9 Lib.Math.max.name, .static Lib.Math.max.name, .code Lib.Math.max.name Lib.Math.max.code 2 (some .int), .fieldLink RX1 21 "SquareTower$BitRows" "words" "I", .fieldLink RX1 25 "SquareTower$BitRows" "count" "I"] ++ wsX10)
def wsX1_height : List Cond := .code yX1_height cX1_height 1 (some .int) :: ([.fieldLink RX1 25 "SquareTower$BitRows" "count" "I"] ++ wsX10)
def wsX1_open : List Cond := .code yX1_open cX1_open 2 (some .int) :: ([.fieldLink RX1 25 "SquareTower$BitRows" "count" "I", .fieldLink RX1 21 "SquareTower$BitRows" "words" "I", .fieldLink RX1 15 "SquareTower$BitRows" "cells" "[J"] ++ wsX10)
def wsX1_dropLast : List Cond := .code yX1_dropLast cX1_dropLast 1 none :: ([.fieldLink RX1 25 "SquareTower$BitRows" "count" "I", .methodLink RX1 9 Lib.Math.max.name, .static Lib.Math.max.name, .initialized "java/lang/Math", .code Lib.Math.max.name Lib.Math.max.code 2 (some .int)] ++ wsX10)
def wsX1_word : List Cond := .code yX1_word cX1_word 3 (some .long) :: ([.fieldLink RX1 25 "SquareTower$BitRows" "count" "I", .fieldLink RX1 21 "SquareTower$BitRows" "words" "I", .fieldLink RX1 15 "SquareTower$BitRows" "cells" "[J"] ++ wsX10)
def wsX1_flipWord : List Cond := .code yX1_flipWord cX1_flipWord 5 none :: ([.fieldLink RX1 25 "SquareTower$BitRows" "count" "I", .fieldLink RX1 21 "SquareTower$BitRows" "words" "I", .fieldLink RX1 15 "SquareTower$BitRows" "cells" "[J"] ++ wsX10)
def wsX1_bit : List Cond := .code yX1_bit cX1_bit 3 (some .int) :: ([.methodLink RX1 31 yX1_word, .instanceMethod yX1_word, .selects RX1 yX1_word yX1_word, .initialized RX1, .code yX1_word cX1_word 3 (some .long), .fieldLink RX1 25 "SquareTower$BitRows" "count" "I", .fieldLink RX1 21 "SquareTower$BitRows" "words" "I", .fieldLink RX1 15 "SquareTower$BitRows" "cells" "[J"] ++ wsX10)
def wsX1_firstBits : List Cond := .code yX1_firstBits cX1_firstBits 2 (some .int) :: ([.constantLong RX1 35 (2147483647), .methodLink RX1 31 yX1_word, .instanceMethod yX1_word, .selects RX1 yX1_word yX1_word, .initialized RX1, .code yX1_word cX1_word 3 (some .long), .fieldLink RX1 25 "SquareTower$BitRows" "count" "I", .fieldLink RX1 21 "SquareTower$BitRows" "words" "I", .fieldLink RX1 15 "SquareTower$BitRows" "cells" "[J"] ++ wsX10)
def wsX1_flip : List Cond := .code yX1_flip cX1_flip 5 none :: ([.methodLink RX1 37 yX1_flipWord, .instanceMethod yX1_flipWord, .selects RX1 yX1_flipWord yX1_flipWord, .initialized RX1, .code yX1_flipWord cX1_flipWord 5 none, .fieldLink RX1 25 "SquareTower$BitRows" "count" "I", .fieldLink RX1 21 "SquareTower$BitRows" "words" "I", .fieldLink RX1 15 "SquareTower$BitRows" "cells" "[J"] ++ wsX10)
def wsX1_add : List Cond := .code yX1_add cX1_add 4 none :: ([.fieldLink RX1 25 "SquareTower$BitRows" "count" "I", .fieldLink RX1 21 "SquareTower$BitRows" "words" "I", .fieldLink RX1 15 "SquareTower$BitRows" "cells" "[J"] ++ wsX10)
def wsJ13_bitCount_95d88 : List Cond := .code yJ13_bitCount_95d88 cJ13_bitCount_95d88 2 (some .int) :: ([.constantLong RJ13 314 (6148914691236517205), .constantLong RJ13 316 (3689348814741910323), .constantLong RJ13 318 (1085102592571150095)])
def wsX1_next : List Cond := .code yX1_next cX1_next 8 (some .int) :: ([.fieldLink RX1 25 "SquareTower$BitRows" "count" "I", .constantLong RX1 41 (-1), .fieldLink RX1 21 "SquareTower$BitRows" "words" "I", .fieldLink RX1 15 "SquareTower$BitRows" "cells" "[J", .methodLink RX1 43 yJ13_bitCount_95d88, .static yJ13_bitCount_95d88, .initialized RJ13, .code yJ13_bitCount_95d88 cJ13_bitCount_95d88 2 (some .int), .constantLong RJ13 314 (6148914691236517205), .constantLong RJ13 316 (3689348814741910323), .constantLong RJ13 318 (1085102592571150095)] ++ wsX10)
def wsX1_copy : List Cond := .code yX1_copy cX1_copy 5 (some .int) :: ([.fieldLink RX1 21 "SquareTower$BitRows" "words" "I", .methodLink RX1 49 yX1_open, .instanceMethod yX1_open, .selects RX1 yX1_open yX1_open, .initialized RX1, .code yX1_open cX1_open 2 (some .int), .fieldLink RX1 25 "SquareTower$BitRows" "count" "I", .fieldLink RX1 15 "SquareTower$BitRows" "cells" "[J", .methodLink RX1 31 yX1_word, .instanceMethod yX1_word, .selects RX1 yX1_word yX1_word, .code yX1_word cX1_word 3 (some .long), .methodLink RX1 37 yX1_flipWord, .instanceMethod yX1_flipWord, .selects RX1 yX1_flipWord yX1_flipWord, .code yX1_flipWord cX1_flipWord 5 none] ++ wsX10)
def wsX2_init : List Cond := .code yX2_init cX2_init 1 none :: ([.methodLink RX2 3 objectInit, .instanceMethod objectInit, .code objectInit ⟨#[0xb1]⟩ 1 none, .arrayClass .int, .fieldLink RX2 9 "SquareTower$Chart" "ranks" "[I"] ++ wsX20)
def wsX8_isInChart : List Cond := .code yX8_isInChart cX8_isInChart 2 (some .boolean) :: ([])
def wsX2_index : List Cond := .code yX2_index cX2_index 3 (some .int) :: ([.static yX8_isInChart, .initialized RX8, .code yX8_isInChart cX8_isInChart 2 (some .boolean)])
def wsJ7_fill_53178 : List Cond := .code yJ7_fill_53178 cJ7_fill_53178 4 none :: ([])
def wsX2_wipe : List Cond := .code yX2_wipe cX2_wipe 1 none :: ([.fieldLink RX2 9 "SquareTower$Chart" "ranks" "[I", .methodLink RX2 19 yJ7_fill_53178, .static yJ7_fill_53178, .initialized RJ7, .code yJ7_fill_53178 cJ7_fill_53178 4 none] ++ wsX20)
def wsX2_tell : List Cond := .code yX2_tell cX2_tell 6 none :: ([.fieldLink RX2 9 "SquareTower$Chart" "ranks" "[I", .methodLink RX2 25 yX2_index, .static yX2_index, .initialized RX2, .code yX2_index cX2_index 3 (some .int), .static yX8_isInChart, .initialized RX8, .code yX8_isInChart cX8_isInChart 2 (some .boolean)] ++ wsX20)
def wsX2_rankOf : List Cond := .code yX2_rankOf cX2_rankOf 5 (some .int) :: ([.fieldLink RX2 9 "SquareTower$Chart" "ranks" "[I", .methodLink RX2 25 yX2_index, .static yX2_index, .initialized RX2, .code yX2_index cX2_index 3 (some .int), .static yX8_isInChart, .initialized RX8, .code yX8_isInChart cX8_isInChart 2 (some .boolean)] ++ wsX20)
def wsX2_spent : List Cond := .code yX2_spent cX2_spent 4 (some .int) :: ([.methodLink RX2 29 yX2_rankOf, .instanceMethod yX2_rankOf, .selects RX2 yX2_rankOf yX2_rankOf, .initialized RX2, .code yX2_rankOf cX2_rankOf 5 (some .int), .fieldLink RX2 9 "SquareTower$Chart" "ranks" "[I", .methodLink RX2 25 yX2_index, .static yX2_index, .code yX2_index cX2_index 3 (some .int), .static yX8_isInChart, .initialized RX8, .code yX8_isInChart cX8_isInChart 2 (some .boolean)] ++ wsX20)
def wsX2_toldFrom : List Cond := .code yX2_toldFrom cX2_toldFrom 4 (some .int) :: ([.methodLink RX2 36 Lib.Math.max.name, .static Lib.Math.max.name, .initialized "java/lang/Math", .code Lib.Math.max.name Lib.Math.max.code 2 (some .int), .fieldLink RX2 9 "SquareTower$Chart" "ranks" "[I"] ++ wsX20)
def wsX2_told : List Cond := .code yX2_told cX2_told 1 (some .int) :: ([.methodLink RX2 32 yX2_toldFrom, .instanceMethod yX2_toldFrom, .selects RX2 yX2_toldFrom yX2_toldFrom, .initialized RX2, .code yX2_toldFrom cX2_toldFrom 4 (some .int), .methodLink RX2 36 Lib.Math.max.name, .static Lib.Math.max.name, .initialized "java/lang/Math", .code Lib.Math.max.name Lib.Math.max.code 2 (some .int), .fieldLink RX2 9 "SquareTower$Chart" "ranks" "[I"] ++ wsX20)
def wsX2_isLongerTold : List Cond := .code yX2_isLongerTold cX2_isLongerTold 2 (some .boolean) :: ([.methodLink RX2 36 Lib.Math.max.name, .static Lib.Math.max.name, .initialized "java/lang/Math", .code Lib.Math.max.name Lib.Math.max.code 2 (some .int), .methodLink RX2 25 yX2_index, .static yX2_index, .initialized RX2, .code yX2_index cX2_index 3 (some .int), .static yX8_isInChart, .initialized RX8, .code yX8_isInChart cX8_isInChart 2 (some .boolean), .methodLink RX2 32 yX2_toldFrom, .instanceMethod yX2_toldFrom, .selects RX2 yX2_toldFrom yX2_toldFrom, .code yX2_toldFrom cX2_toldFrom 4 (some .int), .fieldLink RX2 9 "SquareTower$Chart" "ranks" "[I"] ++ wsX20)
def wsX3_init : List Cond := .code yX3_init cX3_init 2 none :: ([.methodLink RX3 3 objectInit, .instanceMethod objectInit, .code objectInit ⟨#[0xb1]⟩ 1 none, .arrayClass .int, .fieldLink RX3 9 "SquareTower$Floor" "degrees" "[I", .classLink RX3 15 RX1, .instantiable RX1 3, .initialized RX1, .fieldLink RX3 20 "SquareTower$Floor" "goals" "LSquareTower$BitRows;", .fieldLink RX3 24 "SquareTower$Floor" "allowed" "LSquareTower$Basis;", .methodLink RX3 17 yX1_init, .instanceMethod yX1_init, .code yX1_init cX1_init 2 none, .methodLink RX1 3 objectInit, .methodLink RX1 9 Lib.Math.max.name, .static Lib.Math.max.name, .initialized "java/lang/Math", .code Lib.Math.max.name Lib.Math.max.code 2 (some .int), .arrayClass .long, .fieldLink RX1 15 "SquareTower$BitRows" "cells" "[J", .fieldLink RX1 21 "SquareTower$BitRows" "words" "I", .fieldLink RX1 25 "SquareTower$BitRows" "count" "I"] ++ wsX30 ++ wsX10)
def wsX3_restart : List Cond := .code yX3_restart cX3_restart 1 none :: ([.fieldLink RX3 28 "SquareTower$Floor" "generators" "I", .fieldLink RX3 20 "SquareTower$Floor" "goals" "LSquareTower$BitRows;", .methodLink RX3 32 yX1_restart, .instanceMethod yX1_restart, .selects RX1 yX1_restart yX1_restart, .initialized RX1, .code yX1_restart cX1_restart 2 none, .methodLink RX1 28 Lib.Math.min.name, .static Lib.Math.min.name, .initialized "java/lang/Math", .code Lib.Math.min.name Lib.Math.min.code 2 (some .int), .methodLink RX1 9 Lib.Math.max.name, .static Lib.Math.max.name, .code Lib.Math.max.name Lib.Math.max.code 2 (some .int), .fieldLink RX1 21 "SquareTower$BitRows" "words" "I", .fieldLink RX1 25 "SquareTower$BitRows" "count" "I"] ++ wsX30 ++ wsX10)
def wsX3_generators : List Cond := .code yX3_generators cX3_generators 1 (some .int) :: ([.fieldLink RX3 28 "SquareTower$Floor" "generators" "I"] ++ wsX30)
def wsX3_degreeOf : List Cond := .code yX3_degreeOf cX3_degreeOf 2 (some .int) :: ([.fieldLink RX3 9 "SquareTower$Floor" "degrees" "[I"] ++ wsX30)
def wsX3_goals : List Cond := .code yX3_goals cX3_goals 1 (some (.object "SquareTower$BitRows")) :: ([.fieldLink RX3 20 "SquareTower$Floor" "goals" "LSquareTower$BitRows;"] ++ wsX30)
def wsX3_add : List Cond := .code yX3_add cX3_add 4 none :: ([.fieldLink RX3 28 "SquareTower$Floor" "generators" "I", .fieldLink RX3 20 "SquareTower$Floor" "goals" "LSquareTower$BitRows;", .fieldLink RX3 9 "SquareTower$Floor" "degrees" "[I", .methodLink RX3 35 yX1_copy, .instanceMethod yX1_copy, .selects RX1 yX1_copy yX1_copy, .initialized RX1, .code yX1_copy cX1_copy 5 (some .int), .fieldLink RX1 21 "SquareTower$BitRows" "words" "I", .methodLink RX1 49 yX1_open, .instanceMethod yX1_open, .selects RX1 yX1_open yX1_open, .code yX1_open cX1_open 2 (some .int), .fieldLink RX1 25 "SquareTower$BitRows" "count" "I", .fieldLink RX1 15 "SquareTower$BitRows" "cells" "[J", .methodLink RX1 31 yX1_word, .instanceMethod yX1_word, .selects RX1 yX1_word yX1_word, .code yX1_word cX1_word 3 (some .long), .methodLink RX1 37 yX1_flipWord, .instanceMethod yX1_flipWord, .selects RX1 yX1_flipWord yX1_flipWord, .code yX1_flipWord cX1_flipWord 5 none] ++ wsX30 ++ wsX10)
def wsX3_width : List Cond := .code yX3_width cX3_width 3 (some .int) :: ([.fieldLink RX3 24 "SquareTower$Floor" "allowed" "LSquareTower$Basis;", .methodLink RX3 39 yX3_degreeOf, .instanceMethod yX3_degreeOf, .selects RX3 yX3_degreeOf yX3_degreeOf, .initialized RX3, .code yX3_degreeOf cX3_degreeOf 2 (some .int), .fieldLink RX3 9 "SquareTower$Floor" "degrees" "[I", .methodLink RX3 43 yX0_size, .instanceMethod yX0_size, .selects RX0 yX0_size yX0_size, .initialized RX0, .code yX0_size cX0_size 2 (some .int), .fieldLink RX0 15 "SquareTower$Basis" "starts" "[I"] ++ wsX30 ++ wsX00)
def wsX3_places : List Cond := .code yX3_places cX3_places 4 (some .int) :: ([.fieldLink RX3 28 "SquareTower$Floor" "generators" "I", .methodLink RX3 48 yX3_width, .instanceMethod yX3_width, .selects RX3 yX3_width yX3_width, .initialized RX3, .code yX3_width cX3_width 3 (some .int), .fieldLink RX3 24 "SquareTower$Floor" "allowed" "LSquareTower$Basis;", .methodLink RX3 39 yX3_degreeOf, .instanceMethod yX3_degreeOf, .selects RX3 yX3_degreeOf yX3_degreeOf, .code yX3_degreeOf cX3_degreeOf 2 (some .int), .fieldLink RX3 9 "SquareTower$Floor" "degrees" "[I", .methodLink RX3 43 yX0_size, .instanceMethod yX0_size, .selects RX0 yX0_size yX0_size, .initialized RX0, .code yX0_size cX0_size 2 (some .int), .fieldLink RX0 15 "SquareTower$Basis" "starts" "[I"] ++ wsX30 ++ wsX00)
def wsX3_generatorsOf : List Cond := .code yX3_generatorsOf cX3_generatorsOf 4 (some .int) :: ([.fieldLink RX3 28 "SquareTower$Floor" "generators" "I", .methodLink RX3 39 yX3_degreeOf, .instanceMethod yX3_degreeOf, .selects RX3 yX3_degreeOf yX3_degreeOf, .initialized RX3, .code yX3_degreeOf cX3_degreeOf 2 (some .int), .fieldLink RX3 9 "SquareTower$Floor" "degrees" "[I"] ++ wsX30)
def wsX4_init : List Cond := .code yX4_init cX4_init 2 none :: ([.methodLink RX4 1 objectInit, .instanceMethod objectInit, .code objectInit ⟨#[0xb1]⟩ 1 none, .fieldLink RX4 7 "SquareTower$RowProduct" "rows" "LSquareTower$Basis;"] ++ wsX40)
def wsX4_timesRow_r1 : List Cond := [Cond.fieldLink RX4 7 "SquareTower$RowProduct" "rows" "LSquareTower$Basis;", Cond.methodLink RX4 26 yX0_numberAt, Cond.instanceMethod yX0_numberAt, Cond.selects RX0 yX0_numberAt yX0_numberAt, Cond.initialized RX0, Cond.code yX0_numberAt cX0_numberAt 3 (some .int), Cond.fieldLink RX0 9 "SquareTower$Basis" "numbers" "[I", Cond.methodLink RX4 30 yX0_find, Cond.instanceMethod yX0_find, Cond.selects RX0 yX0_find yX0_find, Cond.code yX0_find cX0_find 6 (some .int), Cond.methodLink RX0 30 yX0_start, Cond.instanceMethod yX0_start, Cond.selects RX0 yX0_start yX0_start, Cond.code yX0_start cX0_start 2 (some .int), Cond.fieldLink RX0 15 "SquareTower$Basis" "starts" "[I", Cond.methodLink RX0 22 Lib.Math.min.name, Cond.static Lib.Math.min.name, Cond.initialized "java/lang/Math", Cond.code Lib.Math.min.name Lib.Math.min.code 2 (some .int), Cond.methodLink RX0 27 Lib.Math.max.name, Cond.static Lib.Math.max.name, Cond.code Lib.Math.max.name Lib.Math.max.code 2 (some .int), Cond.methodLink RX0 34 yX0_numberAt]
def wsX4_timesRow_r2 : List Cond := [Cond.methodLink RX4 34 yX0_bit, Cond.instanceMethod yX0_bit, Cond.selects RX0 yX0_bit yX0_bit, Cond.code yX0_bit cX0_bit 4 (some .int), Cond.methodLink RX0 37 yX0_size, Cond.instanceMethod yX0_size, Cond.selects RX0 yX0_size yX0_size, Cond.code yX0_size cX0_size 2 (some .int)]
def wsX4_timesRow : List Cond := .code yX4_timesRow cX4_timesRow 11 (some .int) :: ((wsX4_timesRow_r1 ++ wsX4_timesRow_r2) ++ wsX40 ++ wsX00)
def wsX4_timesSum_r1 : List Cond := [Cond.fieldLink RX4 7 "SquareTower$RowProduct" "rows" "LSquareTower$Basis;", Cond.methodLink RX4 13 yX0_size, Cond.instanceMethod yX0_size, Cond.selects RX0 yX0_size yX0_size, Cond.initialized RX0, Cond.code yX0_size cX0_size 2 (some .int), Cond.fieldLink RX0 15 "SquareTower$Basis" "starts" "[I", Cond.methodLink RX4 19 yX0_start, Cond.instanceMethod yX0_start, Cond.selects RX0 yX0_start yX0_start, Cond.code yX0_start cX0_start 2 (some .int), Cond.methodLink RX0 22 Lib.Math.min.name, Cond.static Lib.Math.min.name, Cond.initialized "java/lang/Math", Cond.code Lib.Math.min.name Lib.Math.min.code 2 (some .int), Cond.methodLink RX0 27 Lib.Math.max.name, Cond.static Lib.Math.max.name, Cond.code Lib.Math.max.name Lib.Math.max.code 2 (some .int), Cond.methodLink RX4 22 yX4_timesRow, Cond.instanceMethod yX4_timesRow, Cond.selects RX4 yX4_timesRow yX4_timesRow, Cond.initialized RX4, Cond.code yX4_timesRow cX4_timesRow 11 (some .int), Cond.methodLink RX4 26 yX0_numberAt]
def wsX4_timesSum_r2 : List Cond := [Cond.instanceMethod yX0_numberAt, Cond.selects RX0 yX0_numberAt yX0_numberAt, Cond.code yX0_numberAt cX0_numberAt 3 (some .int), Cond.fieldLink RX0 9 "SquareTower$Basis" "numbers" "[I", Cond.methodLink RX4 30 yX0_find, Cond.instanceMethod yX0_find, Cond.selects RX0 yX0_find yX0_find, Cond.code yX0_find cX0_find 6 (some .int), Cond.methodLink RX0 30 yX0_start, Cond.methodLink RX0 34 yX0_numberAt, Cond.methodLink RX4 34 yX0_bit, Cond.instanceMethod yX0_bit, Cond.selects RX0 yX0_bit yX0_bit, Cond.code yX0_bit cX0_bit 4 (some .int), Cond.methodLink RX0 37 yX0_size]
def wsX4_timesSum : List Cond := .code yX4_timesSum cX4_timesSum 6 (some .int) :: ((wsX4_timesSum_r1 ++ wsX4_timesSum_r2) ++ wsX40 ++ wsX00)
def wsX5_init : List Cond := .code yX5_init cX5_init 1 none :: ([.methodLink RX5 3 objectInit, .instanceMethod objectInit, .code objectInit ⟨#[0xb1]⟩ 1 none, .arrayClass .int, .fieldLink RX5 9 "SquareTower$Space" "degrees" "[I", .fieldLink RX5 15 "SquareTower$Space" "acts" "[I", .fieldLink RX5 18 "SquareTower$Space" "faults" "[I"] ++ wsX50)
def wsX5_size : List Cond := .code yX5_size cX5_size 1 (some .int) :: ([.fieldLink RX5 21 "SquareTower$Space" "size" "I"] ++ wsX50)
def wsX5_has : List Cond := .code yX5_has cX5_has 2 (some .boolean) :: ([.fieldLink RX5 21 "SquareTower$Space" "size" "I"] ++ wsX50)
def wsX5_degreeOf : List Cond := .code yX5_degreeOf cX5_degreeOf 2 (some .int) :: ([.fieldLink RX5 9 "SquareTower$Space" "degrees" "[I", .methodLink RX5 25 yX5_has, .instanceMethod yX5_has, .selects RX5 yX5_has yX5_has, .initialized RX5, .code yX5_has cX5_has 2 (some .boolean), .fieldLink RX5 21 "SquareTower$Space" "size" "I"] ++ wsX50)
def wsX5_acted : List Cond := .code yX5_acted cX5_acted 4 (some .int) :: ([.fieldLink RX5 15 "SquareTower$Space" "acts" "[I"] ++ wsX50)
def wsX5_setAct : List Cond := .code yX5_setAct cX5_setAct 4 none :: ([.fieldLink RX5 15 "SquareTower$Space" "acts" "[I", .fieldLink RX5 29 "SquareTower$Space" "checked" "Z", .methodLink RX5 25 yX5_has, .instanceMethod yX5_has, .selects RX5 yX5_has yX5_has, .initialized RX5, .code yX5_has cX5_has 2 (some .boolean), .fieldLink RX5 21 "SquareTower$Space" "size" "I"] ++ wsX50)
def wsX5_restart : List Cond := .code yX5_restart cX5_restart 1 none :: ([.fieldLink RX5 21 "SquareTower$Space" "size" "I", .fieldLink RX5 29 "SquareTower$Space" "checked" "Z", .fieldLink RX5 15 "SquareTower$Space" "acts" "[I", .methodLink RX5 33 yJ7_fill_53178, .static yJ7_fill_53178, .initialized RJ7, .code yJ7_fill_53178 cJ7_fill_53178 4 none] ++ wsX50)
def wsX5_add : List Cond := .code yX5_add cX5_add 2 (some .int) :: ([.fieldLink RX5 21 "SquareTower$Space" "size" "I", .fieldLink RX5 9 "SquareTower$Space" "degrees" "[I", .fieldLink RX5 29 "SquareTower$Space" "checked" "Z"] ++ wsX50)
def wsX8_isOdd : List Cond := .code yX8_isOdd cX8_isOdd 2 (some .boolean) :: ([])
def wsX5_spread_r1 : List Cond := [Cond.methodLink RX5 39 yX5_restart, Cond.instanceMethod yX5_restart, Cond.selects RX5 yX5_restart yX5_restart, Cond.initialized RX5, Cond.code yX5_restart cX5_restart 1 none, Cond.fieldLink RX5 21 "SquareTower$Space" "size" "I", Cond.fieldLink RX5 29 "SquareTower$Space" "checked" "Z", Cond.fieldLink RX5 15 "SquareTower$Space" "acts" "[I", Cond.methodLink RX5 33 yJ7_fill_53178, Cond.static yJ7_fill_53178, Cond.initialized RJ7, Cond.code yJ7_fill_53178 cJ7_fill_53178 4 none, Cond.methodLink RX5 42 yX5_add, Cond.instanceMethod yX5_add, Cond.selects RX5 yX5_add yX5_add, Cond.code yX5_add cX5_add 2 (some .int), Cond.fieldLink RX5 9 "SquareTower$Space" "degrees" "[I", Cond.static yX8_isOdd, Cond.initialized RX8, Cond.code yX8_isOdd cX8_isOdd 2 (some .boolean), Cond.methodLink RX5 50 yX5_setAct, Cond.instanceMethod yX5_setAct, Cond.selects RX5 yX5_setAct yX5_setAct, Cond.code yX5_setAct cX5_setAct 4 none]
def wsX5_spread_r2 : List Cond := [Cond.methodLink RX5 25 yX5_has, Cond.instanceMethod yX5_has, Cond.selects RX5 yX5_has yX5_has, Cond.code yX5_has cX5_has 2 (some .boolean)]
def wsX5_spread : List Cond := .code yX5_spread cX5_spread 6 none :: ((wsX5_spread_r1 ++ wsX5_spread_r2) ++ wsX50)
def wsX5_ofDegree : List Cond := .code yX5_ofDegree cX5_ofDegree 4 (some .int) :: ([.fieldLink RX5 21 "SquareTower$Space" "size" "I", .methodLink RX5 54 yX5_degreeOf, .instanceMethod yX5_degreeOf, .selects RX5 yX5_degreeOf yX5_degreeOf, .initialized RX5, .code yX5_degreeOf cX5_degreeOf 2 (some .int), .fieldLink RX5 9 "SquareTower$Space" "degrees" "[I", .methodLink RX5 25 yX5_has, .instanceMethod yX5_has, .selects RX5 yX5_has yX5_has, .code yX5_has cX5_has 2 (some .boolean)] ++ wsX50)
def wsX5_apply : List Cond := .code yX5_apply cX5_apply 5 (some .int) :: ([.fieldLink RX5 21 "SquareTower$Space" "size" "I", .methodLink RX5 57 yX5_acted, .instanceMethod yX5_acted, .selects RX5 yX5_acted yX5_acted, .initialized RX5, .code yX5_acted cX5_acted 4 (some .int), .fieldLink RX5 15 "SquareTower$Space" "acts" "[I"] ++ wsX50)
def wsX5_byTheRule : List Cond := .code yX5_byTheRule cX5_byTheRule 6 (some .int) :: ([.static yX8_isOdd, .initialized RX8, .code yX8_isOdd cX8_isOdd 2 (some .boolean), .methodLink RX5 67 yX5_apply, .instanceMethod yX5_apply, .selects RX5 yX5_apply yX5_apply, .initialized RX5, .code yX5_apply cX5_apply 5 (some .int), .fieldLink RX5 21 "SquareTower$Space" "size" "I", .methodLink RX5 57 yX5_acted, .instanceMethod yX5_acted, .selects RX5 yX5_acted yX5_acted, .code yX5_acted cX5_acted 4 (some .int), .fieldLink RX5 15 "SquareTower$Space" "acts" "[I"] ++ wsX50)
def wsX5_findFault : List Cond := .code yX5_findFault cX5_findFault 4 none :: ([.fieldLink RX5 18 "SquareTower$Space" "faults" "[I", .fieldLink RX5 21 "SquareTower$Space" "size" "I", .methodLink RX5 33 yJ7_fill_53178, .static yJ7_fill_53178, .initialized RJ7, .code yJ7_fill_53178 cJ7_fill_53178 4 none, .methodLink RX5 57 yX5_acted, .instanceMethod yX5_acted, .selects RX5 yX5_acted yX5_acted, .initialized RX5, .code yX5_acted cX5_acted 4 (some .int), .fieldLink RX5 15 "SquareTower$Space" "acts" "[I", .methodLink RX5 67 yX5_apply, .instanceMethod yX5_apply, .selects RX5 yX5_apply yX5_apply, .code yX5_apply cX5_apply 5 (some .int), .methodLink RX5 70 yX5_byTheRule, .instanceMethod yX5_byTheRule, .selects RX5 yX5_byTheRule yX5_byTheRule, .code yX5_byTheRule cX5_byTheRule 6 (some .int), .static yX8_isOdd, .initialized RX8, .code yX8_isOdd cX8_isOdd 2 (some .boolean)] ++ wsX50)
def wsX5_firstFault_r1 : List Cond := [Cond.fieldLink RX5 29 "SquareTower$Space" "checked" "Z", Cond.fieldLink RX5 18 "SquareTower$Space" "faults" "[I", Cond.methodLink RX5 64 yX5_findFault, Cond.instanceMethod yX5_findFault, Cond.selects RX5 yX5_findFault yX5_findFault, Cond.initialized RX5, Cond.code yX5_findFault cX5_findFault 4 none, Cond.fieldLink RX5 21 "SquareTower$Space" "size" "I", Cond.methodLink RX5 33 yJ7_fill_53178, Cond.static yJ7_fill_53178, Cond.initialized RJ7, Cond.code yJ7_fill_53178 cJ7_fill_53178 4 none, Cond.methodLink RX5 57 yX5_acted, Cond.instanceMethod yX5_acted, Cond.selects RX5 yX5_acted yX5_acted, Cond.code yX5_acted cX5_acted 4 (some .int), Cond.fieldLink RX5 15 "SquareTower$Space" "acts" "[I", Cond.methodLink RX5 67 yX5_apply, Cond.instanceMethod yX5_apply, Cond.selects RX5 yX5_apply yX5_apply, Cond.code yX5_apply cX5_apply 5 (some .int), Cond.methodLink RX5 70 yX5_byTheRule, Cond.instanceMethod yX5_byTheRule, Cond.selects RX5 yX5_byTheRule yX5_byTheRule]
def wsX5_firstFault_r2 : List Cond := [Cond.code yX5_byTheRule cX5_byTheRule 6 (some .int), Cond.static yX8_isOdd, Cond.initialized RX8, Cond.code yX8_isOdd cX8_isOdd 2 (some .boolean)]
def wsX5_firstFault : List Cond := .code yX5_firstFault cX5_firstFault 2 (some .int) :: ((wsX5_firstFault_r1 ++ wsX5_firstFault_r2) ++ wsX50)
def wsX5_isSound_r1 : List Cond := [Cond.methodLink RX5 61 yX5_firstFault, Cond.instanceMethod yX5_firstFault, Cond.selects RX5 yX5_firstFault yX5_firstFault, Cond.initialized RX5, Cond.code yX5_firstFault cX5_firstFault 2 (some .int), Cond.fieldLink RX5 29 "SquareTower$Space" "checked" "Z", Cond.fieldLink RX5 18 "SquareTower$Space" "faults" "[I", Cond.methodLink RX5 64 yX5_findFault, Cond.instanceMethod yX5_findFault, Cond.selects RX5 yX5_findFault yX5_findFault, Cond.code yX5_findFault cX5_findFault 4 none, Cond.fieldLink RX5 21 "SquareTower$Space" "size" "I", Cond.methodLink RX5 33 yJ7_fill_53178, Cond.static yJ7_fill_53178, Cond.initialized RJ7, Cond.code yJ7_fill_53178 cJ7_fill_53178 4 none, Cond.methodLink RX5 57 yX5_acted, Cond.instanceMethod yX5_acted, Cond.selects RX5 yX5_acted yX5_acted, Cond.code yX5_acted cX5_acted 4 (some .int), Cond.fieldLink RX5 15 "SquareTower$Space" "acts" "[I", Cond.methodLink RX5 67 yX5_apply, Cond.instanceMethod yX5_apply, Cond.selects RX5 yX5_apply yX5_apply]
def wsX5_isSound_r2 : List Cond := [Cond.code yX5_apply cX5_apply 5 (some .int), Cond.methodLink RX5 70 yX5_byTheRule, Cond.instanceMethod yX5_byTheRule, Cond.selects RX5 yX5_byTheRule yX5_byTheRule, Cond.code yX5_byTheRule cX5_byTheRule 6 (some .int), Cond.static yX8_isOdd, Cond.initialized RX8, Cond.code yX8_isOdd cX8_isOdd 2 (some .boolean)]
def wsX5_isSound : List Cond := .code yX5_isSound cX5_isSound 1 (some .boolean) :: ((wsX5_isSound_r1 ++ wsX5_isSound_r2) ++ wsX50)
def wsX6_put : List Cond := .code yX6_put cX6_put 4 none :: ([.fieldLink RX6 9 "SquareTower$Squares" "products" "[I"] ++ wsX60)
def wsX6_fillUnit_r1 : List Cond := [Cond.fieldLink RX6 15 "SquareTower$Squares" "allowed" "LSquareTower$Basis;", Cond.methodLink RX6 28 yX0_start, Cond.instanceMethod yX0_start, Cond.selects RX0 yX0_start yX0_start, Cond.initialized RX0, Cond.code yX0_start cX0_start 2 (some .int), Cond.fieldLink RX0 15 "SquareTower$Basis" "starts" "[I", Cond.methodLink RX0 22 Lib.Math.min.name, Cond.static Lib.Math.min.name, Cond.initialized "java/lang/Math", Cond.code Lib.Math.min.name Lib.Math.min.code 2 (some .int), Cond.methodLink RX0 27 Lib.Math.max.name, Cond.static Lib.Math.max.name, Cond.code Lib.Math.max.name Lib.Math.max.code 2 (some .int), Cond.methodLink RX6 34 yX0_bit, Cond.instanceMethod yX0_bit, Cond.selects RX0 yX0_bit yX0_bit, Cond.code yX0_bit cX0_bit 4 (some .int), Cond.methodLink RX0 30 yX0_start, Cond.methodLink RX0 37 yX0_size, Cond.instanceMethod yX0_size, Cond.selects RX0 yX0_size yX0_size, Cond.code yX0_size cX0_size 2 (some .int), Cond.methodLink RX6 38 yX6_put]
def wsX6_fillUnit_r2 : List Cond := [Cond.instanceMethod yX6_put, Cond.selects RX6 yX6_put yX6_put, Cond.initialized RX6, Cond.code yX6_put cX6_put 4 none, Cond.fieldLink RX6 9 "SquareTower$Squares" "products" "[I"]
def wsX6_fillUnit : List Cond := .code yX6_fillUnit cX6_fillUnit 3 none :: ((wsX6_fillUnit_r1 ++ wsX6_fillUnit_r2) ++ wsX60 ++ wsX00)
def wsX6_single : List Cond := .code yX6_single cX6_single 2 (some .int) :: ([.fieldLink RX6 15 "SquareTower$Squares" "allowed" "LSquareTower$Basis;", .methodLink RX6 28 yX0_start, .instanceMethod yX0_start, .selects RX0 yX0_start yX0_start, .initialized RX0, .code yX0_start cX0_start 2 (some .int), .fieldLink RX0 15 "SquareTower$Basis" "starts" "[I", .methodLink RX0 22 Lib.Math.min.name, .static Lib.Math.min.name, .initialized "java/lang/Math", .code Lib.Math.min.name Lib.Math.min.code 2 (some .int), .methodLink RX0 27 Lib.Math.max.name, .static Lib.Math.max.name, .code Lib.Math.max.name Lib.Math.max.code 2 (some .int)] ++ wsX60 ++ wsX00)
def wsX6_product : List Cond := .code yX6_product cX6_product 3 (some .int) :: ([.fieldLink RX6 9 "SquareTower$Squares" "products" "[I"] ++ wsX60)
def wsX6_timesSum_r1 : List Cond := [Cond.fieldLink RX6 15 "SquareTower$Squares" "allowed" "LSquareTower$Basis;", Cond.methodLink RX6 28 yX0_start, Cond.instanceMethod yX0_start, Cond.selects RX0 yX0_start yX0_start, Cond.initialized RX0, Cond.code yX0_start cX0_start 2 (some .int), Cond.fieldLink RX0 15 "SquareTower$Basis" "starts" "[I", Cond.methodLink RX0 22 Lib.Math.min.name, Cond.static Lib.Math.min.name, Cond.initialized "java/lang/Math", Cond.code Lib.Math.min.name Lib.Math.min.code 2 (some .int), Cond.methodLink RX0 27 Lib.Math.max.name, Cond.static Lib.Math.max.name, Cond.code Lib.Math.max.name Lib.Math.max.code 2 (some .int), Cond.methodLink RX6 66 yX0_size, Cond.instanceMethod yX0_size, Cond.selects RX0 yX0_size yX0_size, Cond.code yX0_size cX0_size 2 (some .int), Cond.methodLink RX6 42 yX6_single, Cond.instanceMethod yX6_single, Cond.selects RX6 yX6_single yX6_single, Cond.initialized RX6, Cond.code yX6_single cX6_single 2 (some .int), Cond.methodLink RX6 56 yX6_product]
def wsX6_timesSum_r2 : List Cond := [Cond.instanceMethod yX6_product, Cond.selects RX6 yX6_product yX6_product, Cond.code yX6_product cX6_product 3 (some .int), Cond.fieldLink RX6 9 "SquareTower$Squares" "products" "[I"]
def wsX6_timesSum : List Cond := .code yX6_timesSum cX6_timesSum 7 (some .int) :: ((wsX6_timesSum_r1 ++ wsX6_timesSum_r2) ++ wsX60 ++ wsX00)
def wsX6_timesTerm_r1 : List Cond := [Cond.fieldLink RX6 15 "SquareTower$Squares" "allowed" "LSquareTower$Basis;", Cond.methodLink RX6 49 yX0_numberAt, Cond.instanceMethod yX0_numberAt, Cond.selects RX0 yX0_numberAt yX0_numberAt, Cond.initialized RX0, Cond.code yX0_numberAt cX0_numberAt 3 (some .int), Cond.fieldLink RX0 9 "SquareTower$Basis" "numbers" "[I", Cond.methodLink RX6 52 yX0_find, Cond.instanceMethod yX0_find, Cond.selects RX0 yX0_find yX0_find, Cond.code yX0_find cX0_find 6 (some .int), Cond.methodLink RX0 30 yX0_start, Cond.instanceMethod yX0_start, Cond.selects RX0 yX0_start yX0_start, Cond.code yX0_start cX0_start 2 (some .int), Cond.fieldLink RX0 15 "SquareTower$Basis" "starts" "[I", Cond.methodLink RX0 22 Lib.Math.min.name, Cond.static Lib.Math.min.name, Cond.initialized "java/lang/Math", Cond.code Lib.Math.min.name Lib.Math.min.code 2 (some .int), Cond.methodLink RX0 27 Lib.Math.max.name, Cond.static Lib.Math.max.name, Cond.code Lib.Math.max.name Lib.Math.max.code 2 (some .int), Cond.methodLink RX0 34 yX0_numberAt]
def wsX6_timesTerm_r2 : List Cond := [Cond.methodLink RX6 34 yX0_bit, Cond.instanceMethod yX0_bit, Cond.selects RX0 yX0_bit yX0_bit, Cond.code yX0_bit cX0_bit 4 (some .int), Cond.methodLink RX0 37 yX0_size, Cond.instanceMethod yX0_size, Cond.selects RX0 yX0_size yX0_size, Cond.code yX0_size cX0_size 2 (some .int), Cond.static yX8_isOdd, Cond.initialized RX8, Cond.code yX8_isOdd cX8_isOdd 2 (some .boolean), Cond.methodLink RX6 42 yX6_single, Cond.instanceMethod yX6_single, Cond.selects RX6 yX6_single yX6_single, Cond.initialized RX6, Cond.code yX6_single cX6_single 2 (some .int), Cond.methodLink RX6 28 yX0_start, Cond.methodLink RX6 56 yX6_product, Cond.instanceMethod yX6_product, Cond.selects RX6 yX6_product yX6_product, Cond.code yX6_product cX6_product 3 (some .int), Cond.fieldLink RX6 9 "SquareTower$Squares" "products" "[I", Cond.methodLink RX6 59 yX6_timesSum, Cond.instanceMethod yX6_timesSum]
def wsX6_timesTerm_r3 : List Cond := [Cond.selects RX6 yX6_timesSum yX6_timesSum, Cond.code yX6_timesSum cX6_timesSum 7 (some .int), Cond.methodLink RX6 66 yX0_size]
def wsX6_timesTerm : List Cond := .code yX6_timesTerm cX6_timesTerm 10 (some .int) :: ((wsX6_timesTerm_r1 ++ (wsX6_timesTerm_r2 ++ wsX6_timesTerm_r3)) ++ wsX60 ++ wsX00)
def wsX6_fillSingles_r1 : List Cond := [Cond.fieldLink RX6 15 "SquareTower$Squares" "allowed" "LSquareTower$Basis;", Cond.methodLink RX6 28 yX0_start, Cond.instanceMethod yX0_start, Cond.selects RX0 yX0_start yX0_start, Cond.initialized RX0, Cond.code yX0_start cX0_start 2 (some .int), Cond.fieldLink RX0 15 "SquareTower$Basis" "starts" "[I", Cond.methodLink RX0 22 Lib.Math.min.name, Cond.static Lib.Math.min.name, Cond.initialized "java/lang/Math", Cond.code Lib.Math.min.name Lib.Math.min.code 2 (some .int), Cond.methodLink RX0 27 Lib.Math.max.name, Cond.static Lib.Math.max.name, Cond.code Lib.Math.max.name Lib.Math.max.code 2 (some .int), Cond.methodLink RX6 42 yX6_single, Cond.instanceMethod yX6_single, Cond.selects RX6 yX6_single yX6_single, Cond.initialized RX6, Cond.code yX6_single cX6_single 2 (some .int), Cond.methodLink RX6 45 yX6_timesTerm, Cond.instanceMethod yX6_timesTerm, Cond.selects RX6 yX6_timesTerm yX6_timesTerm, Cond.code yX6_timesTerm cX6_timesTerm 10 (some .int), Cond.methodLink RX6 49 yX0_numberAt]
def wsX6_fillSingles_r2 : List Cond := [Cond.instanceMethod yX0_numberAt, Cond.selects RX0 yX0_numberAt yX0_numberAt, Cond.code yX0_numberAt cX0_numberAt 3 (some .int), Cond.fieldLink RX0 9 "SquareTower$Basis" "numbers" "[I", Cond.methodLink RX6 52 yX0_find, Cond.instanceMethod yX0_find, Cond.selects RX0 yX0_find yX0_find, Cond.code yX0_find cX0_find 6 (some .int), Cond.methodLink RX0 30 yX0_start, Cond.methodLink RX0 34 yX0_numberAt, Cond.methodLink RX6 34 yX0_bit, Cond.instanceMethod yX0_bit, Cond.selects RX0 yX0_bit yX0_bit, Cond.code yX0_bit cX0_bit 4 (some .int), Cond.methodLink RX0 37 yX0_size, Cond.instanceMethod yX0_size, Cond.selects RX0 yX0_size yX0_size, Cond.code yX0_size cX0_size 2 (some .int), Cond.static yX8_isOdd, Cond.initialized RX8, Cond.code yX8_isOdd cX8_isOdd 2 (some .boolean), Cond.methodLink RX6 56 yX6_product, Cond.instanceMethod yX6_product, Cond.selects RX6 yX6_product yX6_product]
def wsX6_fillSingles_r3 : List Cond := [Cond.code yX6_product cX6_product 3 (some .int), Cond.fieldLink RX6 9 "SquareTower$Squares" "products" "[I", Cond.methodLink RX6 59 yX6_timesSum, Cond.instanceMethod yX6_timesSum, Cond.selects RX6 yX6_timesSum yX6_timesSum, Cond.code yX6_timesSum cX6_timesSum 7 (some .int), Cond.methodLink RX6 66 yX0_size, Cond.methodLink RX6 38 yX6_put, Cond.instanceMethod yX6_put, Cond.selects RX6 yX6_put yX6_put, Cond.code yX6_put cX6_put 4 none]
def wsX6_fillSingles : List Cond := .code yX6_fillSingles cX6_fillSingles 4 none :: ((wsX6_fillSingles_r1 ++ (wsX6_fillSingles_r2 ++ wsX6_fillSingles_r3)) ++ wsX60 ++ wsX00)
def wsX6_fillLonger_r1 : List Cond := [Cond.fieldLink RX6 15 "SquareTower$Squares" "allowed" "LSquareTower$Basis;", Cond.methodLink RX6 28 yX0_start, Cond.instanceMethod yX0_start, Cond.selects RX0 yX0_start yX0_start, Cond.initialized RX0, Cond.code yX0_start cX0_start 2 (some .int), Cond.fieldLink RX0 15 "SquareTower$Basis" "starts" "[I", Cond.methodLink RX0 22 Lib.Math.min.name, Cond.static Lib.Math.min.name, Cond.initialized "java/lang/Math", Cond.code Lib.Math.min.name Lib.Math.min.code 2 (some .int), Cond.methodLink RX0 27 Lib.Math.max.name, Cond.static Lib.Math.max.name, Cond.code Lib.Math.max.name Lib.Math.max.code 2 (some .int), Cond.methodLink RX6 42 yX6_single, Cond.instanceMethod yX6_single, Cond.selects RX6 yX6_single yX6_single, Cond.initialized RX6, Cond.code yX6_single cX6_single 2 (some .int), Cond.methodLink RX6 49 yX0_numberAt, Cond.instanceMethod yX0_numberAt, Cond.selects RX0 yX0_numberAt yX0_numberAt, Cond.code yX0_numberAt cX0_numberAt 3 (some .int), Cond.fieldLink RX0 9 "SquareTower$Basis" "numbers" "[I"]
def wsX6_fillLonger_r2 : List Cond := [Cond.methodLink RX6 52 yX0_find, Cond.instanceMethod yX0_find, Cond.selects RX0 yX0_find yX0_find, Cond.code yX0_find cX0_find 6 (some .int), Cond.methodLink RX0 30 yX0_start, Cond.methodLink RX0 34 yX0_numberAt, Cond.methodLink RX6 56 yX6_product, Cond.instanceMethod yX6_product, Cond.selects RX6 yX6_product yX6_product, Cond.code yX6_product cX6_product 3 (some .int), Cond.fieldLink RX6 9 "SquareTower$Squares" "products" "[I", Cond.methodLink RX6 59 yX6_timesSum, Cond.instanceMethod yX6_timesSum, Cond.selects RX6 yX6_timesSum yX6_timesSum, Cond.code yX6_timesSum cX6_timesSum 7 (some .int), Cond.methodLink RX6 66 yX0_size, Cond.instanceMethod yX0_size, Cond.selects RX0 yX0_size yX0_size, Cond.code yX0_size cX0_size 2 (some .int), Cond.methodLink RX6 38 yX6_put, Cond.instanceMethod yX6_put, Cond.selects RX6 yX6_put yX6_put, Cond.code yX6_put cX6_put 4 none]
def wsX6_fillLonger : List Cond := .code yX6_fillLonger cX6_fillLonger 7 none :: ((wsX6_fillLonger_r1 ++ wsX6_fillLonger_r2) ++ wsX60 ++ wsX00)
def wsX6_init_r1 : List Cond := [Cond.methodLink RX6 3 objectInit, Cond.instanceMethod objectInit, Cond.code objectInit ⟨#[0xb1]⟩ 1 none, Cond.arrayClass .int, Cond.fieldLink RX6 9 "SquareTower$Squares" "products" "[I", Cond.fieldLink RX6 15 "SquareTower$Squares" "allowed" "LSquareTower$Basis;", Cond.methodLink RX6 19 yX6_fillUnit, Cond.instanceMethod yX6_fillUnit, Cond.selects RX6 yX6_fillUnit yX6_fillUnit, Cond.initialized RX6, Cond.code yX6_fillUnit cX6_fillUnit 3 none, Cond.methodLink RX6 28 yX0_start, Cond.instanceMethod yX0_start, Cond.selects RX0 yX0_start yX0_start, Cond.initialized RX0, Cond.code yX0_start cX0_start 2 (some .int), Cond.fieldLink RX0 15 "SquareTower$Basis" "starts" "[I", Cond.methodLink RX0 22 Lib.Math.min.name, Cond.static Lib.Math.min.name, Cond.initialized "java/lang/Math", Cond.code Lib.Math.min.name Lib.Math.min.code 2 (some .int), Cond.methodLink RX0 27 Lib.Math.max.name, Cond.static Lib.Math.max.name, Cond.code Lib.Math.max.name Lib.Math.max.code 2 (some .int)]
def wsX6_init_r2 : List Cond := [Cond.methodLink RX6 34 yX0_bit, Cond.instanceMethod yX0_bit, Cond.selects RX0 yX0_bit yX0_bit, Cond.code yX0_bit cX0_bit 4 (some .int), Cond.methodLink RX0 30 yX0_start, Cond.methodLink RX0 37 yX0_size, Cond.instanceMethod yX0_size, Cond.selects RX0 yX0_size yX0_size, Cond.code yX0_size cX0_size 2 (some .int), Cond.methodLink RX6 38 yX6_put, Cond.instanceMethod yX6_put, Cond.selects RX6 yX6_put yX6_put, Cond.code yX6_put cX6_put 4 none, Cond.methodLink RX6 22 yX6_fillSingles, Cond.instanceMethod yX6_fillSingles, Cond.selects RX6 yX6_fillSingles yX6_fillSingles, Cond.code yX6_fillSingles cX6_fillSingles 4 none, Cond.methodLink RX6 42 yX6_single, Cond.instanceMethod yX6_single, Cond.selects RX6 yX6_single yX6_single, Cond.code yX6_single cX6_single 2 (some .int), Cond.methodLink RX6 45 yX6_timesTerm, Cond.instanceMethod yX6_timesTerm, Cond.selects RX6 yX6_timesTerm yX6_timesTerm]
def wsX6_init_r3 : List Cond := [Cond.code yX6_timesTerm cX6_timesTerm 10 (some .int), Cond.methodLink RX6 49 yX0_numberAt, Cond.instanceMethod yX0_numberAt, Cond.selects RX0 yX0_numberAt yX0_numberAt, Cond.code yX0_numberAt cX0_numberAt 3 (some .int), Cond.fieldLink RX0 9 "SquareTower$Basis" "numbers" "[I", Cond.methodLink RX6 52 yX0_find, Cond.instanceMethod yX0_find, Cond.selects RX0 yX0_find yX0_find, Cond.code yX0_find cX0_find 6 (some .int), Cond.methodLink RX0 34 yX0_numberAt, Cond.static yX8_isOdd, Cond.initialized RX8, Cond.code yX8_isOdd cX8_isOdd 2 (some .boolean), Cond.methodLink RX6 56 yX6_product, Cond.instanceMethod yX6_product, Cond.selects RX6 yX6_product yX6_product, Cond.code yX6_product cX6_product 3 (some .int), Cond.methodLink RX6 59 yX6_timesSum, Cond.instanceMethod yX6_timesSum, Cond.selects RX6 yX6_timesSum yX6_timesSum, Cond.code yX6_timesSum cX6_timesSum 7 (some .int), Cond.methodLink RX6 66 yX0_size, Cond.methodLink RX6 25 yX6_fillLonger]
def wsX6_init_r4 : List Cond := [Cond.instanceMethod yX6_fillLonger, Cond.selects RX6 yX6_fillLonger yX6_fillLonger, Cond.code yX6_fillLonger cX6_fillLonger 7 none]
def wsX6_init : List Cond := .code yX6_init cX6_init 2 none :: ((wsX6_init_r1 ++ (wsX6_init_r2 ++ (wsX6_init_r3 ++ wsX6_init_r4))) ++ wsX60 ++ wsX00)
def wsX7_init_r1 : List Cond := [Cond.methodLink RX7 3 objectInit, Cond.instanceMethod objectInit, Cond.code objectInit ⟨#[0xb1]⟩ 1 none, Cond.classLink RX7 9 RX3, Cond.fieldLink RX7 11 "SquareTower$Tower" "floors" "[LSquareTower$Floor;", Cond.classLink RX7 17 RX1, Cond.fieldLink RX7 19 "SquareTower$Tower" "kernels" "[LSquareTower$BitRows;", Cond.instantiable RX1 3, Cond.initialized RX1, Cond.fieldLink RX7 26 "SquareTower$Tower" "values" "LSquareTower$BitRows;", Cond.fieldLink RX7 30 "SquareTower$Tower" "sources" "LSquareTower$BitRows;", Cond.arrayClass .int, Cond.fieldLink RX7 33 "SquareTower$Tower" "pivots" "[I", Cond.fieldLink RX7 37 "SquareTower$Tower" "chainAt" "[I", Cond.fieldLink RX7 40 "SquareTower$Tower" "targetAt" "[I", Cond.fieldLink RX7 43 "SquareTower$Tower" "kept" "[I", Cond.fieldLink RX7 46 "SquareTower$Tower" "allowed" "LSquareTower$Basis;", Cond.fieldLink RX7 50 "SquareTower$Tower" "squares" "LSquareTower$Squares;", Cond.fieldLink RX7 54 "SquareTower$Tower" "space" "LSquareTower$Space;", Cond.instantiable RX3 4, Cond.initialized RX3, Cond.methodLink RX7 23 yX1_init, Cond.instanceMethod yX1_init, Cond.code yX1_init cX1_init 2 none]
def wsX7_init_r2 : List Cond := [Cond.methodLink RX1 3 objectInit, Cond.methodLink RX1 9 Lib.Math.max.name, Cond.static Lib.Math.max.name, Cond.initialized "java/lang/Math", Cond.code Lib.Math.max.name Lib.Math.max.code 2 (some .int), Cond.arrayClass .long, Cond.fieldLink RX1 15 "SquareTower$BitRows" "cells" "[J", Cond.fieldLink RX1 21 "SquareTower$BitRows" "words" "I", Cond.fieldLink RX1 25 "SquareTower$BitRows" "count" "I", Cond.methodLink RX7 58 yX3_init, Cond.instanceMethod yX3_init, Cond.code yX3_init cX3_init 2 none, Cond.methodLink RX3 3 objectInit, Cond.fieldLink RX3 9 "SquareTower$Floor" "degrees" "[I", Cond.classLink RX3 15 RX1, Cond.fieldLink RX3 20 "SquareTower$Floor" "goals" "LSquareTower$BitRows;", Cond.fieldLink RX3 24 "SquareTower$Floor" "allowed" "LSquareTower$Basis;", Cond.methodLink RX3 17 yX1_init]
def wsX7_init : List Cond := .code yX7_init cX7_init 5 none :: ((wsX7_init_r1 ++ wsX7_init_r2) ++ wsX70 ++ wsX10 ++ wsX30)
def wsX7_restart : List Cond := .code yX7_restart cX7_restart 1 none :: ([.fieldLink RX7 61 "SquareTower$Tower" "built" "I"] ++ wsX70)
def wsX7_generatorsAt : List Cond := .code yX7_generatorsAt cX7_generatorsAt 3 (some .int) :: ([.fieldLink RX7 11 "SquareTower$Tower" "floors" "[LSquareTower$Floor;", .methodLink RX7 65 yX3_generatorsOf, .instanceMethod yX3_generatorsOf, .selects RX3 yX3_generatorsOf yX3_generatorsOf, .initialized RX3, .code yX3_generatorsOf cX3_generatorsOf 4 (some .int), .fieldLink RX3 28 "SquareTower$Floor" "generators" "I", .methodLink RX3 39 yX3_degreeOf, .instanceMethod yX3_degreeOf, .selects RX3 yX3_degreeOf yX3_degreeOf, .code yX3_degreeOf cX3_degreeOf 2 (some .int), .fieldLink RX3 9 "SquareTower$Floor" "degrees" "[I"] ++ wsX70 ++ wsX30)
def wsX7_turnByTurn : List Cond := .code yX7_turnByTurn cX7_turnByTurn 4 (some .int) :: ([.fieldLink RX7 11 "SquareTower$Tower" "floors" "[LSquareTower$Floor;", .methodLink RX7 69 yX3_places, .instanceMethod yX3_places, .selects RX3 yX3_places yX3_places, .initialized RX3, .code yX3_places cX3_places 4 (some .int), .fieldLink RX3 28 "SquareTower$Floor" "generators" "I", .methodLink RX3 48 yX3_width, .instanceMethod yX3_width, .selects RX3 yX3_width yX3_width, .code yX3_width cX3_width 3 (some .int), .fieldLink RX3 24 "SquareTower$Floor" "allowed" "LSquareTower$Basis;", .methodLink RX3 39 yX3_degreeOf, .instanceMethod yX3_degreeOf, .selects RX3 yX3_degreeOf yX3_degreeOf, .code yX3_degreeOf cX3_degreeOf 2 (some .int), .fieldLink RX3 9 "SquareTower$Floor" "degrees" "[I", .methodLink RX3 43 yX0_size, .instanceMethod yX0_size, .selects RX0 yX0_size yX0_size, .initialized RX0, .code yX0_size cX0_size 2 (some .int), .fieldLink RX0 15 "SquareTower$Basis" "starts" "[I"] ++ wsX70 ++ wsX30 ++ wsX00)
def wsX7_joinsOf_r1 : List Cond := [Cond.methodLink RX7 72 yX3_generators, Cond.instanceMethod yX3_generators, Cond.selects RX3 yX3_generators yX3_generators, Cond.initialized RX3, Cond.code yX3_generators cX3_generators 1 (some .int), Cond.fieldLink RX3 28 "SquareTower$Floor" "generators" "I", Cond.methodLink RX7 93 yX3_width, Cond.instanceMethod yX3_width, Cond.selects RX3 yX3_width yX3_width, Cond.code yX3_width cX3_width 3 (some .int), Cond.fieldLink RX3 24 "SquareTower$Floor" "allowed" "LSquareTower$Basis;", Cond.methodLink RX3 39 yX3_degreeOf, Cond.instanceMethod yX3_degreeOf, Cond.selects RX3 yX3_degreeOf yX3_degreeOf, Cond.code yX3_degreeOf cX3_degreeOf 2 (some .int), Cond.fieldLink RX3 9 "SquareTower$Floor" "degrees" "[I", Cond.methodLink RX3 43 yX0_size, Cond.instanceMethod yX0_size, Cond.selects RX0 yX0_size yX0_size, Cond.initialized RX0, Cond.code yX0_size cX0_size 2 (some .int), Cond.fieldLink RX0 15 "SquareTower$Basis" "starts" "[I", Cond.methodLink RX7 76 yX3_degreeOf, Cond.methodLink RX7 96 yX1_bit]
def wsX7_joinsOf_r2 : List Cond := [Cond.instanceMethod yX1_bit, Cond.selects RX1 yX1_bit yX1_bit, Cond.initialized RX1, Cond.code yX1_bit cX1_bit 3 (some .int), Cond.methodLink RX1 31 yX1_word, Cond.instanceMethod yX1_word, Cond.selects RX1 yX1_word yX1_word, Cond.code yX1_word cX1_word 3 (some .long), Cond.fieldLink RX1 25 "SquareTower$BitRows" "count" "I", Cond.fieldLink RX1 21 "SquareTower$BitRows" "words" "I", Cond.fieldLink RX1 15 "SquareTower$BitRows" "cells" "[J"]
def wsX7_joinsOf : List Cond := .code yX7_joinsOf cX7_joinsOf 9 (some .int) :: ((wsX7_joinsOf_r1 ++ wsX7_joinsOf_r2) ++ wsX30 ++ wsX00 ++ wsX10)
def wsX7_rankOfJoins_r1 : List Cond := [Cond.fieldLink RX7 11 "SquareTower$Tower" "floors" "[LSquareTower$Floor;", Cond.fieldLink RX7 43 "SquareTower$Tower" "kept" "[I", Cond.methodLink RX7 87 Lib.Math.min.name, Cond.static Lib.Math.min.name, Cond.initialized "java/lang/Math", Cond.code Lib.Math.min.name Lib.Math.min.code 2 (some .int), Cond.methodLink RX7 72 yX3_generators, Cond.instanceMethod yX3_generators, Cond.selects RX3 yX3_generators yX3_generators, Cond.initialized RX3, Cond.code yX3_generators cX3_generators 1 (some .int), Cond.fieldLink RX3 28 "SquareTower$Floor" "generators" "I", Cond.methodLink RX7 76 yX3_degreeOf, Cond.instanceMethod yX3_degreeOf, Cond.selects RX3 yX3_degreeOf yX3_degreeOf, Cond.code yX3_degreeOf cX3_degreeOf 2 (some .int), Cond.fieldLink RX3 9 "SquareTower$Floor" "degrees" "[I", Cond.methodLink RX7 79 yX3_goals, Cond.instanceMethod yX3_goals, Cond.selects RX3 yX3_goals yX3_goals, Cond.code yX3_goals cX3_goals 1 (some (.object "SquareTower$BitRows")), Cond.fieldLink RX3 20 "SquareTower$Floor" "goals" "LSquareTower$BitRows;", Cond.methodLink RX7 83 yX7_joinsOf, Cond.static yX7_joinsOf]
def wsX7_rankOfJoins_r2 : List Cond := [Cond.initialized RX7, Cond.code yX7_joinsOf cX7_joinsOf 9 (some .int), Cond.methodLink RX7 93 yX3_width, Cond.instanceMethod yX3_width, Cond.selects RX3 yX3_width yX3_width, Cond.code yX3_width cX3_width 3 (some .int), Cond.fieldLink RX3 24 "SquareTower$Floor" "allowed" "LSquareTower$Basis;", Cond.methodLink RX3 39 yX3_degreeOf, Cond.methodLink RX3 43 yX0_size, Cond.instanceMethod yX0_size, Cond.selects RX0 yX0_size yX0_size, Cond.initialized RX0, Cond.code yX0_size cX0_size 2 (some .int), Cond.fieldLink RX0 15 "SquareTower$Basis" "starts" "[I", Cond.methodLink RX7 96 yX1_bit, Cond.instanceMethod yX1_bit, Cond.selects RX1 yX1_bit yX1_bit, Cond.initialized RX1, Cond.code yX1_bit cX1_bit 3 (some .int), Cond.methodLink RX1 31 yX1_word, Cond.instanceMethod yX1_word, Cond.selects RX1 yX1_word yX1_word, Cond.code yX1_word cX1_word 3 (some .long), Cond.fieldLink RX1 25 "SquareTower$BitRows" "count" "I"]
def wsX7_rankOfJoins_r3 : List Cond := [Cond.fieldLink RX1 21 "SquareTower$BitRows" "words" "I", Cond.fieldLink RX1 15 "SquareTower$BitRows" "cells" "[J"]
def wsX7_rankOfJoins : List Cond := .code yX7_rankOfJoins cX7_rankOfJoins 10 (some .int) :: ((wsX7_rankOfJoins_r1 ++ (wsX7_rankOfJoins_r2 ++ wsX7_rankOfJoins_r3)) ++ wsX70 ++ wsX30 ++ wsX00 ++ wsX10)
def wsX7_listElements_r1 : List Cond := [Cond.methodLink RX7 114 yX1_restart, Cond.instanceMethod yX1_restart, Cond.selects RX1 yX1_restart yX1_restart, Cond.initialized RX1, Cond.code yX1_restart cX1_restart 2 none, Cond.methodLink RX1 28 Lib.Math.min.name, Cond.static Lib.Math.min.name, Cond.initialized "java/lang/Math", Cond.code Lib.Math.min.name Lib.Math.min.code 2 (some .int), Cond.methodLink RX1 9 Lib.Math.max.name, Cond.static Lib.Math.max.name, Cond.code Lib.Math.max.name Lib.Math.max.code 2 (some .int), Cond.fieldLink RX1 21 "SquareTower$BitRows" "words" "I", Cond.fieldLink RX1 25 "SquareTower$BitRows" "count" "I", Cond.methodLink RX7 130 yX1_open, Cond.instanceMethod yX1_open, Cond.selects RX1 yX1_open yX1_open, Cond.code yX1_open cX1_open 2 (some .int), Cond.fieldLink RX1 15 "SquareTower$BitRows" "cells" "[J", Cond.methodLink RX7 133 yX1_flip, Cond.instanceMethod yX1_flip, Cond.selects RX1 yX1_flip yX1_flip, Cond.code yX1_flip cX1_flip 5 none, Cond.methodLink RX1 37 yX1_flipWord]
def wsX7_listElements_r2 : List Cond := [Cond.instanceMethod yX1_flipWord, Cond.selects RX1 yX1_flipWord yX1_flipWord, Cond.code yX1_flipWord cX1_flipWord 5 none]
def wsX7_listElements : List Cond := .code yX7_listElements cX7_listElements 3 none :: ((wsX7_listElements_r1 ++ wsX7_listElements_r2) ++ wsX10)
def wsJ7_rangeCheck_23922 : List Cond := .code yJ7_rangeCheck_23922 cJ7_rangeCheck_23922 3 none :: ([])
def wsJ7_fill_fda19 : List Cond := .code yJ7_fill_fda19 cJ7_fill_fda19 5 none :: ([.methodLink RJ7 13 yJ7_rangeCheck_23922, .static yJ7_rangeCheck_23922, .initialized RJ7, .code yJ7_rangeCheck_23922 cJ7_rangeCheck_23922 3 none])
def wsX7_listPlaces_r1 : List Cond := [Cond.fieldLink RX7 46 "SquareTower$Tower" "allowed" "LSquareTower$Basis;", Cond.fieldLink RX7 37 "SquareTower$Tower" "chainAt" "[I", Cond.fieldLink RX7 40 "SquareTower$Tower" "targetAt" "[I", Cond.methodLink RX7 72 yX3_generators, Cond.instanceMethod yX3_generators, Cond.selects RX3 yX3_generators yX3_generators, Cond.initialized RX3, Cond.code yX3_generators cX3_generators 1 (some .int), Cond.fieldLink RX3 28 "SquareTower$Floor" "generators" "I", Cond.methodLink RX7 76 yX3_degreeOf, Cond.instanceMethod yX3_degreeOf, Cond.selects RX3 yX3_degreeOf yX3_degreeOf, Cond.code yX3_degreeOf cX3_degreeOf 2 (some .int), Cond.fieldLink RX3 9 "SquareTower$Floor" "degrees" "[I", Cond.methodLink RX7 141 yX0_start, Cond.instanceMethod yX0_start, Cond.selects RX0 yX0_start yX0_start, Cond.initialized RX0, Cond.code yX0_start cX0_start 2 (some .int), Cond.fieldLink RX0 15 "SquareTower$Basis" "starts" "[I", Cond.methodLink RX0 22 Lib.Math.min.name, Cond.static Lib.Math.min.name, Cond.initialized "java/lang/Math", Cond.code Lib.Math.min.name Lib.Math.min.code 2 (some .int)]
def wsX7_listPlaces_r2 : List Cond := [Cond.methodLink RX0 27 Lib.Math.max.name, Cond.static Lib.Math.max.name, Cond.code Lib.Math.max.name Lib.Math.max.code 2 (some .int), Cond.methodLink RX7 93 yX3_width, Cond.instanceMethod yX3_width, Cond.selects RX3 yX3_width yX3_width, Cond.code yX3_width cX3_width 3 (some .int), Cond.fieldLink RX3 24 "SquareTower$Floor" "allowed" "LSquareTower$Basis;", Cond.methodLink RX3 39 yX3_degreeOf, Cond.methodLink RX3 43 yX0_size, Cond.instanceMethod yX0_size, Cond.selects RX0 yX0_size yX0_size, Cond.code yX0_size cX0_size 2 (some .int)]
def wsX7_listPlaces : List Cond := .code yX7_listPlaces cX7_listPlaces 10 none :: ((wsX7_listPlaces_r1 ++ wsX7_listPlaces_r2) ++ wsX70 ++ wsX30 ++ wsX00)
def wsX7_putProduct_r1 : List Cond := [Cond.fieldLink RX7 37 "SquareTower$Tower" "chainAt" "[I", Cond.fieldLink RX7 40 "SquareTower$Tower" "targetAt" "[I", Cond.fieldLink RX7 26 "SquareTower$Tower" "values" "LSquareTower$BitRows;", Cond.fieldLink RX7 50 "SquareTower$Tower" "squares" "LSquareTower$Squares;", Cond.methodLink RX7 163 yX1_next, Cond.instanceMethod yX1_next, Cond.selects RX1 yX1_next yX1_next, Cond.initialized RX1, Cond.code yX1_next cX1_next 8 (some .int), Cond.fieldLink RX1 25 "SquareTower$BitRows" "count" "I", Cond.constantLong RX1 41 (-1), Cond.fieldLink RX1 21 "SquareTower$BitRows" "words" "I", Cond.fieldLink RX1 15 "SquareTower$BitRows" "cells" "[J", Cond.methodLink RX1 43 yJ13_bitCount_95d88, Cond.static yJ13_bitCount_95d88, Cond.initialized RJ13, Cond.code yJ13_bitCount_95d88 cJ13_bitCount_95d88 2 (some .int), Cond.constantLong RJ13 314 (6148914691236517205), Cond.constantLong RJ13 316 (3689348814741910323), Cond.constantLong RJ13 318 (1085102592571150095), Cond.methodLink RX7 166 yX6_product, Cond.instanceMethod yX6_product, Cond.selects RX6 yX6_product yX6_product, Cond.initialized RX6]
def wsX7_putProduct_r2 : List Cond := [Cond.code yX6_product cX6_product 3 (some .int), Cond.fieldLink RX6 9 "SquareTower$Squares" "products" "[I", Cond.methodLink RX7 133 yX1_flip, Cond.instanceMethod yX1_flip, Cond.selects RX1 yX1_flip yX1_flip, Cond.code yX1_flip cX1_flip 5 none, Cond.methodLink RX1 37 yX1_flipWord, Cond.instanceMethod yX1_flipWord, Cond.selects RX1 yX1_flipWord yX1_flipWord, Cond.code yX1_flipWord cX1_flipWord 5 none]
def wsX7_putProduct : List Cond := .code yX7_putProduct cX7_putProduct 7 none :: ((wsX7_putProduct_r1 ++ wsX7_putProduct_r2) ++ wsX70 ++ wsX10 ++ wsX60)
def wsX7_applyChain : List Cond := .code yX7_applyChain cX7_applyChain 5 (some .int) :: ([.fieldLink RX7 54 "SquareTower$Tower" "space" "LSquareTower$Space;", .fieldLink RX7 46 "SquareTower$Tower" "allowed" "LSquareTower$Basis;", .methodLink RX7 171 yX0_numberAt, .instanceMethod yX0_numberAt, .selects RX0 yX0_numberAt yX0_numberAt, .initialized RX0, .code yX0_numberAt cX0_numberAt 3 (some .int), .fieldLink RX0 9 "SquareTower$Basis" "numbers" "[I", .methodLink RX7 174 yX5_apply, .instanceMethod yX5_apply, .selects RX5 yX5_apply yX5_apply, .initialized RX5, .code yX5_apply cX5_apply 5 (some .int), .fieldLink RX5 21 "SquareTower$Space" "size" "I", .methodLink RX5 57 yX5_acted, .instanceMethod yX5_acted, .selects RX5 yX5_acted yX5_acted, .code yX5_acted cX5_acted 4 (some .int), .fieldLink RX5 15 "SquareTower$Space" "acts" "[I"] ++ wsX70 ++ wsX00 ++ wsX50)
def wsX7_reduce : List Cond := .code yX7_reduce cX7_reduce 5 (some .int) :: ([.fieldLink RX7 33 "SquareTower$Tower" "pivots" "[I", .fieldLink RX7 26 "SquareTower$Tower" "values" "LSquareTower$BitRows;", .fieldLink RX7 30 "SquareTower$Tower" "sources" "LSquareTower$BitRows;", .methodLink RX7 163 yX1_next, .instanceMethod yX1_next, .selects RX1 yX1_next yX1_next, .initialized RX1, .code yX1_next cX1_next 8 (some .int), .fieldLink RX1 25 "SquareTower$BitRows" "count" "I", .constantLong RX1 41 (-1), .fieldLink RX1 21 "SquareTower$BitRows" "words" "I", .fieldLink RX1 15 "SquareTower$BitRows" "cells" "[J", .methodLink RX1 43 yJ13_bitCount_95d88, .static yJ13_bitCount_95d88, .initialized RJ13, .code yJ13_bitCount_95d88 cJ13_bitCount_95d88 2 (some .int), .constantLong RJ13 314 (6148914691236517205), .constantLong RJ13 316 (3689348814741910323), .constantLong RJ13 318 (1085102592571150095), .methodLink RX7 194 yX1_add, .instanceMethod yX1_add, .selects RX1 yX1_add yX1_add, .code yX1_add cX1_add 4 none] ++ wsX70 ++ wsX10)
def wsX7_keepOrDrop_r1 : List Cond := [Cond.fieldLink RX7 33 "SquareTower$Tower" "pivots" "[I", Cond.fieldLink RX7 30 "SquareTower$Tower" "sources" "LSquareTower$BitRows;", Cond.fieldLink RX7 26 "SquareTower$Tower" "values" "LSquareTower$BitRows;", Cond.methodLink RX7 177 yX7_reduce, Cond.instanceMethod yX7_reduce, Cond.selects RX7 yX7_reduce yX7_reduce, Cond.initialized RX7, Cond.code yX7_reduce cX7_reduce 5 (some .int), Cond.methodLink RX7 163 yX1_next, Cond.instanceMethod yX1_next, Cond.selects RX1 yX1_next yX1_next, Cond.initialized RX1, Cond.code yX1_next cX1_next 8 (some .int), Cond.fieldLink RX1 25 "SquareTower$BitRows" "count" "I", Cond.constantLong RX1 41 (-1), Cond.fieldLink RX1 21 "SquareTower$BitRows" "words" "I", Cond.fieldLink RX1 15 "SquareTower$BitRows" "cells" "[J", Cond.methodLink RX1 43 yJ13_bitCount_95d88, Cond.static yJ13_bitCount_95d88, Cond.initialized RJ13, Cond.code yJ13_bitCount_95d88 cJ13_bitCount_95d88 2 (some .int), Cond.constantLong RJ13 314 (6148914691236517205), Cond.constantLong RJ13 316 (3689348814741910323), Cond.constantLong RJ13 318 (1085102592571150095)]
def wsX7_keepOrDrop_r2 : List Cond := [Cond.methodLink RX7 194 yX1_add, Cond.instanceMethod yX1_add, Cond.selects RX1 yX1_add yX1_add, Cond.code yX1_add cX1_add 4 none, Cond.methodLink RX7 180 yX1_copy, Cond.instanceMethod yX1_copy, Cond.selects RX1 yX1_copy yX1_copy, Cond.code yX1_copy cX1_copy 5 (some .int), Cond.methodLink RX1 49 yX1_open, Cond.instanceMethod yX1_open, Cond.selects RX1 yX1_open yX1_open, Cond.code yX1_open cX1_open 2 (some .int), Cond.methodLink RX1 31 yX1_word, Cond.instanceMethod yX1_word, Cond.selects RX1 yX1_word yX1_word, Cond.code yX1_word cX1_word 3 (some .long), Cond.methodLink RX1 37 yX1_flipWord, Cond.instanceMethod yX1_flipWord, Cond.selects RX1 yX1_flipWord yX1_flipWord, Cond.code yX1_flipWord cX1_flipWord 5 none, Cond.methodLink RX7 184 yX1_dropLast, Cond.instanceMethod yX1_dropLast, Cond.selects RX1 yX1_dropLast yX1_dropLast, Cond.code yX1_dropLast cX1_dropLast 1 none]
def wsX7_keepOrDrop_r3 : List Cond := [Cond.methodLink RX1 9 Lib.Math.max.name, Cond.static Lib.Math.max.name, Cond.initialized "java/lang/Math", Cond.code Lib.Math.max.name Lib.Math.max.code 2 (some .int)]
def wsX7_keepOrDrop : List Cond := .code yX7_keepOrDrop cX7_keepOrDrop 4 none :: ((wsX7_keepOrDrop_r1 ++ (wsX7_keepOrDrop_r2 ++ wsX7_keepOrDrop_r3)) ++ wsX70 ++ wsX10)
def wsX7_carryOver_r1 : List Cond := [Cond.fieldLink RX7 46 "SquareTower$Tower" "allowed" "LSquareTower$Basis;", Cond.fieldLink RX7 26 "SquareTower$Tower" "values" "LSquareTower$BitRows;", Cond.fieldLink RX7 30 "SquareTower$Tower" "sources" "LSquareTower$BitRows;", Cond.methodLink RX7 72 yX3_generators, Cond.instanceMethod yX3_generators, Cond.selects RX3 yX3_generators yX3_generators, Cond.initialized RX3, Cond.code yX3_generators cX3_generators 1 (some .int), Cond.fieldLink RX3 28 "SquareTower$Floor" "generators" "I", Cond.methodLink RX7 76 yX3_degreeOf, Cond.instanceMethod yX3_degreeOf, Cond.selects RX3 yX3_degreeOf yX3_degreeOf, Cond.code yX3_degreeOf cX3_degreeOf 2 (some .int), Cond.fieldLink RX3 9 "SquareTower$Floor" "degrees" "[I", Cond.methodLink RX7 137 yX7_listPlaces, Cond.instanceMethod yX7_listPlaces, Cond.selects RX7 yX7_listPlaces yX7_listPlaces, Cond.initialized RX7, Cond.code yX7_listPlaces cX7_listPlaces 10 none, Cond.fieldLink RX7 37 "SquareTower$Tower" "chainAt" "[I", Cond.fieldLink RX7 40 "SquareTower$Tower" "targetAt" "[I", Cond.methodLink RX7 141 yX0_start, Cond.instanceMethod yX0_start, Cond.selects RX0 yX0_start yX0_start]
def wsX7_carryOver_r2 : List Cond := [Cond.initialized RX0, Cond.code yX0_start cX0_start 2 (some .int), Cond.fieldLink RX0 15 "SquareTower$Basis" "starts" "[I", Cond.methodLink RX0 22 Lib.Math.min.name, Cond.static Lib.Math.min.name, Cond.initialized "java/lang/Math", Cond.code Lib.Math.min.name Lib.Math.min.code 2 (some .int), Cond.methodLink RX0 27 Lib.Math.max.name, Cond.static Lib.Math.max.name, Cond.code Lib.Math.max.name Lib.Math.max.code 2 (some .int), Cond.methodLink RX7 93 yX3_width, Cond.instanceMethod yX3_width, Cond.selects RX3 yX3_width yX3_width, Cond.code yX3_width cX3_width 3 (some .int), Cond.fieldLink RX3 24 "SquareTower$Floor" "allowed" "LSquareTower$Basis;", Cond.methodLink RX3 39 yX3_degreeOf, Cond.methodLink RX3 43 yX0_size, Cond.instanceMethod yX0_size, Cond.selects RX0 yX0_size yX0_size, Cond.code yX0_size cX0_size 2 (some .int), Cond.methodLink RX7 146 yX0_size, Cond.methodLink RX7 130 yX1_open, Cond.instanceMethod yX1_open, Cond.selects RX1 yX1_open yX1_open]
def wsX7_carryOver_r3 : List Cond := [Cond.initialized RX1, Cond.code yX1_open cX1_open 2 (some .int), Cond.fieldLink RX1 25 "SquareTower$BitRows" "count" "I", Cond.fieldLink RX1 21 "SquareTower$BitRows" "words" "I", Cond.fieldLink RX1 15 "SquareTower$BitRows" "cells" "[J", Cond.methodLink RX7 133 yX1_flip, Cond.instanceMethod yX1_flip, Cond.selects RX1 yX1_flip yX1_flip, Cond.code yX1_flip cX1_flip 5 none, Cond.methodLink RX1 37 yX1_flipWord, Cond.instanceMethod yX1_flipWord, Cond.selects RX1 yX1_flipWord yX1_flipWord, Cond.code yX1_flipWord cX1_flipWord 5 none, Cond.methodLink RX7 79 yX3_goals, Cond.instanceMethod yX3_goals, Cond.selects RX3 yX3_goals yX3_goals, Cond.code yX3_goals cX3_goals 1 (some (.object "SquareTower$BitRows")), Cond.fieldLink RX3 20 "SquareTower$Floor" "goals" "LSquareTower$BitRows;", Cond.methodLink RX7 149 yX7_putProduct, Cond.instanceMethod yX7_putProduct, Cond.selects RX7 yX7_putProduct yX7_putProduct, Cond.code yX7_putProduct cX7_putProduct 7 none, Cond.fieldLink RX7 50 "SquareTower$Tower" "squares" "LSquareTower$Squares;", Cond.methodLink RX7 163 yX1_next]
def wsX7_carryOver_r4 : List Cond := [Cond.instanceMethod yX1_next, Cond.selects RX1 yX1_next yX1_next, Cond.code yX1_next cX1_next 8 (some .int), Cond.constantLong RX1 41 (-1), Cond.methodLink RX1 43 yJ13_bitCount_95d88, Cond.static yJ13_bitCount_95d88, Cond.initialized RJ13, Cond.code yJ13_bitCount_95d88 cJ13_bitCount_95d88 2 (some .int), Cond.constantLong RJ13 314 (6148914691236517205), Cond.constantLong RJ13 316 (3689348814741910323), Cond.constantLong RJ13 318 (1085102592571150095), Cond.methodLink RX7 166 yX6_product, Cond.instanceMethod yX6_product, Cond.selects RX6 yX6_product yX6_product, Cond.initialized RX6, Cond.code yX6_product cX6_product 3 (some .int), Cond.fieldLink RX6 9 "SquareTower$Squares" "products" "[I", Cond.methodLink RX7 153 yX1_firstBits, Cond.instanceMethod yX1_firstBits, Cond.selects RX1 yX1_firstBits yX1_firstBits, Cond.code yX1_firstBits cX1_firstBits 2 (some .int), Cond.constantLong RX1 35 (2147483647), Cond.methodLink RX1 31 yX1_word, Cond.instanceMethod yX1_word]
def wsX7_carryOver_r5 : List Cond := [Cond.selects RX1 yX1_word yX1_word, Cond.code yX1_word cX1_word 3 (some .long), Cond.methodLink RX7 156 yX7_applyChain, Cond.instanceMethod yX7_applyChain, Cond.selects RX7 yX7_applyChain yX7_applyChain, Cond.code yX7_applyChain cX7_applyChain 5 (some .int), Cond.fieldLink RX7 54 "SquareTower$Tower" "space" "LSquareTower$Space;", Cond.methodLink RX7 171 yX0_numberAt, Cond.instanceMethod yX0_numberAt, Cond.selects RX0 yX0_numberAt yX0_numberAt, Cond.code yX0_numberAt cX0_numberAt 3 (some .int), Cond.fieldLink RX0 9 "SquareTower$Basis" "numbers" "[I", Cond.methodLink RX7 174 yX5_apply, Cond.instanceMethod yX5_apply, Cond.selects RX5 yX5_apply yX5_apply, Cond.initialized RX5, Cond.code yX5_apply cX5_apply 5 (some .int), Cond.fieldLink RX5 21 "SquareTower$Space" "size" "I", Cond.methodLink RX5 57 yX5_acted, Cond.instanceMethod yX5_acted, Cond.selects RX5 yX5_acted yX5_acted, Cond.code yX5_acted cX5_acted 4 (some .int), Cond.fieldLink RX5 15 "SquareTower$Space" "acts" "[I", Cond.methodLink RX7 159 yX7_keepOrDrop]
def wsX7_carryOver_r6 : List Cond := [Cond.instanceMethod yX7_keepOrDrop, Cond.selects RX7 yX7_keepOrDrop yX7_keepOrDrop, Cond.code yX7_keepOrDrop cX7_keepOrDrop 4 none, Cond.fieldLink RX7 33 "SquareTower$Tower" "pivots" "[I", Cond.methodLink RX7 177 yX7_reduce, Cond.instanceMethod yX7_reduce, Cond.selects RX7 yX7_reduce yX7_reduce, Cond.code yX7_reduce cX7_reduce 5 (some .int), Cond.methodLink RX7 194 yX1_add, Cond.instanceMethod yX1_add, Cond.selects RX1 yX1_add yX1_add, Cond.code yX1_add cX1_add 4 none, Cond.methodLink RX7 180 yX1_copy, Cond.instanceMethod yX1_copy, Cond.selects RX1 yX1_copy yX1_copy, Cond.code yX1_copy cX1_copy 5 (some .int), Cond.methodLink RX1 49 yX1_open, Cond.methodLink RX7 184 yX1_dropLast, Cond.instanceMethod yX1_dropLast, Cond.selects RX1 yX1_dropLast yX1_dropLast, Cond.code yX1_dropLast cX1_dropLast 1 none, Cond.methodLink RX1 9 Lib.Math.max.name]
def wsX7_carryOver : List Cond := .code yX7_carryOver cX7_carryOver 13 none :: ((wsX7_carryOver_r1 ++ (wsX7_carryOver_r2 ++ (wsX7_carryOver_r3 ++ (wsX7_carryOver_r4 ++ (wsX7_carryOver_r5 ++ wsX7_carryOver_r6))))) ++ wsX70 ++ wsX30 ++ wsX00 ++ wsX10 ++ wsX60 ++ wsX50)
def wsX7_cover_r1 : List Cond := [Cond.fieldLink RX7 26 "SquareTower$Tower" "values" "LSquareTower$BitRows;", Cond.fieldLink RX7 30 "SquareTower$Tower" "sources" "LSquareTower$BitRows;", Cond.fieldLink RX7 33 "SquareTower$Tower" "pivots" "[I", Cond.methodLink RX7 187 yX1_height, Cond.instanceMethod yX1_height, Cond.selects RX1 yX1_height yX1_height, Cond.initialized RX1, Cond.code yX1_height cX1_height 1 (some .int), Cond.fieldLink RX1 25 "SquareTower$BitRows" "count" "I", Cond.methodLink RX7 180 yX1_copy, Cond.instanceMethod yX1_copy, Cond.selects RX1 yX1_copy yX1_copy, Cond.code yX1_copy cX1_copy 5 (some .int), Cond.fieldLink RX1 21 "SquareTower$BitRows" "words" "I", Cond.methodLink RX1 49 yX1_open, Cond.instanceMethod yX1_open, Cond.selects RX1 yX1_open yX1_open, Cond.code yX1_open cX1_open 2 (some .int), Cond.fieldLink RX1 15 "SquareTower$BitRows" "cells" "[J", Cond.methodLink RX1 31 yX1_word, Cond.instanceMethod yX1_word, Cond.selects RX1 yX1_word yX1_word, Cond.code yX1_word cX1_word 3 (some .long), Cond.methodLink RX1 37 yX1_flipWord]
def wsX7_cover_r2 : List Cond := [Cond.instanceMethod yX1_flipWord, Cond.selects RX1 yX1_flipWord yX1_flipWord, Cond.code yX1_flipWord cX1_flipWord 5 none, Cond.methodLink RX7 130 yX1_open, Cond.methodLink RX7 177 yX7_reduce, Cond.instanceMethod yX7_reduce, Cond.selects RX7 yX7_reduce yX7_reduce, Cond.initialized RX7, Cond.code yX7_reduce cX7_reduce 5 (some .int), Cond.methodLink RX7 163 yX1_next, Cond.instanceMethod yX1_next, Cond.selects RX1 yX1_next yX1_next, Cond.code yX1_next cX1_next 8 (some .int), Cond.constantLong RX1 41 (-1), Cond.methodLink RX1 43 yJ13_bitCount_95d88, Cond.static yJ13_bitCount_95d88, Cond.initialized RJ13, Cond.code yJ13_bitCount_95d88 cJ13_bitCount_95d88 2 (some .int), Cond.constantLong RJ13 314 (6148914691236517205), Cond.constantLong RJ13 316 (3689348814741910323), Cond.constantLong RJ13 318 (1085102592571150095), Cond.methodLink RX7 194 yX1_add, Cond.instanceMethod yX1_add, Cond.selects RX1 yX1_add yX1_add]
def wsX7_cover_r3 : List Cond := [Cond.code yX1_add cX1_add 4 none, Cond.methodLink RX7 190 yX3_add, Cond.instanceMethod yX3_add, Cond.selects RX3 yX3_add yX3_add, Cond.initialized RX3, Cond.code yX3_add cX3_add 4 none, Cond.fieldLink RX3 28 "SquareTower$Floor" "generators" "I", Cond.fieldLink RX3 20 "SquareTower$Floor" "goals" "LSquareTower$BitRows;", Cond.fieldLink RX3 9 "SquareTower$Floor" "degrees" "[I", Cond.methodLink RX3 35 yX1_copy, Cond.methodLink RX7 184 yX1_dropLast, Cond.instanceMethod yX1_dropLast, Cond.selects RX1 yX1_dropLast yX1_dropLast, Cond.code yX1_dropLast cX1_dropLast 1 none, Cond.methodLink RX1 9 Lib.Math.max.name, Cond.static Lib.Math.max.name, Cond.initialized "java/lang/Math", Cond.code Lib.Math.max.name Lib.Math.max.code 2 (some .int)]
def wsX7_cover : List Cond := .code yX7_cover cX7_cover 7 none :: ((wsX7_cover_r1 ++ (wsX7_cover_r2 ++ wsX7_cover_r3)) ++ wsX70 ++ wsX10 ++ wsX30)
def wsX7_buildDegree_r1 : List Cond := [Cond.fieldLink RX7 19 "SquareTower$Tower" "kernels" "[LSquareTower$BitRows;", Cond.fieldLink RX7 54 "SquareTower$Tower" "space" "LSquareTower$Space;", Cond.fieldLink RX7 11 "SquareTower$Tower" "floors" "[LSquareTower$Floor;", Cond.fieldLink RX7 26 "SquareTower$Tower" "values" "LSquareTower$BitRows;", Cond.fieldLink RX7 30 "SquareTower$Tower" "sources" "LSquareTower$BitRows;", Cond.fieldLink RX7 33 "SquareTower$Tower" "pivots" "[I", Cond.methodLink RX7 87 Lib.Math.min.name, Cond.static Lib.Math.min.name, Cond.initialized "java/lang/Math", Cond.code Lib.Math.min.name Lib.Math.min.code 2 (some .int), Cond.methodLink RX7 105 yX5_ofDegree, Cond.instanceMethod yX5_ofDegree, Cond.selects RX5 yX5_ofDegree yX5_ofDegree, Cond.initialized RX5, Cond.code yX5_ofDegree cX5_ofDegree 4 (some .int), Cond.fieldLink RX5 21 "SquareTower$Space" "size" "I", Cond.methodLink RX5 54 yX5_degreeOf, Cond.instanceMethod yX5_degreeOf, Cond.selects RX5 yX5_degreeOf yX5_degreeOf, Cond.code yX5_degreeOf cX5_degreeOf 2 (some .int), Cond.fieldLink RX5 9 "SquareTower$Space" "degrees" "[I", Cond.methodLink RX5 25 yX5_has, Cond.instanceMethod yX5_has, Cond.selects RX5 yX5_has yX5_has]
def wsX7_buildDegree_r2 : List Cond := [Cond.code yX5_has cX5_has 2 (some .boolean), Cond.methodLink RX7 110 yX7_listElements, Cond.static yX7_listElements, Cond.initialized RX7, Cond.code yX7_listElements cX7_listElements 3 none, Cond.methodLink RX7 114 yX1_restart, Cond.instanceMethod yX1_restart, Cond.selects RX1 yX1_restart yX1_restart, Cond.initialized RX1, Cond.code yX1_restart cX1_restart 2 none, Cond.methodLink RX1 28 Lib.Math.min.name, Cond.methodLink RX1 9 Lib.Math.max.name, Cond.static Lib.Math.max.name, Cond.code Lib.Math.max.name Lib.Math.max.code 2 (some .int), Cond.fieldLink RX1 21 "SquareTower$BitRows" "words" "I", Cond.fieldLink RX1 25 "SquareTower$BitRows" "count" "I", Cond.methodLink RX7 130 yX1_open, Cond.instanceMethod yX1_open, Cond.selects RX1 yX1_open yX1_open, Cond.code yX1_open cX1_open 2 (some .int), Cond.fieldLink RX1 15 "SquareTower$BitRows" "cells" "[J", Cond.methodLink RX7 133 yX1_flip, Cond.instanceMethod yX1_flip, Cond.selects RX1 yX1_flip yX1_flip]
def wsX7_buildDegree_r3 : List Cond := [Cond.code yX1_flip cX1_flip 5 none, Cond.methodLink RX1 37 yX1_flipWord, Cond.instanceMethod yX1_flipWord, Cond.selects RX1 yX1_flipWord yX1_flipWord, Cond.code yX1_flipWord cX1_flipWord 5 none, Cond.methodLink RX7 69 yX3_places, Cond.instanceMethod yX3_places, Cond.selects RX3 yX3_places yX3_places, Cond.initialized RX3, Cond.code yX3_places cX3_places 4 (some .int), Cond.fieldLink RX3 28 "SquareTower$Floor" "generators" "I", Cond.methodLink RX3 48 yX3_width, Cond.instanceMethod yX3_width, Cond.selects RX3 yX3_width yX3_width, Cond.code yX3_width cX3_width 3 (some .int), Cond.fieldLink RX3 24 "SquareTower$Floor" "allowed" "LSquareTower$Basis;", Cond.methodLink RX3 39 yX3_degreeOf, Cond.instanceMethod yX3_degreeOf, Cond.selects RX3 yX3_degreeOf yX3_degreeOf, Cond.code yX3_degreeOf cX3_degreeOf 2 (some .int), Cond.fieldLink RX3 9 "SquareTower$Floor" "degrees" "[I", Cond.methodLink RX3 43 yX0_size, Cond.instanceMethod yX0_size, Cond.selects RX0 yX0_size yX0_size]
def wsX7_buildDegree_r4 : List Cond := [Cond.initialized RX0, Cond.code yX0_size cX0_size 2 (some .int), Cond.fieldLink RX0 15 "SquareTower$Basis" "starts" "[I", Cond.methodLink RX7 116 yJ7_fill_fda19, Cond.static yJ7_fill_fda19, Cond.initialized RJ7, Cond.code yJ7_fill_fda19 cJ7_fill_fda19 5 none, Cond.methodLink RJ7 13 yJ7_rangeCheck_23922, Cond.static yJ7_rangeCheck_23922, Cond.code yJ7_rangeCheck_23922 cJ7_rangeCheck_23922 3 none, Cond.methodLink RX7 122 yX7_carryOver, Cond.instanceMethod yX7_carryOver, Cond.selects RX7 yX7_carryOver yX7_carryOver, Cond.code yX7_carryOver cX7_carryOver 13 none, Cond.fieldLink RX7 46 "SquareTower$Tower" "allowed" "LSquareTower$Basis;", Cond.methodLink RX7 72 yX3_generators, Cond.instanceMethod yX3_generators, Cond.selects RX3 yX3_generators yX3_generators, Cond.code yX3_generators cX3_generators 1 (some .int), Cond.methodLink RX7 76 yX3_degreeOf, Cond.methodLink RX7 137 yX7_listPlaces, Cond.instanceMethod yX7_listPlaces, Cond.selects RX7 yX7_listPlaces yX7_listPlaces, Cond.code yX7_listPlaces cX7_listPlaces 10 none]
def wsX7_buildDegree_r5 : List Cond := [Cond.fieldLink RX7 37 "SquareTower$Tower" "chainAt" "[I", Cond.fieldLink RX7 40 "SquareTower$Tower" "targetAt" "[I", Cond.methodLink RX7 141 yX0_start, Cond.instanceMethod yX0_start, Cond.selects RX0 yX0_start yX0_start, Cond.code yX0_start cX0_start 2 (some .int), Cond.methodLink RX0 22 Lib.Math.min.name, Cond.methodLink RX0 27 Lib.Math.max.name, Cond.methodLink RX7 93 yX3_width, Cond.methodLink RX7 146 yX0_size, Cond.methodLink RX7 79 yX3_goals, Cond.instanceMethod yX3_goals, Cond.selects RX3 yX3_goals yX3_goals, Cond.code yX3_goals cX3_goals 1 (some (.object "SquareTower$BitRows")), Cond.fieldLink RX3 20 "SquareTower$Floor" "goals" "LSquareTower$BitRows;", Cond.methodLink RX7 149 yX7_putProduct, Cond.instanceMethod yX7_putProduct, Cond.selects RX7 yX7_putProduct yX7_putProduct, Cond.code yX7_putProduct cX7_putProduct 7 none, Cond.fieldLink RX7 50 "SquareTower$Tower" "squares" "LSquareTower$Squares;", Cond.methodLink RX7 163 yX1_next, Cond.instanceMethod yX1_next, Cond.selects RX1 yX1_next yX1_next, Cond.code yX1_next cX1_next 8 (some .int)]
def wsX7_buildDegree_r6 : List Cond := [Cond.constantLong RX1 41 (-1), Cond.methodLink RX1 43 yJ13_bitCount_95d88, Cond.static yJ13_bitCount_95d88, Cond.initialized RJ13, Cond.code yJ13_bitCount_95d88 cJ13_bitCount_95d88 2 (some .int), Cond.constantLong RJ13 314 (6148914691236517205), Cond.constantLong RJ13 316 (3689348814741910323), Cond.constantLong RJ13 318 (1085102592571150095), Cond.methodLink RX7 166 yX6_product, Cond.instanceMethod yX6_product, Cond.selects RX6 yX6_product yX6_product, Cond.initialized RX6, Cond.code yX6_product cX6_product 3 (some .int), Cond.fieldLink RX6 9 "SquareTower$Squares" "products" "[I", Cond.methodLink RX7 153 yX1_firstBits, Cond.instanceMethod yX1_firstBits, Cond.selects RX1 yX1_firstBits yX1_firstBits, Cond.code yX1_firstBits cX1_firstBits 2 (some .int), Cond.constantLong RX1 35 (2147483647), Cond.methodLink RX1 31 yX1_word, Cond.instanceMethod yX1_word, Cond.selects RX1 yX1_word yX1_word, Cond.code yX1_word cX1_word 3 (some .long), Cond.methodLink RX7 156 yX7_applyChain]
def wsX7_buildDegree_r7 : List Cond := [Cond.instanceMethod yX7_applyChain, Cond.selects RX7 yX7_applyChain yX7_applyChain, Cond.code yX7_applyChain cX7_applyChain 5 (some .int), Cond.methodLink RX7 171 yX0_numberAt, Cond.instanceMethod yX0_numberAt, Cond.selects RX0 yX0_numberAt yX0_numberAt, Cond.code yX0_numberAt cX0_numberAt 3 (some .int), Cond.fieldLink RX0 9 "SquareTower$Basis" "numbers" "[I", Cond.methodLink RX7 174 yX5_apply, Cond.instanceMethod yX5_apply, Cond.selects RX5 yX5_apply yX5_apply, Cond.code yX5_apply cX5_apply 5 (some .int), Cond.methodLink RX5 57 yX5_acted, Cond.instanceMethod yX5_acted, Cond.selects RX5 yX5_acted yX5_acted, Cond.code yX5_acted cX5_acted 4 (some .int), Cond.fieldLink RX5 15 "SquareTower$Space" "acts" "[I", Cond.methodLink RX7 159 yX7_keepOrDrop, Cond.instanceMethod yX7_keepOrDrop, Cond.selects RX7 yX7_keepOrDrop yX7_keepOrDrop, Cond.code yX7_keepOrDrop cX7_keepOrDrop 4 none, Cond.methodLink RX7 177 yX7_reduce, Cond.instanceMethod yX7_reduce, Cond.selects RX7 yX7_reduce yX7_reduce]
def wsX7_buildDegree_r8 : List Cond := [Cond.code yX7_reduce cX7_reduce 5 (some .int), Cond.methodLink RX7 194 yX1_add, Cond.instanceMethod yX1_add, Cond.selects RX1 yX1_add yX1_add, Cond.code yX1_add cX1_add 4 none, Cond.methodLink RX7 180 yX1_copy, Cond.instanceMethod yX1_copy, Cond.selects RX1 yX1_copy yX1_copy, Cond.code yX1_copy cX1_copy 5 (some .int), Cond.methodLink RX1 49 yX1_open, Cond.methodLink RX7 184 yX1_dropLast, Cond.instanceMethod yX1_dropLast, Cond.selects RX1 yX1_dropLast yX1_dropLast, Cond.code yX1_dropLast cX1_dropLast 1 none, Cond.methodLink RX7 126 yX7_cover, Cond.instanceMethod yX7_cover, Cond.selects RX7 yX7_cover yX7_cover, Cond.code yX7_cover cX7_cover 7 none, Cond.methodLink RX7 187 yX1_height, Cond.instanceMethod yX1_height, Cond.selects RX1 yX1_height yX1_height, Cond.code yX1_height cX1_height 1 (some .int), Cond.methodLink RX7 190 yX3_add, Cond.instanceMethod yX3_add]
def wsX7_buildDegree_r9 : List Cond := [Cond.selects RX3 yX3_add yX3_add, Cond.code yX3_add cX3_add 4 none, Cond.methodLink RX3 35 yX1_copy]
def wsX7_buildDegree : List Cond := .code yX7_buildDegree cX7_buildDegree 9 none :: ((wsX7_buildDegree_r1 ++ (wsX7_buildDegree_r2 ++ (wsX7_buildDegree_r3 ++ (wsX7_buildDegree_r4 ++ (wsX7_buildDegree_r5 ++ (wsX7_buildDegree_r6 ++ (wsX7_buildDegree_r7 ++ (wsX7_buildDegree_r8 ++ wsX7_buildDegree_r9)))))))) ++ wsX70 ++ wsX50 ++ wsX10 ++ wsX30 ++ wsX00 ++ wsX60)
def wsX7_build_r1 : List Cond := [Cond.fieldLink RX7 61 "SquareTower$Tower" "built" "I", Cond.fieldLink RX7 11 "SquareTower$Tower" "floors" "[LSquareTower$Floor;", Cond.methodLink RX7 99 yX3_restart, Cond.instanceMethod yX3_restart, Cond.selects RX3 yX3_restart yX3_restart, Cond.initialized RX3, Cond.code yX3_restart cX3_restart 1 none, Cond.fieldLink RX3 28 "SquareTower$Floor" "generators" "I", Cond.fieldLink RX3 20 "SquareTower$Floor" "goals" "LSquareTower$BitRows;", Cond.methodLink RX3 32 yX1_restart, Cond.instanceMethod yX1_restart, Cond.selects RX1 yX1_restart yX1_restart, Cond.initialized RX1, Cond.code yX1_restart cX1_restart 2 none, Cond.methodLink RX1 28 Lib.Math.min.name, Cond.static Lib.Math.min.name, Cond.initialized "java/lang/Math", Cond.code Lib.Math.min.name Lib.Math.min.code 2 (some .int), Cond.methodLink RX1 9 Lib.Math.max.name, Cond.static Lib.Math.max.name, Cond.code Lib.Math.max.name Lib.Math.max.code 2 (some .int), Cond.fieldLink RX1 21 "SquareTower$BitRows" "words" "I", Cond.fieldLink RX1 25 "SquareTower$BitRows" "count" "I", Cond.methodLink RX7 102 yX7_buildDegree]
def wsX7_build_r2 : List Cond := [Cond.instanceMethod yX7_buildDegree, Cond.selects RX7 yX7_buildDegree yX7_buildDegree, Cond.initialized RX7, Cond.code yX7_buildDegree cX7_buildDegree 9 none, Cond.fieldLink RX7 19 "SquareTower$Tower" "kernels" "[LSquareTower$BitRows;", Cond.fieldLink RX7 54 "SquareTower$Tower" "space" "LSquareTower$Space;", Cond.fieldLink RX7 26 "SquareTower$Tower" "values" "LSquareTower$BitRows;", Cond.fieldLink RX7 30 "SquareTower$Tower" "sources" "LSquareTower$BitRows;", Cond.fieldLink RX7 33 "SquareTower$Tower" "pivots" "[I", Cond.methodLink RX7 87 Lib.Math.min.name, Cond.methodLink RX7 105 yX5_ofDegree, Cond.instanceMethod yX5_ofDegree, Cond.selects RX5 yX5_ofDegree yX5_ofDegree, Cond.initialized RX5, Cond.code yX5_ofDegree cX5_ofDegree 4 (some .int), Cond.fieldLink RX5 21 "SquareTower$Space" "size" "I", Cond.methodLink RX5 54 yX5_degreeOf, Cond.instanceMethod yX5_degreeOf, Cond.selects RX5 yX5_degreeOf yX5_degreeOf, Cond.code yX5_degreeOf cX5_degreeOf 2 (some .int), Cond.fieldLink RX5 9 "SquareTower$Space" "degrees" "[I", Cond.methodLink RX5 25 yX5_has, Cond.instanceMethod yX5_has, Cond.selects RX5 yX5_has yX5_has]
def wsX7_build_r3 : List Cond := [Cond.code yX5_has cX5_has 2 (some .boolean), Cond.methodLink RX7 110 yX7_listElements, Cond.static yX7_listElements, Cond.code yX7_listElements cX7_listElements 3 none, Cond.methodLink RX7 114 yX1_restart, Cond.methodLink RX7 130 yX1_open, Cond.instanceMethod yX1_open, Cond.selects RX1 yX1_open yX1_open, Cond.code yX1_open cX1_open 2 (some .int), Cond.fieldLink RX1 15 "SquareTower$BitRows" "cells" "[J", Cond.methodLink RX7 133 yX1_flip, Cond.instanceMethod yX1_flip, Cond.selects RX1 yX1_flip yX1_flip, Cond.code yX1_flip cX1_flip 5 none, Cond.methodLink RX1 37 yX1_flipWord, Cond.instanceMethod yX1_flipWord, Cond.selects RX1 yX1_flipWord yX1_flipWord, Cond.code yX1_flipWord cX1_flipWord 5 none, Cond.methodLink RX7 69 yX3_places, Cond.instanceMethod yX3_places, Cond.selects RX3 yX3_places yX3_places, Cond.code yX3_places cX3_places 4 (some .int), Cond.methodLink RX3 48 yX3_width, Cond.instanceMethod yX3_width]
def wsX7_build_r4 : List Cond := [Cond.selects RX3 yX3_width yX3_width, Cond.code yX3_width cX3_width 3 (some .int), Cond.fieldLink RX3 24 "SquareTower$Floor" "allowed" "LSquareTower$Basis;", Cond.methodLink RX3 39 yX3_degreeOf, Cond.instanceMethod yX3_degreeOf, Cond.selects RX3 yX3_degreeOf yX3_degreeOf, Cond.code yX3_degreeOf cX3_degreeOf 2 (some .int), Cond.fieldLink RX3 9 "SquareTower$Floor" "degrees" "[I", Cond.methodLink RX3 43 yX0_size, Cond.instanceMethod yX0_size, Cond.selects RX0 yX0_size yX0_size, Cond.initialized RX0, Cond.code yX0_size cX0_size 2 (some .int), Cond.fieldLink RX0 15 "SquareTower$Basis" "starts" "[I", Cond.methodLink RX7 116 yJ7_fill_fda19, Cond.static yJ7_fill_fda19, Cond.initialized RJ7, Cond.code yJ7_fill_fda19 cJ7_fill_fda19 5 none, Cond.methodLink RJ7 13 yJ7_rangeCheck_23922, Cond.static yJ7_rangeCheck_23922, Cond.code yJ7_rangeCheck_23922 cJ7_rangeCheck_23922 3 none, Cond.methodLink RX7 122 yX7_carryOver, Cond.instanceMethod yX7_carryOver, Cond.selects RX7 yX7_carryOver yX7_carryOver]
def wsX7_build_r5 : List Cond := [Cond.code yX7_carryOver cX7_carryOver 13 none, Cond.fieldLink RX7 46 "SquareTower$Tower" "allowed" "LSquareTower$Basis;", Cond.methodLink RX7 72 yX3_generators, Cond.instanceMethod yX3_generators, Cond.selects RX3 yX3_generators yX3_generators, Cond.code yX3_generators cX3_generators 1 (some .int), Cond.methodLink RX7 76 yX3_degreeOf, Cond.methodLink RX7 137 yX7_listPlaces, Cond.instanceMethod yX7_listPlaces, Cond.selects RX7 yX7_listPlaces yX7_listPlaces, Cond.code yX7_listPlaces cX7_listPlaces 10 none, Cond.fieldLink RX7 37 "SquareTower$Tower" "chainAt" "[I", Cond.fieldLink RX7 40 "SquareTower$Tower" "targetAt" "[I", Cond.methodLink RX7 141 yX0_start, Cond.instanceMethod yX0_start, Cond.selects RX0 yX0_start yX0_start, Cond.code yX0_start cX0_start 2 (some .int), Cond.methodLink RX0 22 Lib.Math.min.name, Cond.methodLink RX0 27 Lib.Math.max.name, Cond.methodLink RX7 93 yX3_width, Cond.methodLink RX7 146 yX0_size, Cond.methodLink RX7 79 yX3_goals, Cond.instanceMethod yX3_goals, Cond.selects RX3 yX3_goals yX3_goals]
def wsX7_build_r6 : List Cond := [Cond.code yX3_goals cX3_goals 1 (some (.object "SquareTower$BitRows")), Cond.methodLink RX7 149 yX7_putProduct, Cond.instanceMethod yX7_putProduct, Cond.selects RX7 yX7_putProduct yX7_putProduct, Cond.code yX7_putProduct cX7_putProduct 7 none, Cond.fieldLink RX7 50 "SquareTower$Tower" "squares" "LSquareTower$Squares;", Cond.methodLink RX7 163 yX1_next, Cond.instanceMethod yX1_next, Cond.selects RX1 yX1_next yX1_next, Cond.code yX1_next cX1_next 8 (some .int), Cond.constantLong RX1 41 (-1), Cond.methodLink RX1 43 yJ13_bitCount_95d88, Cond.static yJ13_bitCount_95d88, Cond.initialized RJ13, Cond.code yJ13_bitCount_95d88 cJ13_bitCount_95d88 2 (some .int), Cond.constantLong RJ13 314 (6148914691236517205), Cond.constantLong RJ13 316 (3689348814741910323), Cond.constantLong RJ13 318 (1085102592571150095), Cond.methodLink RX7 166 yX6_product, Cond.instanceMethod yX6_product, Cond.selects RX6 yX6_product yX6_product, Cond.initialized RX6, Cond.code yX6_product cX6_product 3 (some .int), Cond.fieldLink RX6 9 "SquareTower$Squares" "products" "[I"]
def wsX7_build_r7 : List Cond := [Cond.methodLink RX7 153 yX1_firstBits, Cond.instanceMethod yX1_firstBits, Cond.selects RX1 yX1_firstBits yX1_firstBits, Cond.code yX1_firstBits cX1_firstBits 2 (some .int), Cond.constantLong RX1 35 (2147483647), Cond.methodLink RX1 31 yX1_word, Cond.instanceMethod yX1_word, Cond.selects RX1 yX1_word yX1_word, Cond.code yX1_word cX1_word 3 (some .long), Cond.methodLink RX7 156 yX7_applyChain, Cond.instanceMethod yX7_applyChain, Cond.selects RX7 yX7_applyChain yX7_applyChain, Cond.code yX7_applyChain cX7_applyChain 5 (some .int), Cond.methodLink RX7 171 yX0_numberAt, Cond.instanceMethod yX0_numberAt, Cond.selects RX0 yX0_numberAt yX0_numberAt, Cond.code yX0_numberAt cX0_numberAt 3 (some .int), Cond.fieldLink RX0 9 "SquareTower$Basis" "numbers" "[I", Cond.methodLink RX7 174 yX5_apply, Cond.instanceMethod yX5_apply, Cond.selects RX5 yX5_apply yX5_apply, Cond.code yX5_apply cX5_apply 5 (some .int), Cond.methodLink RX5 57 yX5_acted, Cond.instanceMethod yX5_acted]
def wsX7_build_r8 : List Cond := [Cond.selects RX5 yX5_acted yX5_acted, Cond.code yX5_acted cX5_acted 4 (some .int), Cond.fieldLink RX5 15 "SquareTower$Space" "acts" "[I", Cond.methodLink RX7 159 yX7_keepOrDrop, Cond.instanceMethod yX7_keepOrDrop, Cond.selects RX7 yX7_keepOrDrop yX7_keepOrDrop, Cond.code yX7_keepOrDrop cX7_keepOrDrop 4 none, Cond.methodLink RX7 177 yX7_reduce, Cond.instanceMethod yX7_reduce, Cond.selects RX7 yX7_reduce yX7_reduce, Cond.code yX7_reduce cX7_reduce 5 (some .int), Cond.methodLink RX7 194 yX1_add, Cond.instanceMethod yX1_add, Cond.selects RX1 yX1_add yX1_add, Cond.code yX1_add cX1_add 4 none, Cond.methodLink RX7 180 yX1_copy, Cond.instanceMethod yX1_copy, Cond.selects RX1 yX1_copy yX1_copy, Cond.code yX1_copy cX1_copy 5 (some .int), Cond.methodLink RX1 49 yX1_open, Cond.methodLink RX7 184 yX1_dropLast, Cond.instanceMethod yX1_dropLast, Cond.selects RX1 yX1_dropLast yX1_dropLast, Cond.code yX1_dropLast cX1_dropLast 1 none]
def wsX7_build_r9 : List Cond := [Cond.methodLink RX7 126 yX7_cover, Cond.instanceMethod yX7_cover, Cond.selects RX7 yX7_cover yX7_cover, Cond.code yX7_cover cX7_cover 7 none, Cond.methodLink RX7 187 yX1_height, Cond.instanceMethod yX1_height, Cond.selects RX1 yX1_height yX1_height, Cond.code yX1_height cX1_height 1 (some .int), Cond.methodLink RX7 190 yX3_add, Cond.instanceMethod yX3_add, Cond.selects RX3 yX3_add yX3_add, Cond.code yX3_add cX3_add 4 none, Cond.methodLink RX3 35 yX1_copy]
def wsX7_build : List Cond := .code yX7_build cX7_build 3 none :: ((wsX7_build_r1 ++ (wsX7_build_r2 ++ (wsX7_build_r3 ++ (wsX7_build_r4 ++ (wsX7_build_r5 ++ (wsX7_build_r6 ++ (wsX7_build_r7 ++ (wsX7_build_r8 ++ wsX7_build_r9)))))))) ++ wsX70 ++ wsX30 ++ wsX10 ++ wsX50 ++ wsX00 ++ wsX60)
def wsX8_init_r1 : List Cond := [Cond.methodLink RX8 3 objectInit, Cond.instanceMethod objectInit, Cond.code objectInit ⟨#[0xb1]⟩ 1 none, Cond.classLink RX8 9 RX0, Cond.instantiable RX0 2, Cond.initialized RX0, Cond.classLink RX8 14 RX6, Cond.instantiable RX6 2, Cond.initialized RX6, Cond.classLink RX8 19 RX5, Cond.instantiable RX5 5, Cond.initialized RX5, Cond.fieldLink RX8 22 "SquareTower" "allowed" "LSquareTower$Basis;", Cond.fieldLink RX8 26 "SquareTower" "rows" "LSquareTower$Basis;", Cond.fieldLink RX8 29 "SquareTower" "squares" "LSquareTower$Squares;", Cond.classLink RX8 33 RX4, Cond.instantiable RX4 1, Cond.initialized RX4, Cond.fieldLink RX8 36 "SquareTower" "rowProduct" "LSquareTower$RowProduct;", Cond.fieldLink RX8 40 "SquareTower" "space" "LSquareTower$Space;", Cond.classLink RX8 44 RX7, Cond.instantiable RX7 12, Cond.initialized RX7, Cond.fieldLink RX8 49 "SquareTower" "tower" "LSquareTower$Tower;"]
def wsX8_init_r2 : List Cond := [Cond.classLink RX8 53 RX2, Cond.instantiable RX2 1, Cond.initialized RX2, Cond.fieldLink RX8 56 "SquareTower" "chart" "LSquareTower$Chart;", Cond.arrayClass .int, Cond.fieldLink RX8 60 "SquareTower" "chain" "[I", Cond.fieldLink RX8 64 "SquareTower" "length" "I", Cond.fieldLink RX8 68 "SquareTower" "degree" "I", Cond.methodLink RX8 11 yX0_init, Cond.instanceMethod yX0_init, Cond.code yX0_init cX0_init 10 none, Cond.methodLink RX0 3 objectInit, Cond.fieldLink RX0 9 "SquareTower$Basis" "numbers" "[I", Cond.fieldLink RX0 15 "SquareTower$Basis" "starts" "[I", Cond.methodLink RX0 18 yX0_share, Cond.static yX0_share, Cond.code yX0_share cX0_share 2 (some .int), Cond.methodLink RX8 16 yX6_init, Cond.instanceMethod yX6_init, Cond.code yX6_init cX6_init 2 none, Cond.methodLink RX6 3 objectInit, Cond.fieldLink RX6 9 "SquareTower$Squares" "products" "[I", Cond.fieldLink RX6 15 "SquareTower$Squares" "allowed" "LSquareTower$Basis;", Cond.methodLink RX6 19 yX6_fillUnit]
def wsX8_init_r3 : List Cond := [Cond.instanceMethod yX6_fillUnit, Cond.selects RX6 yX6_fillUnit yX6_fillUnit, Cond.code yX6_fillUnit cX6_fillUnit 3 none, Cond.methodLink RX6 28 yX0_start, Cond.instanceMethod yX0_start, Cond.selects RX0 yX0_start yX0_start, Cond.code yX0_start cX0_start 2 (some .int), Cond.methodLink RX0 22 Lib.Math.min.name, Cond.static Lib.Math.min.name, Cond.initialized "java/lang/Math", Cond.code Lib.Math.min.name Lib.Math.min.code 2 (some .int), Cond.methodLink RX0 27 Lib.Math.max.name, Cond.static Lib.Math.max.name, Cond.code Lib.Math.max.name Lib.Math.max.code 2 (some .int), Cond.methodLink RX6 34 yX0_bit, Cond.instanceMethod yX0_bit, Cond.selects RX0 yX0_bit yX0_bit, Cond.code yX0_bit cX0_bit 4 (some .int), Cond.methodLink RX0 30 yX0_start, Cond.methodLink RX0 37 yX0_size, Cond.instanceMethod yX0_size, Cond.selects RX0 yX0_size yX0_size, Cond.code yX0_size cX0_size 2 (some .int), Cond.methodLink RX6 38 yX6_put]
def wsX8_init_r4 : List Cond := [Cond.instanceMethod yX6_put, Cond.selects RX6 yX6_put yX6_put, Cond.code yX6_put cX6_put 4 none, Cond.methodLink RX6 22 yX6_fillSingles, Cond.instanceMethod yX6_fillSingles, Cond.selects RX6 yX6_fillSingles yX6_fillSingles, Cond.code yX6_fillSingles cX6_fillSingles 4 none, Cond.methodLink RX6 42 yX6_single, Cond.instanceMethod yX6_single, Cond.selects RX6 yX6_single yX6_single, Cond.code yX6_single cX6_single 2 (some .int), Cond.methodLink RX6 45 yX6_timesTerm, Cond.instanceMethod yX6_timesTerm, Cond.selects RX6 yX6_timesTerm yX6_timesTerm, Cond.code yX6_timesTerm cX6_timesTerm 10 (some .int), Cond.methodLink RX6 49 yX0_numberAt, Cond.instanceMethod yX0_numberAt, Cond.selects RX0 yX0_numberAt yX0_numberAt, Cond.code yX0_numberAt cX0_numberAt 3 (some .int), Cond.methodLink RX6 52 yX0_find, Cond.instanceMethod yX0_find, Cond.selects RX0 yX0_find yX0_find, Cond.code yX0_find cX0_find 6 (some .int), Cond.methodLink RX0 34 yX0_numberAt]
def wsX8_init_r5 : List Cond := [Cond.static yX8_isOdd, Cond.initialized RX8, Cond.code yX8_isOdd cX8_isOdd 2 (some .boolean), Cond.methodLink RX6 56 yX6_product, Cond.instanceMethod yX6_product, Cond.selects RX6 yX6_product yX6_product, Cond.code yX6_product cX6_product 3 (some .int), Cond.methodLink RX6 59 yX6_timesSum, Cond.instanceMethod yX6_timesSum, Cond.selects RX6 yX6_timesSum yX6_timesSum, Cond.code yX6_timesSum cX6_timesSum 7 (some .int), Cond.methodLink RX6 66 yX0_size, Cond.methodLink RX6 25 yX6_fillLonger, Cond.instanceMethod yX6_fillLonger, Cond.selects RX6 yX6_fillLonger yX6_fillLonger, Cond.code yX6_fillLonger cX6_fillLonger 7 none, Cond.instanceMethod yX5_init, Cond.code yX5_init cX5_init 1 none, Cond.methodLink RX5 3 objectInit, Cond.fieldLink RX5 9 "SquareTower$Space" "degrees" "[I", Cond.fieldLink RX5 15 "SquareTower$Space" "acts" "[I", Cond.fieldLink RX5 18 "SquareTower$Space" "faults" "[I", Cond.methodLink RX8 35 yX4_init, Cond.instanceMethod yX4_init]
def wsX8_init_r6 : List Cond := [Cond.code yX4_init cX4_init 2 none, Cond.methodLink RX4 1 objectInit, Cond.fieldLink RX4 7 "SquareTower$RowProduct" "rows" "LSquareTower$Basis;", Cond.methodLink RX8 46 yX7_init, Cond.instanceMethod yX7_init, Cond.code yX7_init cX7_init 5 none, Cond.methodLink RX7 3 objectInit, Cond.classLink RX7 9 RX3, Cond.fieldLink RX7 11 "SquareTower$Tower" "floors" "[LSquareTower$Floor;", Cond.classLink RX7 17 RX1, Cond.fieldLink RX7 19 "SquareTower$Tower" "kernels" "[LSquareTower$BitRows;", Cond.instantiable RX1 3, Cond.initialized RX1, Cond.fieldLink RX7 26 "SquareTower$Tower" "values" "LSquareTower$BitRows;", Cond.fieldLink RX7 30 "SquareTower$Tower" "sources" "LSquareTower$BitRows;", Cond.fieldLink RX7 33 "SquareTower$Tower" "pivots" "[I", Cond.fieldLink RX7 37 "SquareTower$Tower" "chainAt" "[I", Cond.fieldLink RX7 40 "SquareTower$Tower" "targetAt" "[I", Cond.fieldLink RX7 43 "SquareTower$Tower" "kept" "[I", Cond.fieldLink RX7 46 "SquareTower$Tower" "allowed" "LSquareTower$Basis;", Cond.fieldLink RX7 50 "SquareTower$Tower" "squares" "LSquareTower$Squares;", Cond.fieldLink RX7 54 "SquareTower$Tower" "space" "LSquareTower$Space;", Cond.instantiable RX3 4, Cond.initialized RX3]
def wsX8_init_r7 : List Cond := [Cond.methodLink RX7 23 yX1_init, Cond.instanceMethod yX1_init, Cond.code yX1_init cX1_init 2 none, Cond.methodLink RX1 3 objectInit, Cond.methodLink RX1 9 Lib.Math.max.name, Cond.arrayClass .long, Cond.fieldLink RX1 15 "SquareTower$BitRows" "cells" "[J", Cond.fieldLink RX1 21 "SquareTower$BitRows" "words" "I", Cond.fieldLink RX1 25 "SquareTower$BitRows" "count" "I", Cond.methodLink RX7 58 yX3_init, Cond.instanceMethod yX3_init, Cond.code yX3_init cX3_init 2 none, Cond.methodLink RX3 3 objectInit, Cond.fieldLink RX3 9 "SquareTower$Floor" "degrees" "[I", Cond.classLink RX3 15 RX1, Cond.fieldLink RX3 20 "SquareTower$Floor" "goals" "LSquareTower$BitRows;", Cond.fieldLink RX3 24 "SquareTower$Floor" "allowed" "LSquareTower$Basis;", Cond.methodLink RX3 17 yX1_init, Cond.instanceMethod yX2_init, Cond.code yX2_init cX2_init 1 none, Cond.methodLink RX2 3 objectInit, Cond.fieldLink RX2 9 "SquareTower$Chart" "ranks" "[I"]
def wsX8_init : List Cond := .code yX8_init cX8_init 5 none :: ((wsX8_init_r1 ++ (wsX8_init_r2 ++ (wsX8_init_r3 ++ (wsX8_init_r4 ++ (wsX8_init_r5 ++ (wsX8_init_r6 ++ wsX8_init_r7)))))) ++ wsX00 ++ wsX60 ++ wsX50 ++ wsX80 ++ wsX40 ++ wsX70 ++ wsX20 ++ wsX10 ++ wsX30)
def wsX8_square : List Cond := .code yX8_square cX8_square 2 (some .int) :: ([.fieldLink RX8 68 "SquareTower" "degree" "I", .fieldLink RX8 64 "SquareTower" "length" "I", .fieldLink RX8 60 "SquareTower" "chain" "[I"] ++ wsX80)
def wsX8_clear : List Cond := .code yX8_clear cX8_clear 2 (some .int) :: ([.fieldLink RX8 64 "SquareTower" "length" "I", .fieldLink RX8 68 "SquareTower" "degree" "I"] ++ wsX80)
def wsX8_sumOfAllowed_r1 : List Cond := [Cond.fieldLink RX8 64 "SquareTower" "length" "I", Cond.fieldLink RX8 60 "SquareTower" "chain" "[I", Cond.methodLink RX8 97 Lib.Math.min.name, Cond.static Lib.Math.min.name, Cond.initialized "java/lang/Math", Cond.code Lib.Math.min.name Lib.Math.min.code 2 (some .int), Cond.fieldLink RX8 29 "SquareTower" "squares" "LSquareTower$Squares;", Cond.methodLink RX8 102 yX6_timesSum, Cond.instanceMethod yX6_timesSum, Cond.selects RX6 yX6_timesSum yX6_timesSum, Cond.initialized RX6, Cond.code yX6_timesSum cX6_timesSum 7 (some .int), Cond.fieldLink RX6 15 "SquareTower$Squares" "allowed" "LSquareTower$Basis;", Cond.methodLink RX6 28 yX0_start, Cond.instanceMethod yX0_start, Cond.selects RX0 yX0_start yX0_start, Cond.initialized RX0, Cond.code yX0_start cX0_start 2 (some .int), Cond.fieldLink RX0 15 "SquareTower$Basis" "starts" "[I", Cond.methodLink RX0 22 Lib.Math.min.name, Cond.methodLink RX0 27 Lib.Math.max.name, Cond.static Lib.Math.max.name, Cond.code Lib.Math.max.name Lib.Math.max.code 2 (some .int), Cond.methodLink RX6 66 yX0_size]
def wsX8_sumOfAllowed_r2 : List Cond := [Cond.instanceMethod yX0_size, Cond.selects RX0 yX0_size yX0_size, Cond.code yX0_size cX0_size 2 (some .int), Cond.methodLink RX6 42 yX6_single, Cond.instanceMethod yX6_single, Cond.selects RX6 yX6_single yX6_single, Cond.code yX6_single cX6_single 2 (some .int), Cond.methodLink RX6 56 yX6_product, Cond.instanceMethod yX6_product, Cond.selects RX6 yX6_product yX6_product, Cond.code yX6_product cX6_product 3 (some .int), Cond.fieldLink RX6 9 "SquareTower$Squares" "products" "[I"]
def wsX8_sumOfAllowed : List Cond := .code yX8_sumOfAllowed cX8_sumOfAllowed 4 (some .int) :: ((wsX8_sumOfAllowed_r1 ++ wsX8_sumOfAllowed_r2) ++ wsX80 ++ wsX60 ++ wsX00)
def wsX8_sumOfRows_r1 : List Cond := [Cond.fieldLink RX8 64 "SquareTower" "length" "I", Cond.fieldLink RX8 60 "SquareTower" "chain" "[I", Cond.methodLink RX8 97 Lib.Math.min.name, Cond.static Lib.Math.min.name, Cond.initialized "java/lang/Math", Cond.code Lib.Math.min.name Lib.Math.min.code 2 (some .int), Cond.fieldLink RX8 36 "SquareTower" "rowProduct" "LSquareTower$RowProduct;", Cond.methodLink RX8 106 yX4_timesSum, Cond.instanceMethod yX4_timesSum, Cond.selects RX4 yX4_timesSum yX4_timesSum, Cond.initialized RX4, Cond.code yX4_timesSum cX4_timesSum 6 (some .int), Cond.fieldLink RX4 7 "SquareTower$RowProduct" "rows" "LSquareTower$Basis;", Cond.methodLink RX4 13 yX0_size, Cond.instanceMethod yX0_size, Cond.selects RX0 yX0_size yX0_size, Cond.initialized RX0, Cond.code yX0_size cX0_size 2 (some .int), Cond.fieldLink RX0 15 "SquareTower$Basis" "starts" "[I", Cond.methodLink RX4 19 yX0_start, Cond.instanceMethod yX0_start, Cond.selects RX0 yX0_start yX0_start, Cond.code yX0_start cX0_start 2 (some .int), Cond.methodLink RX0 22 Lib.Math.min.name]
def wsX8_sumOfRows_r2 : List Cond := [Cond.methodLink RX0 27 Lib.Math.max.name, Cond.static Lib.Math.max.name, Cond.code Lib.Math.max.name Lib.Math.max.code 2 (some .int), Cond.methodLink RX4 22 yX4_timesRow, Cond.instanceMethod yX4_timesRow, Cond.selects RX4 yX4_timesRow yX4_timesRow, Cond.code yX4_timesRow cX4_timesRow 11 (some .int), Cond.methodLink RX4 26 yX0_numberAt, Cond.instanceMethod yX0_numberAt, Cond.selects RX0 yX0_numberAt yX0_numberAt, Cond.code yX0_numberAt cX0_numberAt 3 (some .int), Cond.fieldLink RX0 9 "SquareTower$Basis" "numbers" "[I", Cond.methodLink RX4 30 yX0_find, Cond.instanceMethod yX0_find, Cond.selects RX0 yX0_find yX0_find, Cond.code yX0_find cX0_find 6 (some .int), Cond.methodLink RX0 30 yX0_start, Cond.methodLink RX0 34 yX0_numberAt, Cond.methodLink RX4 34 yX0_bit, Cond.instanceMethod yX0_bit, Cond.selects RX0 yX0_bit yX0_bit, Cond.code yX0_bit cX0_bit 4 (some .int), Cond.methodLink RX0 37 yX0_size]
def wsX8_sumOfRows : List Cond := .code yX8_sumOfRows cX8_sumOfRows 4 (some .int) :: ((wsX8_sumOfRows_r1 ++ wsX8_sumOfRows_r2) ++ wsX80 ++ wsX40 ++ wsX00)
def wsJ6_bitCount_0f7a4 : List Cond := .code yJ6_bitCount_0f7a4 cJ6_bitCount_0f7a4 1 (some .int) :: ([.constant RJ6 265 (1431655765), .constant RJ6 266 (858993459), .constant RJ6 267 (252645135)])
def wsX8_sum_r1 : List Cond := [Cond.methodLink RX8 71 yX8_sumOfAllowed, Cond.instanceMethod yX8_sumOfAllowed, Cond.selects RX8 yX8_sumOfAllowed yX8_sumOfAllowed, Cond.initialized RX8, Cond.code yX8_sumOfAllowed cX8_sumOfAllowed 4 (some .int), Cond.fieldLink RX8 64 "SquareTower" "length" "I", Cond.fieldLink RX8 60 "SquareTower" "chain" "[I", Cond.methodLink RX8 97 Lib.Math.min.name, Cond.static Lib.Math.min.name, Cond.initialized "java/lang/Math", Cond.code Lib.Math.min.name Lib.Math.min.code 2 (some .int), Cond.fieldLink RX8 29 "SquareTower" "squares" "LSquareTower$Squares;", Cond.methodLink RX8 102 yX6_timesSum, Cond.instanceMethod yX6_timesSum, Cond.selects RX6 yX6_timesSum yX6_timesSum, Cond.initialized RX6, Cond.code yX6_timesSum cX6_timesSum 7 (some .int), Cond.fieldLink RX6 15 "SquareTower$Squares" "allowed" "LSquareTower$Basis;", Cond.methodLink RX6 28 yX0_start, Cond.instanceMethod yX0_start, Cond.selects RX0 yX0_start yX0_start, Cond.initialized RX0, Cond.code yX0_start cX0_start 2 (some .int), Cond.fieldLink RX0 15 "SquareTower$Basis" "starts" "[I"]
def wsX8_sum_r2 : List Cond := [Cond.methodLink RX0 22 Lib.Math.min.name, Cond.methodLink RX0 27 Lib.Math.max.name, Cond.static Lib.Math.max.name, Cond.code Lib.Math.max.name Lib.Math.max.code 2 (some .int), Cond.methodLink RX6 66 yX0_size, Cond.instanceMethod yX0_size, Cond.selects RX0 yX0_size yX0_size, Cond.code yX0_size cX0_size 2 (some .int), Cond.methodLink RX6 42 yX6_single, Cond.instanceMethod yX6_single, Cond.selects RX6 yX6_single yX6_single, Cond.code yX6_single cX6_single 2 (some .int), Cond.methodLink RX6 56 yX6_product, Cond.instanceMethod yX6_product, Cond.selects RX6 yX6_product yX6_product, Cond.code yX6_product cX6_product 3 (some .int), Cond.fieldLink RX6 9 "SquareTower$Squares" "products" "[I", Cond.methodLink RX8 75 yX8_sumOfRows, Cond.instanceMethod yX8_sumOfRows, Cond.selects RX8 yX8_sumOfRows yX8_sumOfRows, Cond.code yX8_sumOfRows cX8_sumOfRows 4 (some .int), Cond.fieldLink RX8 36 "SquareTower" "rowProduct" "LSquareTower$RowProduct;", Cond.methodLink RX8 106 yX4_timesSum, Cond.instanceMethod yX4_timesSum]
def wsX8_sum_r3 : List Cond := [Cond.selects RX4 yX4_timesSum yX4_timesSum, Cond.initialized RX4, Cond.code yX4_timesSum cX4_timesSum 6 (some .int), Cond.fieldLink RX4 7 "SquareTower$RowProduct" "rows" "LSquareTower$Basis;", Cond.methodLink RX4 13 yX0_size, Cond.methodLink RX4 19 yX0_start, Cond.methodLink RX4 22 yX4_timesRow, Cond.instanceMethod yX4_timesRow, Cond.selects RX4 yX4_timesRow yX4_timesRow, Cond.code yX4_timesRow cX4_timesRow 11 (some .int), Cond.methodLink RX4 26 yX0_numberAt, Cond.instanceMethod yX0_numberAt, Cond.selects RX0 yX0_numberAt yX0_numberAt, Cond.code yX0_numberAt cX0_numberAt 3 (some .int), Cond.fieldLink RX0 9 "SquareTower$Basis" "numbers" "[I", Cond.methodLink RX4 30 yX0_find, Cond.instanceMethod yX0_find, Cond.selects RX0 yX0_find yX0_find, Cond.code yX0_find cX0_find 6 (some .int), Cond.methodLink RX0 30 yX0_start, Cond.methodLink RX0 34 yX0_numberAt, Cond.methodLink RX4 34 yX0_bit, Cond.instanceMethod yX0_bit, Cond.selects RX0 yX0_bit yX0_bit]
def wsX8_sum_r4 : List Cond := [Cond.code yX0_bit cX0_bit 4 (some .int), Cond.methodLink RX0 37 yX0_size, Cond.methodLink RX8 78 yJ6_bitCount_0f7a4, Cond.static yJ6_bitCount_0f7a4, Cond.initialized RJ6, Cond.code yJ6_bitCount_0f7a4 cJ6_bitCount_0f7a4 1 (some .int), Cond.constant RJ6 265 (1431655765), Cond.constant RJ6 266 (858993459), Cond.constant RJ6 267 (252645135)]
def wsX8_sum : List Cond := .code yX8_sum cX8_sum 2 (some .int) :: ((wsX8_sum_r1 ++ (wsX8_sum_r2 ++ (wsX8_sum_r3 ++ wsX8_sum_r4))) ++ wsX80 ++ wsX60 ++ wsX00 ++ wsX40)
def wsX8_placeOfBit : List Cond := .code yX8_placeOfBit cX8_placeOfBit 4 (some .int) :: ([])
def wsX8_term_r1 : List Cond := [Cond.fieldLink RX8 26 "SquareTower" "rows" "LSquareTower$Basis;", Cond.fieldLink RX8 68 "SquareTower" "degree" "I", Cond.fieldLink RX8 22 "SquareTower" "allowed" "LSquareTower$Basis;", Cond.methodLink RX8 71 yX8_sumOfAllowed, Cond.instanceMethod yX8_sumOfAllowed, Cond.selects RX8 yX8_sumOfAllowed yX8_sumOfAllowed, Cond.initialized RX8, Cond.code yX8_sumOfAllowed cX8_sumOfAllowed 4 (some .int), Cond.fieldLink RX8 64 "SquareTower" "length" "I", Cond.fieldLink RX8 60 "SquareTower" "chain" "[I", Cond.methodLink RX8 97 Lib.Math.min.name, Cond.static Lib.Math.min.name, Cond.initialized "java/lang/Math", Cond.code Lib.Math.min.name Lib.Math.min.code 2 (some .int), Cond.fieldLink RX8 29 "SquareTower" "squares" "LSquareTower$Squares;", Cond.methodLink RX8 102 yX6_timesSum, Cond.instanceMethod yX6_timesSum, Cond.selects RX6 yX6_timesSum yX6_timesSum, Cond.initialized RX6, Cond.code yX6_timesSum cX6_timesSum 7 (some .int), Cond.fieldLink RX6 15 "SquareTower$Squares" "allowed" "LSquareTower$Basis;", Cond.methodLink RX6 28 yX0_start, Cond.instanceMethod yX0_start, Cond.selects RX0 yX0_start yX0_start]
def wsX8_term_r2 : List Cond := [Cond.initialized RX0, Cond.code yX0_start cX0_start 2 (some .int), Cond.fieldLink RX0 15 "SquareTower$Basis" "starts" "[I", Cond.methodLink RX0 22 Lib.Math.min.name, Cond.methodLink RX0 27 Lib.Math.max.name, Cond.static Lib.Math.max.name, Cond.code Lib.Math.max.name Lib.Math.max.code 2 (some .int), Cond.methodLink RX6 66 yX0_size, Cond.instanceMethod yX0_size, Cond.selects RX0 yX0_size yX0_size, Cond.code yX0_size cX0_size 2 (some .int), Cond.methodLink RX6 42 yX6_single, Cond.instanceMethod yX6_single, Cond.selects RX6 yX6_single yX6_single, Cond.code yX6_single cX6_single 2 (some .int), Cond.methodLink RX6 56 yX6_product, Cond.instanceMethod yX6_product, Cond.selects RX6 yX6_product yX6_product, Cond.code yX6_product cX6_product 3 (some .int), Cond.fieldLink RX6 9 "SquareTower$Squares" "products" "[I", Cond.methodLink RX8 75 yX8_sumOfRows, Cond.instanceMethod yX8_sumOfRows, Cond.selects RX8 yX8_sumOfRows yX8_sumOfRows, Cond.code yX8_sumOfRows cX8_sumOfRows 4 (some .int)]
def wsX8_term_r3 : List Cond := [Cond.fieldLink RX8 36 "SquareTower" "rowProduct" "LSquareTower$RowProduct;", Cond.methodLink RX8 106 yX4_timesSum, Cond.instanceMethod yX4_timesSum, Cond.selects RX4 yX4_timesSum yX4_timesSum, Cond.initialized RX4, Cond.code yX4_timesSum cX4_timesSum 6 (some .int), Cond.fieldLink RX4 7 "SquareTower$RowProduct" "rows" "LSquareTower$Basis;", Cond.methodLink RX4 13 yX0_size, Cond.methodLink RX4 19 yX0_start, Cond.methodLink RX4 22 yX4_timesRow, Cond.instanceMethod yX4_timesRow, Cond.selects RX4 yX4_timesRow yX4_timesRow, Cond.code yX4_timesRow cX4_timesRow 11 (some .int), Cond.methodLink RX4 26 yX0_numberAt, Cond.instanceMethod yX0_numberAt, Cond.selects RX0 yX0_numberAt yX0_numberAt, Cond.code yX0_numberAt cX0_numberAt 3 (some .int), Cond.fieldLink RX0 9 "SquareTower$Basis" "numbers" "[I", Cond.methodLink RX4 30 yX0_find, Cond.instanceMethod yX0_find, Cond.selects RX0 yX0_find yX0_find, Cond.code yX0_find cX0_find 6 (some .int), Cond.methodLink RX0 30 yX0_start, Cond.methodLink RX0 34 yX0_numberAt]
def wsX8_term_r4 : List Cond := [Cond.methodLink RX4 34 yX0_bit, Cond.instanceMethod yX0_bit, Cond.selects RX0 yX0_bit yX0_bit, Cond.code yX0_bit cX0_bit 4 (some .int), Cond.methodLink RX0 37 yX0_size, Cond.methodLink RX8 84 yX8_placeOfBit, Cond.static yX8_placeOfBit, Cond.code yX8_placeOfBit cX8_placeOfBit 4 (some .int), Cond.methodLink RX8 88 yX0_start, Cond.methodLink RX8 91 yX0_numberAt]
def wsX8_term : List Cond := .code yX8_term cX8_term 6 (some .int) :: ((wsX8_term_r1 ++ (wsX8_term_r2 ++ (wsX8_term_r3 ++ wsX8_term_r4))) ++ wsX80 ++ wsX60 ++ wsX00 ++ wsX40)
def wsX8_many : List Cond := .code yX8_many cX8_many 2 (some .int) :: ([.fieldLink RX8 22 "SquareTower" "allowed" "LSquareTower$Basis;", .methodLink RX8 94 yX0_size, .instanceMethod yX0_size, .selects RX0 yX0_size yX0_size, .initialized RX0, .code yX0_size cX0_size 2 (some .int), .fieldLink RX0 15 "SquareTower$Basis" "starts" "[I"] ++ wsX80 ++ wsX00)
def wsX8_spaceHasChanged : List Cond := .code yX8_spaceHasChanged cX8_spaceHasChanged 1 none :: ([.fieldLink RX8 49 "SquareTower" "tower" "LSquareTower$Tower;", .fieldLink RX8 56 "SquareTower" "chart" "LSquareTower$Chart;", .methodLink RX8 148 yX7_restart, .instanceMethod yX7_restart, .selects RX7 yX7_restart yX7_restart, .initialized RX7, .code yX7_restart cX7_restart 1 none, .fieldLink RX7 61 "SquareTower$Tower" "built" "I", .methodLink RX8 149 yX2_wipe, .instanceMethod yX2_wipe, .selects RX2 yX2_wipe yX2_wipe, .initialized RX2, .code yX2_wipe cX2_wipe 1 none, .fieldLink RX2 9 "SquareTower$Chart" "ranks" "[I", .methodLink RX2 19 yJ7_fill_53178, .static yJ7_fill_53178, .initialized RJ7, .code yJ7_fill_53178 cJ7_fill_53178 4 none] ++ wsX80 ++ wsX70 ++ wsX20)
def wsX8_empty_r1 : List Cond := [Cond.fieldLink RX8 40 "SquareTower" "space" "LSquareTower$Space;", Cond.methodLink RX8 107 yX5_size, Cond.instanceMethod yX5_size, Cond.selects RX5 yX5_size yX5_size, Cond.initialized RX5, Cond.code yX5_size cX5_size 1 (some .int), Cond.fieldLink RX5 21 "SquareTower$Space" "size" "I", Cond.methodLink RX8 109 yX5_restart, Cond.instanceMethod yX5_restart, Cond.selects RX5 yX5_restart yX5_restart, Cond.code yX5_restart cX5_restart 1 none, Cond.fieldLink RX5 29 "SquareTower$Space" "checked" "Z", Cond.fieldLink RX5 15 "SquareTower$Space" "acts" "[I", Cond.methodLink RX5 33 yJ7_fill_53178, Cond.static yJ7_fill_53178, Cond.initialized RJ7, Cond.code yJ7_fill_53178 cJ7_fill_53178 4 none, Cond.methodLink RX8 112 yX8_spaceHasChanged, Cond.instanceMethod yX8_spaceHasChanged, Cond.selects RX8 yX8_spaceHasChanged yX8_spaceHasChanged, Cond.initialized RX8, Cond.code yX8_spaceHasChanged cX8_spaceHasChanged 1 none, Cond.fieldLink RX8 49 "SquareTower" "tower" "LSquareTower$Tower;", Cond.fieldLink RX8 56 "SquareTower" "chart" "LSquareTower$Chart;"]
def wsX8_empty_r2 : List Cond := [Cond.methodLink RX8 148 yX7_restart, Cond.instanceMethod yX7_restart, Cond.selects RX7 yX7_restart yX7_restart, Cond.initialized RX7, Cond.code yX7_restart cX7_restart 1 none, Cond.fieldLink RX7 61 "SquareTower$Tower" "built" "I", Cond.methodLink RX8 149 yX2_wipe, Cond.instanceMethod yX2_wipe, Cond.selects RX2 yX2_wipe yX2_wipe, Cond.initialized RX2, Cond.code yX2_wipe cX2_wipe 1 none, Cond.fieldLink RX2 9 "SquareTower$Chart" "ranks" "[I", Cond.methodLink RX2 19 yJ7_fill_53178]
def wsX8_empty : List Cond := .code yX8_empty cX8_empty 2 (some .int) :: ((wsX8_empty_r1 ++ wsX8_empty_r2) ++ wsX80 ++ wsX50 ++ wsX70 ++ wsX20)
def wsX8_element_r1 : List Cond := [Cond.fieldLink RX8 40 "SquareTower" "space" "LSquareTower$Space;", Cond.methodLink RX8 107 yX5_size, Cond.instanceMethod yX5_size, Cond.selects RX5 yX5_size yX5_size, Cond.initialized RX5, Cond.code yX5_size cX5_size 1 (some .int), Cond.fieldLink RX5 21 "SquareTower$Space" "size" "I", Cond.methodLink RX8 112 yX8_spaceHasChanged, Cond.instanceMethod yX8_spaceHasChanged, Cond.selects RX8 yX8_spaceHasChanged yX8_spaceHasChanged, Cond.initialized RX8, Cond.code yX8_spaceHasChanged cX8_spaceHasChanged 1 none, Cond.fieldLink RX8 49 "SquareTower" "tower" "LSquareTower$Tower;", Cond.fieldLink RX8 56 "SquareTower" "chart" "LSquareTower$Chart;", Cond.methodLink RX8 148 yX7_restart, Cond.instanceMethod yX7_restart, Cond.selects RX7 yX7_restart yX7_restart, Cond.initialized RX7, Cond.code yX7_restart cX7_restart 1 none, Cond.fieldLink RX7 61 "SquareTower$Tower" "built" "I", Cond.methodLink RX8 149 yX2_wipe, Cond.instanceMethod yX2_wipe, Cond.selects RX2 yX2_wipe yX2_wipe, Cond.initialized RX2]
def wsX8_element_r2 : List Cond := [Cond.code yX2_wipe cX2_wipe 1 none, Cond.fieldLink RX2 9 "SquareTower$Chart" "ranks" "[I", Cond.methodLink RX2 19 yJ7_fill_53178, Cond.static yJ7_fill_53178, Cond.initialized RJ7, Cond.code yJ7_fill_53178 cJ7_fill_53178 4 none, Cond.methodLink RX8 115 yX5_add, Cond.instanceMethod yX5_add, Cond.selects RX5 yX5_add yX5_add, Cond.code yX5_add cX5_add 2 (some .int), Cond.fieldLink RX5 9 "SquareTower$Space" "degrees" "[I", Cond.fieldLink RX5 29 "SquareTower$Space" "checked" "Z"]
def wsX8_element : List Cond := .code yX8_element cX8_element 2 (some .int) :: ((wsX8_element_r1 ++ wsX8_element_r2) ++ wsX80 ++ wsX50 ++ wsX70 ++ wsX20)
def wsX8_act_r1 : List Cond := [Cond.fieldLink RX8 40 "SquareTower" "space" "LSquareTower$Space;", Cond.methodLink RX8 118 yX5_has, Cond.instanceMethod yX5_has, Cond.selects RX5 yX5_has yX5_has, Cond.initialized RX5, Cond.code yX5_has cX5_has 2 (some .boolean), Cond.fieldLink RX5 21 "SquareTower$Space" "size" "I", Cond.methodLink RX8 122 yX5_degreeOf, Cond.instanceMethod yX5_degreeOf, Cond.selects RX5 yX5_degreeOf yX5_degreeOf, Cond.code yX5_degreeOf cX5_degreeOf 2 (some .int), Cond.fieldLink RX5 9 "SquareTower$Space" "degrees" "[I", Cond.methodLink RX5 25 yX5_has, Cond.methodLink RX8 125 yX5_ofDegree, Cond.instanceMethod yX5_ofDegree, Cond.selects RX5 yX5_ofDegree yX5_ofDegree, Cond.code yX5_ofDegree cX5_ofDegree 4 (some .int), Cond.methodLink RX5 54 yX5_degreeOf, Cond.methodLink RX8 128 yX5_acted, Cond.instanceMethod yX5_acted, Cond.selects RX5 yX5_acted yX5_acted, Cond.code yX5_acted cX5_acted 4 (some .int), Cond.fieldLink RX5 15 "SquareTower$Space" "acts" "[I", Cond.methodLink RX8 131 yX5_setAct]
def wsX8_act_r2 : List Cond := [Cond.instanceMethod yX5_setAct, Cond.selects RX5 yX5_setAct yX5_setAct, Cond.code yX5_setAct cX5_setAct 4 none, Cond.fieldLink RX5 29 "SquareTower$Space" "checked" "Z", Cond.methodLink RX8 112 yX8_spaceHasChanged, Cond.instanceMethod yX8_spaceHasChanged, Cond.selects RX8 yX8_spaceHasChanged yX8_spaceHasChanged, Cond.initialized RX8, Cond.code yX8_spaceHasChanged cX8_spaceHasChanged 1 none, Cond.fieldLink RX8 49 "SquareTower" "tower" "LSquareTower$Tower;", Cond.fieldLink RX8 56 "SquareTower" "chart" "LSquareTower$Chart;", Cond.methodLink RX8 148 yX7_restart, Cond.instanceMethod yX7_restart, Cond.selects RX7 yX7_restart yX7_restart, Cond.initialized RX7, Cond.code yX7_restart cX7_restart 1 none, Cond.fieldLink RX7 61 "SquareTower$Tower" "built" "I", Cond.methodLink RX8 149 yX2_wipe, Cond.instanceMethod yX2_wipe, Cond.selects RX2 yX2_wipe yX2_wipe, Cond.initialized RX2, Cond.code yX2_wipe cX2_wipe 1 none, Cond.fieldLink RX2 9 "SquareTower$Chart" "ranks" "[I", Cond.methodLink RX2 19 yJ7_fill_53178]
def wsX8_act_r3 : List Cond := [Cond.static yJ7_fill_53178, Cond.initialized RJ7, Cond.code yJ7_fill_53178 cJ7_fill_53178 4 none]
def wsX8_act : List Cond := .code yX8_act cX8_act 6 (some .int) :: ((wsX8_act_r1 ++ (wsX8_act_r2 ++ wsX8_act_r3)) ++ wsX80 ++ wsX50 ++ wsX70 ++ wsX20)
def wsX8_isName : List Cond := .code yX8_isName cX8_isName 3 (some .boolean) :: ([])
def wsX8_space_r1 : List Cond := [Cond.fieldLink RX8 40 "SquareTower" "space" "LSquareTower$Space;", Cond.methodLink RX8 135 yX8_isName, Cond.static yX8_isName, Cond.initialized RX8, Cond.code yX8_isName cX8_isName 3 (some .boolean), Cond.methodLink RX8 139 yX5_spread, Cond.instanceMethod yX5_spread, Cond.selects RX5 yX5_spread yX5_spread, Cond.initialized RX5, Cond.code yX5_spread cX5_spread 6 none, Cond.methodLink RX5 39 yX5_restart, Cond.instanceMethod yX5_restart, Cond.selects RX5 yX5_restart yX5_restart, Cond.code yX5_restart cX5_restart 1 none, Cond.fieldLink RX5 21 "SquareTower$Space" "size" "I", Cond.fieldLink RX5 29 "SquareTower$Space" "checked" "Z", Cond.fieldLink RX5 15 "SquareTower$Space" "acts" "[I", Cond.methodLink RX5 33 yJ7_fill_53178, Cond.static yJ7_fill_53178, Cond.initialized RJ7, Cond.code yJ7_fill_53178 cJ7_fill_53178 4 none, Cond.methodLink RX5 42 yX5_add, Cond.instanceMethod yX5_add, Cond.selects RX5 yX5_add yX5_add]
def wsX8_space_r2 : List Cond := [Cond.code yX5_add cX5_add 2 (some .int), Cond.fieldLink RX5 9 "SquareTower$Space" "degrees" "[I", Cond.static yX8_isOdd, Cond.code yX8_isOdd cX8_isOdd 2 (some .boolean), Cond.methodLink RX5 50 yX5_setAct, Cond.instanceMethod yX5_setAct, Cond.selects RX5 yX5_setAct yX5_setAct, Cond.code yX5_setAct cX5_setAct 4 none, Cond.methodLink RX5 25 yX5_has, Cond.instanceMethod yX5_has, Cond.selects RX5 yX5_has yX5_has, Cond.code yX5_has cX5_has 2 (some .boolean), Cond.methodLink RX8 112 yX8_spaceHasChanged, Cond.instanceMethod yX8_spaceHasChanged, Cond.selects RX8 yX8_spaceHasChanged yX8_spaceHasChanged, Cond.code yX8_spaceHasChanged cX8_spaceHasChanged 1 none, Cond.fieldLink RX8 49 "SquareTower" "tower" "LSquareTower$Tower;", Cond.fieldLink RX8 56 "SquareTower" "chart" "LSquareTower$Chart;", Cond.methodLink RX8 148 yX7_restart, Cond.instanceMethod yX7_restart, Cond.selects RX7 yX7_restart yX7_restart, Cond.initialized RX7, Cond.code yX7_restart cX7_restart 1 none, Cond.fieldLink RX7 61 "SquareTower$Tower" "built" "I"]
def wsX8_space_r3 : List Cond := [Cond.methodLink RX8 149 yX2_wipe, Cond.instanceMethod yX2_wipe, Cond.selects RX2 yX2_wipe yX2_wipe, Cond.initialized RX2, Cond.code yX2_wipe cX2_wipe 1 none, Cond.fieldLink RX2 9 "SquareTower$Chart" "ranks" "[I", Cond.methodLink RX2 19 yJ7_fill_53178, Cond.methodLink RX8 107 yX5_size, Cond.instanceMethod yX5_size, Cond.selects RX5 yX5_size yX5_size, Cond.code yX5_size cX5_size 1 (some .int)]
def wsX8_space : List Cond := .code yX8_space cX8_space 4 (some .int) :: ((wsX8_space_r1 ++ (wsX8_space_r2 ++ wsX8_space_r3)) ++ wsX80 ++ wsX50 ++ wsX70 ++ wsX20)
def wsX8_does : List Cond := .code yX8_does cX8_does 4 (some .int) :: ([.fieldLink RX8 40 "SquareTower" "space" "LSquareTower$Space;", .fieldLink RX8 64 "SquareTower" "length" "I", .fieldLink RX8 60 "SquareTower" "chain" "[I", .methodLink RX8 97 Lib.Math.min.name, .static Lib.Math.min.name, .initialized "java/lang/Math", .code Lib.Math.min.name Lib.Math.min.code 2 (some .int), .methodLink RX8 118 yX5_has, .instanceMethod yX5_has, .selects RX5 yX5_has yX5_has, .initialized RX5, .code yX5_has cX5_has 2 (some .boolean), .fieldLink RX5 21 "SquareTower$Space" "size" "I", .methodLink RX8 142 yX5_apply, .instanceMethod yX5_apply, .selects RX5 yX5_apply yX5_apply, .code yX5_apply cX5_apply 5 (some .int), .methodLink RX5 57 yX5_acted, .instanceMethod yX5_acted, .selects RX5 yX5_acted yX5_acted, .code yX5_acted cX5_acted 4 (some .int), .fieldLink RX5 15 "SquareTower$Space" "acts" "[I"] ++ wsX80 ++ wsX50)
def wsX8_about : List Cond := .code yX8_about cX8_about 3 (some .int) :: ([.fieldLink RX8 40 "SquareTower" "space" "LSquareTower$Space;", .methodLink RX8 118 yX5_has, .instanceMethod yX5_has, .selects RX5 yX5_has yX5_has, .initialized RX5, .code yX5_has cX5_has 2 (some .boolean), .fieldLink RX5 21 "SquareTower$Space" "size" "I", .methodLink RX8 122 yX5_degreeOf, .instanceMethod yX5_degreeOf, .selects RX5 yX5_degreeOf yX5_degreeOf, .code yX5_degreeOf cX5_degreeOf 2 (some .int), .fieldLink RX5 9 "SquareTower$Space" "degrees" "[I", .methodLink RX5 25 yX5_has, .methodLink RX8 128 yX5_acted, .instanceMethod yX5_acted, .selects RX5 yX5_acted yX5_acted, .code yX5_acted cX5_acted 4 (some .int), .fieldLink RX5 15 "SquareTower$Space" "acts" "[I"] ++ wsX80 ++ wsX50)
def wsX8_fault_r1 : List Cond := [Cond.fieldLink RX8 40 "SquareTower" "space" "LSquareTower$Space;", Cond.methodLink RX8 145 yX5_firstFault, Cond.instanceMethod yX5_firstFault, Cond.selects RX5 yX5_firstFault yX5_firstFault, Cond.initialized RX5, Cond.code yX5_firstFault cX5_firstFault 2 (some .int), Cond.fieldLink RX5 29 "SquareTower$Space" "checked" "Z", Cond.fieldLink RX5 18 "SquareTower$Space" "faults" "[I", Cond.methodLink RX5 64 yX5_findFault, Cond.instanceMethod yX5_findFault, Cond.selects RX5 yX5_findFault yX5_findFault, Cond.code yX5_findFault cX5_findFault 4 none, Cond.fieldLink RX5 21 "SquareTower$Space" "size" "I", Cond.methodLink RX5 33 yJ7_fill_53178, Cond.static yJ7_fill_53178, Cond.initialized RJ7, Cond.code yJ7_fill_53178 cJ7_fill_53178 4 none, Cond.methodLink RX5 57 yX5_acted, Cond.instanceMethod yX5_acted, Cond.selects RX5 yX5_acted yX5_acted, Cond.code yX5_acted cX5_acted 4 (some .int), Cond.fieldLink RX5 15 "SquareTower$Space" "acts" "[I", Cond.methodLink RX5 67 yX5_apply, Cond.instanceMethod yX5_apply]
def wsX8_fault_r2 : List Cond := [Cond.selects RX5 yX5_apply yX5_apply, Cond.code yX5_apply cX5_apply 5 (some .int), Cond.methodLink RX5 70 yX5_byTheRule, Cond.instanceMethod yX5_byTheRule, Cond.selects RX5 yX5_byTheRule yX5_byTheRule, Cond.code yX5_byTheRule cX5_byTheRule 6 (some .int), Cond.static yX8_isOdd, Cond.initialized RX8, Cond.code yX8_isOdd cX8_isOdd 2 (some .boolean)]
def wsX8_fault : List Cond := .code yX8_fault cX8_fault 2 (some .int) :: ((wsX8_fault_r1 ++ wsX8_fault_r2) ++ wsX80 ++ wsX50)
def wsX8_live_r1 : List Cond := [Cond.fieldLink RX8 40 "SquareTower" "space" "LSquareTower$Space;", Cond.fieldLink RX8 49 "SquareTower" "tower" "LSquareTower$Tower;", Cond.methodLink RX8 152 yX8_isInChart, Cond.static yX8_isInChart, Cond.initialized RX8, Cond.code yX8_isInChart cX8_isInChart 2 (some .boolean), Cond.methodLink RX8 156 yX5_isSound, Cond.instanceMethod yX5_isSound, Cond.selects RX5 yX5_isSound yX5_isSound, Cond.initialized RX5, Cond.code yX5_isSound cX5_isSound 1 (some .boolean), Cond.methodLink RX5 61 yX5_firstFault, Cond.instanceMethod yX5_firstFault, Cond.selects RX5 yX5_firstFault yX5_firstFault, Cond.code yX5_firstFault cX5_firstFault 2 (some .int), Cond.fieldLink RX5 29 "SquareTower$Space" "checked" "Z", Cond.fieldLink RX5 18 "SquareTower$Space" "faults" "[I", Cond.methodLink RX5 64 yX5_findFault, Cond.instanceMethod yX5_findFault, Cond.selects RX5 yX5_findFault yX5_findFault, Cond.code yX5_findFault cX5_findFault 4 none, Cond.fieldLink RX5 21 "SquareTower$Space" "size" "I", Cond.methodLink RX5 33 yJ7_fill_53178, Cond.static yJ7_fill_53178]
def wsX8_live_r2 : List Cond := [Cond.initialized RJ7, Cond.code yJ7_fill_53178 cJ7_fill_53178 4 none, Cond.methodLink RX5 57 yX5_acted, Cond.instanceMethod yX5_acted, Cond.selects RX5 yX5_acted yX5_acted, Cond.code yX5_acted cX5_acted 4 (some .int), Cond.fieldLink RX5 15 "SquareTower$Space" "acts" "[I", Cond.methodLink RX5 67 yX5_apply, Cond.instanceMethod yX5_apply, Cond.selects RX5 yX5_apply yX5_apply, Cond.code yX5_apply cX5_apply 5 (some .int), Cond.methodLink RX5 70 yX5_byTheRule, Cond.instanceMethod yX5_byTheRule, Cond.selects RX5 yX5_byTheRule yX5_byTheRule, Cond.code yX5_byTheRule cX5_byTheRule 6 (some .int), Cond.static yX8_isOdd, Cond.code yX8_isOdd cX8_isOdd 2 (some .boolean), Cond.methodLink RX8 160 yX7_build, Cond.instanceMethod yX7_build, Cond.selects RX7 yX7_build yX7_build, Cond.initialized RX7, Cond.code yX7_build cX7_build 3 none, Cond.fieldLink RX7 61 "SquareTower$Tower" "built" "I", Cond.fieldLink RX7 11 "SquareTower$Tower" "floors" "[LSquareTower$Floor;"]
def wsX8_live_r3 : List Cond := [Cond.methodLink RX7 99 yX3_restart, Cond.instanceMethod yX3_restart, Cond.selects RX3 yX3_restart yX3_restart, Cond.initialized RX3, Cond.code yX3_restart cX3_restart 1 none, Cond.fieldLink RX3 28 "SquareTower$Floor" "generators" "I", Cond.fieldLink RX3 20 "SquareTower$Floor" "goals" "LSquareTower$BitRows;", Cond.methodLink RX3 32 yX1_restart, Cond.instanceMethod yX1_restart, Cond.selects RX1 yX1_restart yX1_restart, Cond.initialized RX1, Cond.code yX1_restart cX1_restart 2 none, Cond.methodLink RX1 28 Lib.Math.min.name, Cond.static Lib.Math.min.name, Cond.initialized "java/lang/Math", Cond.code Lib.Math.min.name Lib.Math.min.code 2 (some .int), Cond.methodLink RX1 9 Lib.Math.max.name, Cond.static Lib.Math.max.name, Cond.code Lib.Math.max.name Lib.Math.max.code 2 (some .int), Cond.fieldLink RX1 21 "SquareTower$BitRows" "words" "I", Cond.fieldLink RX1 25 "SquareTower$BitRows" "count" "I", Cond.methodLink RX7 102 yX7_buildDegree, Cond.instanceMethod yX7_buildDegree, Cond.selects RX7 yX7_buildDegree yX7_buildDegree]
def wsX8_live_r4 : List Cond := [Cond.code yX7_buildDegree cX7_buildDegree 9 none, Cond.fieldLink RX7 19 "SquareTower$Tower" "kernels" "[LSquareTower$BitRows;", Cond.fieldLink RX7 54 "SquareTower$Tower" "space" "LSquareTower$Space;", Cond.fieldLink RX7 26 "SquareTower$Tower" "values" "LSquareTower$BitRows;", Cond.fieldLink RX7 30 "SquareTower$Tower" "sources" "LSquareTower$BitRows;", Cond.fieldLink RX7 33 "SquareTower$Tower" "pivots" "[I", Cond.methodLink RX7 87 Lib.Math.min.name, Cond.methodLink RX7 105 yX5_ofDegree, Cond.instanceMethod yX5_ofDegree, Cond.selects RX5 yX5_ofDegree yX5_ofDegree, Cond.code yX5_ofDegree cX5_ofDegree 4 (some .int), Cond.methodLink RX5 54 yX5_degreeOf, Cond.instanceMethod yX5_degreeOf, Cond.selects RX5 yX5_degreeOf yX5_degreeOf, Cond.code yX5_degreeOf cX5_degreeOf 2 (some .int), Cond.fieldLink RX5 9 "SquareTower$Space" "degrees" "[I", Cond.methodLink RX5 25 yX5_has, Cond.instanceMethod yX5_has, Cond.selects RX5 yX5_has yX5_has, Cond.code yX5_has cX5_has 2 (some .boolean), Cond.methodLink RX7 110 yX7_listElements, Cond.static yX7_listElements, Cond.code yX7_listElements cX7_listElements 3 none, Cond.methodLink RX7 114 yX1_restart]
def wsX8_live_r5 : List Cond := [Cond.methodLink RX7 130 yX1_open, Cond.instanceMethod yX1_open, Cond.selects RX1 yX1_open yX1_open, Cond.code yX1_open cX1_open 2 (some .int), Cond.fieldLink RX1 15 "SquareTower$BitRows" "cells" "[J", Cond.methodLink RX7 133 yX1_flip, Cond.instanceMethod yX1_flip, Cond.selects RX1 yX1_flip yX1_flip, Cond.code yX1_flip cX1_flip 5 none, Cond.methodLink RX1 37 yX1_flipWord, Cond.instanceMethod yX1_flipWord, Cond.selects RX1 yX1_flipWord yX1_flipWord, Cond.code yX1_flipWord cX1_flipWord 5 none, Cond.methodLink RX7 69 yX3_places, Cond.instanceMethod yX3_places, Cond.selects RX3 yX3_places yX3_places, Cond.code yX3_places cX3_places 4 (some .int), Cond.methodLink RX3 48 yX3_width, Cond.instanceMethod yX3_width, Cond.selects RX3 yX3_width yX3_width, Cond.code yX3_width cX3_width 3 (some .int), Cond.fieldLink RX3 24 "SquareTower$Floor" "allowed" "LSquareTower$Basis;", Cond.methodLink RX3 39 yX3_degreeOf, Cond.instanceMethod yX3_degreeOf]
def wsX8_live_r6 : List Cond := [Cond.selects RX3 yX3_degreeOf yX3_degreeOf, Cond.code yX3_degreeOf cX3_degreeOf 2 (some .int), Cond.fieldLink RX3 9 "SquareTower$Floor" "degrees" "[I", Cond.methodLink RX3 43 yX0_size, Cond.instanceMethod yX0_size, Cond.selects RX0 yX0_size yX0_size, Cond.initialized RX0, Cond.code yX0_size cX0_size 2 (some .int), Cond.fieldLink RX0 15 "SquareTower$Basis" "starts" "[I", Cond.methodLink RX7 116 yJ7_fill_fda19, Cond.static yJ7_fill_fda19, Cond.code yJ7_fill_fda19 cJ7_fill_fda19 5 none, Cond.methodLink RJ7 13 yJ7_rangeCheck_23922, Cond.static yJ7_rangeCheck_23922, Cond.code yJ7_rangeCheck_23922 cJ7_rangeCheck_23922 3 none, Cond.methodLink RX7 122 yX7_carryOver, Cond.instanceMethod yX7_carryOver, Cond.selects RX7 yX7_carryOver yX7_carryOver, Cond.code yX7_carryOver cX7_carryOver 13 none, Cond.fieldLink RX7 46 "SquareTower$Tower" "allowed" "LSquareTower$Basis;", Cond.methodLink RX7 72 yX3_generators, Cond.instanceMethod yX3_generators, Cond.selects RX3 yX3_generators yX3_generators, Cond.code yX3_generators cX3_generators 1 (some .int)]
def wsX8_live_r7 : List Cond := [Cond.methodLink RX7 76 yX3_degreeOf, Cond.methodLink RX7 137 yX7_listPlaces, Cond.instanceMethod yX7_listPlaces, Cond.selects RX7 yX7_listPlaces yX7_listPlaces, Cond.code yX7_listPlaces cX7_listPlaces 10 none, Cond.fieldLink RX7 37 "SquareTower$Tower" "chainAt" "[I", Cond.fieldLink RX7 40 "SquareTower$Tower" "targetAt" "[I", Cond.methodLink RX7 141 yX0_start, Cond.instanceMethod yX0_start, Cond.selects RX0 yX0_start yX0_start, Cond.code yX0_start cX0_start 2 (some .int), Cond.methodLink RX0 22 Lib.Math.min.name, Cond.methodLink RX0 27 Lib.Math.max.name, Cond.methodLink RX7 93 yX3_width, Cond.methodLink RX7 146 yX0_size, Cond.methodLink RX7 79 yX3_goals, Cond.instanceMethod yX3_goals, Cond.selects RX3 yX3_goals yX3_goals, Cond.code yX3_goals cX3_goals 1 (some (.object "SquareTower$BitRows")), Cond.methodLink RX7 149 yX7_putProduct, Cond.instanceMethod yX7_putProduct, Cond.selects RX7 yX7_putProduct yX7_putProduct, Cond.code yX7_putProduct cX7_putProduct 7 none, Cond.fieldLink RX7 50 "SquareTower$Tower" "squares" "LSquareTower$Squares;"]
def wsX8_live_r8 : List Cond := [Cond.methodLink RX7 163 yX1_next, Cond.instanceMethod yX1_next, Cond.selects RX1 yX1_next yX1_next, Cond.code yX1_next cX1_next 8 (some .int), Cond.constantLong RX1 41 (-1), Cond.methodLink RX1 43 yJ13_bitCount_95d88, Cond.static yJ13_bitCount_95d88, Cond.initialized RJ13, Cond.code yJ13_bitCount_95d88 cJ13_bitCount_95d88 2 (some .int), Cond.constantLong RJ13 314 (6148914691236517205), Cond.constantLong RJ13 316 (3689348814741910323), Cond.constantLong RJ13 318 (1085102592571150095), Cond.methodLink RX7 166 yX6_product, Cond.instanceMethod yX6_product, Cond.selects RX6 yX6_product yX6_product, Cond.initialized RX6, Cond.code yX6_product cX6_product 3 (some .int), Cond.fieldLink RX6 9 "SquareTower$Squares" "products" "[I", Cond.methodLink RX7 153 yX1_firstBits, Cond.instanceMethod yX1_firstBits, Cond.selects RX1 yX1_firstBits yX1_firstBits, Cond.code yX1_firstBits cX1_firstBits 2 (some .int), Cond.constantLong RX1 35 (2147483647), Cond.methodLink RX1 31 yX1_word]
def wsX8_live_r9 : List Cond := [Cond.instanceMethod yX1_word, Cond.selects RX1 yX1_word yX1_word, Cond.code yX1_word cX1_word 3 (some .long), Cond.methodLink RX7 156 yX7_applyChain, Cond.instanceMethod yX7_applyChain, Cond.selects RX7 yX7_applyChain yX7_applyChain, Cond.code yX7_applyChain cX7_applyChain 5 (some .int), Cond.methodLink RX7 171 yX0_numberAt, Cond.instanceMethod yX0_numberAt, Cond.selects RX0 yX0_numberAt yX0_numberAt, Cond.code yX0_numberAt cX0_numberAt 3 (some .int), Cond.fieldLink RX0 9 "SquareTower$Basis" "numbers" "[I", Cond.methodLink RX7 174 yX5_apply, Cond.methodLink RX7 159 yX7_keepOrDrop, Cond.instanceMethod yX7_keepOrDrop, Cond.selects RX7 yX7_keepOrDrop yX7_keepOrDrop, Cond.code yX7_keepOrDrop cX7_keepOrDrop 4 none, Cond.methodLink RX7 177 yX7_reduce, Cond.instanceMethod yX7_reduce, Cond.selects RX7 yX7_reduce yX7_reduce, Cond.code yX7_reduce cX7_reduce 5 (some .int), Cond.methodLink RX7 194 yX1_add, Cond.instanceMethod yX1_add, Cond.selects RX1 yX1_add yX1_add]
def wsX8_live_r10 : List Cond := [Cond.code yX1_add cX1_add 4 none, Cond.methodLink RX7 180 yX1_copy, Cond.instanceMethod yX1_copy, Cond.selects RX1 yX1_copy yX1_copy, Cond.code yX1_copy cX1_copy 5 (some .int), Cond.methodLink RX1 49 yX1_open, Cond.methodLink RX7 184 yX1_dropLast, Cond.instanceMethod yX1_dropLast, Cond.selects RX1 yX1_dropLast yX1_dropLast, Cond.code yX1_dropLast cX1_dropLast 1 none, Cond.methodLink RX7 126 yX7_cover, Cond.instanceMethod yX7_cover, Cond.selects RX7 yX7_cover yX7_cover, Cond.code yX7_cover cX7_cover 7 none, Cond.methodLink RX7 187 yX1_height, Cond.instanceMethod yX1_height, Cond.selects RX1 yX1_height yX1_height, Cond.code yX1_height cX1_height 1 (some .int), Cond.methodLink RX7 190 yX3_add, Cond.instanceMethod yX3_add, Cond.selects RX3 yX3_add yX3_add, Cond.code yX3_add cX3_add 4 none, Cond.methodLink RX3 35 yX1_copy, Cond.methodLink RX8 164 yX7_generatorsAt]
def wsX8_live_r11 : List Cond := [Cond.instanceMethod yX7_generatorsAt, Cond.selects RX7 yX7_generatorsAt yX7_generatorsAt, Cond.code yX7_generatorsAt cX7_generatorsAt 3 (some .int), Cond.methodLink RX7 65 yX3_generatorsOf, Cond.instanceMethod yX3_generatorsOf, Cond.selects RX3 yX3_generatorsOf yX3_generatorsOf, Cond.code yX3_generatorsOf cX3_generatorsOf 4 (some .int)]
def wsX8_live : List Cond := .code yX8_live cX8_live 3 (some .int) :: ((wsX8_live_r1 ++ (wsX8_live_r2 ++ (wsX8_live_r3 ++ (wsX8_live_r4 ++ (wsX8_live_r5 ++ (wsX8_live_r6 ++ (wsX8_live_r7 ++ (wsX8_live_r8 ++ (wsX8_live_r9 ++ (wsX8_live_r10 ++ wsX8_live_r11)))))))))) ++ wsX80 ++ wsX50 ++ wsX70 ++ wsX30 ++ wsX10 ++ wsX00 ++ wsX60)
def wsX8_joins_r1 : List Cond := [Cond.fieldLink RX8 40 "SquareTower" "space" "LSquareTower$Space;", Cond.fieldLink RX8 49 "SquareTower" "tower" "LSquareTower$Tower;", Cond.methodLink RX8 156 yX5_isSound, Cond.instanceMethod yX5_isSound, Cond.selects RX5 yX5_isSound yX5_isSound, Cond.initialized RX5, Cond.code yX5_isSound cX5_isSound 1 (some .boolean), Cond.methodLink RX5 61 yX5_firstFault, Cond.instanceMethod yX5_firstFault, Cond.selects RX5 yX5_firstFault yX5_firstFault, Cond.code yX5_firstFault cX5_firstFault 2 (some .int), Cond.fieldLink RX5 29 "SquareTower$Space" "checked" "Z", Cond.fieldLink RX5 18 "SquareTower$Space" "faults" "[I", Cond.methodLink RX5 64 yX5_findFault, Cond.instanceMethod yX5_findFault, Cond.selects RX5 yX5_findFault yX5_findFault, Cond.code yX5_findFault cX5_findFault 4 none, Cond.fieldLink RX5 21 "SquareTower$Space" "size" "I", Cond.methodLink RX5 33 yJ7_fill_53178, Cond.static yJ7_fill_53178, Cond.initialized RJ7, Cond.code yJ7_fill_53178 cJ7_fill_53178 4 none, Cond.methodLink RX5 57 yX5_acted, Cond.instanceMethod yX5_acted]
def wsX8_joins_r2 : List Cond := [Cond.selects RX5 yX5_acted yX5_acted, Cond.code yX5_acted cX5_acted 4 (some .int), Cond.fieldLink RX5 15 "SquareTower$Space" "acts" "[I", Cond.methodLink RX5 67 yX5_apply, Cond.instanceMethod yX5_apply, Cond.selects RX5 yX5_apply yX5_apply, Cond.code yX5_apply cX5_apply 5 (some .int), Cond.methodLink RX5 70 yX5_byTheRule, Cond.instanceMethod yX5_byTheRule, Cond.selects RX5 yX5_byTheRule yX5_byTheRule, Cond.code yX5_byTheRule cX5_byTheRule 6 (some .int), Cond.static yX8_isOdd, Cond.initialized RX8, Cond.code yX8_isOdd cX8_isOdd 2 (some .boolean), Cond.methodLink RX8 160 yX7_build, Cond.instanceMethod yX7_build, Cond.selects RX7 yX7_build yX7_build, Cond.initialized RX7, Cond.code yX7_build cX7_build 3 none, Cond.fieldLink RX7 61 "SquareTower$Tower" "built" "I", Cond.fieldLink RX7 11 "SquareTower$Tower" "floors" "[LSquareTower$Floor;", Cond.methodLink RX7 99 yX3_restart, Cond.instanceMethod yX3_restart, Cond.selects RX3 yX3_restart yX3_restart]
def wsX8_joins_r3 : List Cond := [Cond.initialized RX3, Cond.code yX3_restart cX3_restart 1 none, Cond.fieldLink RX3 28 "SquareTower$Floor" "generators" "I", Cond.fieldLink RX3 20 "SquareTower$Floor" "goals" "LSquareTower$BitRows;", Cond.methodLink RX3 32 yX1_restart, Cond.instanceMethod yX1_restart, Cond.selects RX1 yX1_restart yX1_restart, Cond.initialized RX1, Cond.code yX1_restart cX1_restart 2 none, Cond.methodLink RX1 28 Lib.Math.min.name, Cond.static Lib.Math.min.name, Cond.initialized "java/lang/Math", Cond.code Lib.Math.min.name Lib.Math.min.code 2 (some .int), Cond.methodLink RX1 9 Lib.Math.max.name, Cond.static Lib.Math.max.name, Cond.code Lib.Math.max.name Lib.Math.max.code 2 (some .int), Cond.fieldLink RX1 21 "SquareTower$BitRows" "words" "I", Cond.fieldLink RX1 25 "SquareTower$BitRows" "count" "I", Cond.methodLink RX7 102 yX7_buildDegree, Cond.instanceMethod yX7_buildDegree, Cond.selects RX7 yX7_buildDegree yX7_buildDegree, Cond.code yX7_buildDegree cX7_buildDegree 9 none, Cond.fieldLink RX7 19 "SquareTower$Tower" "kernels" "[LSquareTower$BitRows;", Cond.fieldLink RX7 54 "SquareTower$Tower" "space" "LSquareTower$Space;"]
def wsX8_joins_r4 : List Cond := [Cond.fieldLink RX7 26 "SquareTower$Tower" "values" "LSquareTower$BitRows;", Cond.fieldLink RX7 30 "SquareTower$Tower" "sources" "LSquareTower$BitRows;", Cond.fieldLink RX7 33 "SquareTower$Tower" "pivots" "[I", Cond.methodLink RX7 87 Lib.Math.min.name, Cond.methodLink RX7 105 yX5_ofDegree, Cond.instanceMethod yX5_ofDegree, Cond.selects RX5 yX5_ofDegree yX5_ofDegree, Cond.code yX5_ofDegree cX5_ofDegree 4 (some .int), Cond.methodLink RX5 54 yX5_degreeOf, Cond.instanceMethod yX5_degreeOf, Cond.selects RX5 yX5_degreeOf yX5_degreeOf, Cond.code yX5_degreeOf cX5_degreeOf 2 (some .int), Cond.fieldLink RX5 9 "SquareTower$Space" "degrees" "[I", Cond.methodLink RX5 25 yX5_has, Cond.instanceMethod yX5_has, Cond.selects RX5 yX5_has yX5_has, Cond.code yX5_has cX5_has 2 (some .boolean), Cond.methodLink RX7 110 yX7_listElements, Cond.static yX7_listElements, Cond.code yX7_listElements cX7_listElements 3 none, Cond.methodLink RX7 114 yX1_restart, Cond.methodLink RX7 130 yX1_open, Cond.instanceMethod yX1_open, Cond.selects RX1 yX1_open yX1_open]
def wsX8_joins_r5 : List Cond := [Cond.code yX1_open cX1_open 2 (some .int), Cond.fieldLink RX1 15 "SquareTower$BitRows" "cells" "[J", Cond.methodLink RX7 133 yX1_flip, Cond.instanceMethod yX1_flip, Cond.selects RX1 yX1_flip yX1_flip, Cond.code yX1_flip cX1_flip 5 none, Cond.methodLink RX1 37 yX1_flipWord, Cond.instanceMethod yX1_flipWord, Cond.selects RX1 yX1_flipWord yX1_flipWord, Cond.code yX1_flipWord cX1_flipWord 5 none, Cond.methodLink RX7 69 yX3_places, Cond.instanceMethod yX3_places, Cond.selects RX3 yX3_places yX3_places, Cond.code yX3_places cX3_places 4 (some .int), Cond.methodLink RX3 48 yX3_width, Cond.instanceMethod yX3_width, Cond.selects RX3 yX3_width yX3_width, Cond.code yX3_width cX3_width 3 (some .int), Cond.fieldLink RX3 24 "SquareTower$Floor" "allowed" "LSquareTower$Basis;", Cond.methodLink RX3 39 yX3_degreeOf, Cond.instanceMethod yX3_degreeOf, Cond.selects RX3 yX3_degreeOf yX3_degreeOf, Cond.code yX3_degreeOf cX3_degreeOf 2 (some .int), Cond.fieldLink RX3 9 "SquareTower$Floor" "degrees" "[I"]
def wsX8_joins_r6 : List Cond := [Cond.methodLink RX3 43 yX0_size, Cond.instanceMethod yX0_size, Cond.selects RX0 yX0_size yX0_size, Cond.initialized RX0, Cond.code yX0_size cX0_size 2 (some .int), Cond.fieldLink RX0 15 "SquareTower$Basis" "starts" "[I", Cond.methodLink RX7 116 yJ7_fill_fda19, Cond.static yJ7_fill_fda19, Cond.code yJ7_fill_fda19 cJ7_fill_fda19 5 none, Cond.methodLink RJ7 13 yJ7_rangeCheck_23922, Cond.static yJ7_rangeCheck_23922, Cond.code yJ7_rangeCheck_23922 cJ7_rangeCheck_23922 3 none, Cond.methodLink RX7 122 yX7_carryOver, Cond.instanceMethod yX7_carryOver, Cond.selects RX7 yX7_carryOver yX7_carryOver, Cond.code yX7_carryOver cX7_carryOver 13 none, Cond.fieldLink RX7 46 "SquareTower$Tower" "allowed" "LSquareTower$Basis;", Cond.methodLink RX7 72 yX3_generators, Cond.instanceMethod yX3_generators, Cond.selects RX3 yX3_generators yX3_generators, Cond.code yX3_generators cX3_generators 1 (some .int), Cond.methodLink RX7 76 yX3_degreeOf, Cond.methodLink RX7 137 yX7_listPlaces, Cond.instanceMethod yX7_listPlaces]
def wsX8_joins_r7 : List Cond := [Cond.selects RX7 yX7_listPlaces yX7_listPlaces, Cond.code yX7_listPlaces cX7_listPlaces 10 none, Cond.fieldLink RX7 37 "SquareTower$Tower" "chainAt" "[I", Cond.fieldLink RX7 40 "SquareTower$Tower" "targetAt" "[I", Cond.methodLink RX7 141 yX0_start, Cond.instanceMethod yX0_start, Cond.selects RX0 yX0_start yX0_start, Cond.code yX0_start cX0_start 2 (some .int), Cond.methodLink RX0 22 Lib.Math.min.name, Cond.methodLink RX0 27 Lib.Math.max.name, Cond.methodLink RX7 93 yX3_width, Cond.methodLink RX7 146 yX0_size, Cond.methodLink RX7 79 yX3_goals, Cond.instanceMethod yX3_goals, Cond.selects RX3 yX3_goals yX3_goals, Cond.code yX3_goals cX3_goals 1 (some (.object "SquareTower$BitRows")), Cond.methodLink RX7 149 yX7_putProduct, Cond.instanceMethod yX7_putProduct, Cond.selects RX7 yX7_putProduct yX7_putProduct, Cond.code yX7_putProduct cX7_putProduct 7 none, Cond.fieldLink RX7 50 "SquareTower$Tower" "squares" "LSquareTower$Squares;", Cond.methodLink RX7 163 yX1_next, Cond.instanceMethod yX1_next, Cond.selects RX1 yX1_next yX1_next]
def wsX8_joins_r8 : List Cond := [Cond.code yX1_next cX1_next 8 (some .int), Cond.constantLong RX1 41 (-1), Cond.methodLink RX1 43 yJ13_bitCount_95d88, Cond.static yJ13_bitCount_95d88, Cond.initialized RJ13, Cond.code yJ13_bitCount_95d88 cJ13_bitCount_95d88 2 (some .int), Cond.constantLong RJ13 314 (6148914691236517205), Cond.constantLong RJ13 316 (3689348814741910323), Cond.constantLong RJ13 318 (1085102592571150095), Cond.methodLink RX7 166 yX6_product, Cond.instanceMethod yX6_product, Cond.selects RX6 yX6_product yX6_product, Cond.initialized RX6, Cond.code yX6_product cX6_product 3 (some .int), Cond.fieldLink RX6 9 "SquareTower$Squares" "products" "[I", Cond.methodLink RX7 153 yX1_firstBits, Cond.instanceMethod yX1_firstBits, Cond.selects RX1 yX1_firstBits yX1_firstBits, Cond.code yX1_firstBits cX1_firstBits 2 (some .int), Cond.constantLong RX1 35 (2147483647), Cond.methodLink RX1 31 yX1_word, Cond.instanceMethod yX1_word, Cond.selects RX1 yX1_word yX1_word, Cond.code yX1_word cX1_word 3 (some .long)]
def wsX8_joins_r9 : List Cond := [Cond.methodLink RX7 156 yX7_applyChain, Cond.instanceMethod yX7_applyChain, Cond.selects RX7 yX7_applyChain yX7_applyChain, Cond.code yX7_applyChain cX7_applyChain 5 (some .int), Cond.methodLink RX7 171 yX0_numberAt, Cond.instanceMethod yX0_numberAt, Cond.selects RX0 yX0_numberAt yX0_numberAt, Cond.code yX0_numberAt cX0_numberAt 3 (some .int), Cond.fieldLink RX0 9 "SquareTower$Basis" "numbers" "[I", Cond.methodLink RX7 174 yX5_apply, Cond.methodLink RX7 159 yX7_keepOrDrop, Cond.instanceMethod yX7_keepOrDrop, Cond.selects RX7 yX7_keepOrDrop yX7_keepOrDrop, Cond.code yX7_keepOrDrop cX7_keepOrDrop 4 none, Cond.methodLink RX7 177 yX7_reduce, Cond.instanceMethod yX7_reduce, Cond.selects RX7 yX7_reduce yX7_reduce, Cond.code yX7_reduce cX7_reduce 5 (some .int), Cond.methodLink RX7 194 yX1_add, Cond.instanceMethod yX1_add, Cond.selects RX1 yX1_add yX1_add, Cond.code yX1_add cX1_add 4 none, Cond.methodLink RX7 180 yX1_copy, Cond.instanceMethod yX1_copy]
def wsX8_joins_r10 : List Cond := [Cond.selects RX1 yX1_copy yX1_copy, Cond.code yX1_copy cX1_copy 5 (some .int), Cond.methodLink RX1 49 yX1_open, Cond.methodLink RX7 184 yX1_dropLast, Cond.instanceMethod yX1_dropLast, Cond.selects RX1 yX1_dropLast yX1_dropLast, Cond.code yX1_dropLast cX1_dropLast 1 none, Cond.methodLink RX7 126 yX7_cover, Cond.instanceMethod yX7_cover, Cond.selects RX7 yX7_cover yX7_cover, Cond.code yX7_cover cX7_cover 7 none, Cond.methodLink RX7 187 yX1_height, Cond.instanceMethod yX1_height, Cond.selects RX1 yX1_height yX1_height, Cond.code yX1_height cX1_height 1 (some .int), Cond.methodLink RX7 190 yX3_add, Cond.instanceMethod yX3_add, Cond.selects RX3 yX3_add yX3_add, Cond.code yX3_add cX3_add 4 none, Cond.methodLink RX3 35 yX1_copy, Cond.methodLink RX8 167 yX7_rankOfJoins, Cond.instanceMethod yX7_rankOfJoins, Cond.selects RX7 yX7_rankOfJoins yX7_rankOfJoins, Cond.code yX7_rankOfJoins cX7_rankOfJoins 10 (some .int)]
def wsX8_joins_r11 : List Cond := [Cond.fieldLink RX7 43 "SquareTower$Tower" "kept" "[I", Cond.methodLink RX7 83 yX7_joinsOf, Cond.static yX7_joinsOf, Cond.code yX7_joinsOf cX7_joinsOf 9 (some .int), Cond.methodLink RX7 96 yX1_bit, Cond.instanceMethod yX1_bit, Cond.selects RX1 yX1_bit yX1_bit, Cond.code yX1_bit cX1_bit 3 (some .int)]
def wsX8_joins : List Cond := .code yX8_joins cX8_joins 4 (some .int) :: ((wsX8_joins_r1 ++ (wsX8_joins_r2 ++ (wsX8_joins_r3 ++ (wsX8_joins_r4 ++ (wsX8_joins_r5 ++ (wsX8_joins_r6 ++ (wsX8_joins_r7 ++ (wsX8_joins_r8 ++ (wsX8_joins_r9 ++ (wsX8_joins_r10 ++ wsX8_joins_r11)))))))))) ++ wsX80 ++ wsX50 ++ wsX70 ++ wsX30 ++ wsX10 ++ wsX00 ++ wsX60)
def wsX8_balance_r1 : List Cond := [Cond.constant RX8 170 (-1000000), Cond.fieldLink RX8 40 "SquareTower" "space" "LSquareTower$Space;", Cond.constant RX8 171 (-2000000), Cond.fieldLink RX8 49 "SquareTower" "tower" "LSquareTower$Tower;", Cond.methodLink RX8 156 yX5_isSound, Cond.instanceMethod yX5_isSound, Cond.selects RX5 yX5_isSound yX5_isSound, Cond.initialized RX5, Cond.code yX5_isSound cX5_isSound 1 (some .boolean), Cond.methodLink RX5 61 yX5_firstFault, Cond.instanceMethod yX5_firstFault, Cond.selects RX5 yX5_firstFault yX5_firstFault, Cond.code yX5_firstFault cX5_firstFault 2 (some .int), Cond.fieldLink RX5 29 "SquareTower$Space" "checked" "Z", Cond.fieldLink RX5 18 "SquareTower$Space" "faults" "[I", Cond.methodLink RX5 64 yX5_findFault, Cond.instanceMethod yX5_findFault, Cond.selects RX5 yX5_findFault yX5_findFault, Cond.code yX5_findFault cX5_findFault 4 none, Cond.fieldLink RX5 21 "SquareTower$Space" "size" "I", Cond.methodLink RX5 33 yJ7_fill_53178, Cond.static yJ7_fill_53178, Cond.initialized RJ7, Cond.code yJ7_fill_53178 cJ7_fill_53178 4 none]
def wsX8_balance_r2 : List Cond := [Cond.methodLink RX5 57 yX5_acted, Cond.instanceMethod yX5_acted, Cond.selects RX5 yX5_acted yX5_acted, Cond.code yX5_acted cX5_acted 4 (some .int), Cond.fieldLink RX5 15 "SquareTower$Space" "acts" "[I", Cond.methodLink RX5 67 yX5_apply, Cond.instanceMethod yX5_apply, Cond.selects RX5 yX5_apply yX5_apply, Cond.code yX5_apply cX5_apply 5 (some .int), Cond.methodLink RX5 70 yX5_byTheRule, Cond.instanceMethod yX5_byTheRule, Cond.selects RX5 yX5_byTheRule yX5_byTheRule, Cond.code yX5_byTheRule cX5_byTheRule 6 (some .int), Cond.static yX8_isOdd, Cond.initialized RX8, Cond.code yX8_isOdd cX8_isOdd 2 (some .boolean), Cond.methodLink RX8 160 yX7_build, Cond.instanceMethod yX7_build, Cond.selects RX7 yX7_build yX7_build, Cond.initialized RX7, Cond.code yX7_build cX7_build 3 none, Cond.fieldLink RX7 61 "SquareTower$Tower" "built" "I", Cond.fieldLink RX7 11 "SquareTower$Tower" "floors" "[LSquareTower$Floor;", Cond.methodLink RX7 99 yX3_restart]
def wsX8_balance_r3 : List Cond := [Cond.instanceMethod yX3_restart, Cond.selects RX3 yX3_restart yX3_restart, Cond.initialized RX3, Cond.code yX3_restart cX3_restart 1 none, Cond.fieldLink RX3 28 "SquareTower$Floor" "generators" "I", Cond.fieldLink RX3 20 "SquareTower$Floor" "goals" "LSquareTower$BitRows;", Cond.methodLink RX3 32 yX1_restart, Cond.instanceMethod yX1_restart, Cond.selects RX1 yX1_restart yX1_restart, Cond.initialized RX1, Cond.code yX1_restart cX1_restart 2 none, Cond.methodLink RX1 28 Lib.Math.min.name, Cond.static Lib.Math.min.name, Cond.initialized "java/lang/Math", Cond.code Lib.Math.min.name Lib.Math.min.code 2 (some .int), Cond.methodLink RX1 9 Lib.Math.max.name, Cond.static Lib.Math.max.name, Cond.code Lib.Math.max.name Lib.Math.max.code 2 (some .int), Cond.fieldLink RX1 21 "SquareTower$BitRows" "words" "I", Cond.fieldLink RX1 25 "SquareTower$BitRows" "count" "I", Cond.methodLink RX7 102 yX7_buildDegree, Cond.instanceMethod yX7_buildDegree, Cond.selects RX7 yX7_buildDegree yX7_buildDegree, Cond.code yX7_buildDegree cX7_buildDegree 9 none]
def wsX8_balance_r4 : List Cond := [Cond.fieldLink RX7 19 "SquareTower$Tower" "kernels" "[LSquareTower$BitRows;", Cond.fieldLink RX7 54 "SquareTower$Tower" "space" "LSquareTower$Space;", Cond.fieldLink RX7 26 "SquareTower$Tower" "values" "LSquareTower$BitRows;", Cond.fieldLink RX7 30 "SquareTower$Tower" "sources" "LSquareTower$BitRows;", Cond.fieldLink RX7 33 "SquareTower$Tower" "pivots" "[I", Cond.methodLink RX7 87 Lib.Math.min.name, Cond.methodLink RX7 105 yX5_ofDegree, Cond.instanceMethod yX5_ofDegree, Cond.selects RX5 yX5_ofDegree yX5_ofDegree, Cond.code yX5_ofDegree cX5_ofDegree 4 (some .int), Cond.methodLink RX5 54 yX5_degreeOf, Cond.instanceMethod yX5_degreeOf, Cond.selects RX5 yX5_degreeOf yX5_degreeOf, Cond.code yX5_degreeOf cX5_degreeOf 2 (some .int), Cond.fieldLink RX5 9 "SquareTower$Space" "degrees" "[I", Cond.methodLink RX5 25 yX5_has, Cond.instanceMethod yX5_has, Cond.selects RX5 yX5_has yX5_has, Cond.code yX5_has cX5_has 2 (some .boolean), Cond.methodLink RX7 110 yX7_listElements, Cond.static yX7_listElements, Cond.code yX7_listElements cX7_listElements 3 none, Cond.methodLink RX7 114 yX1_restart, Cond.methodLink RX7 130 yX1_open]
def wsX8_balance_r5 : List Cond := [Cond.instanceMethod yX1_open, Cond.selects RX1 yX1_open yX1_open, Cond.code yX1_open cX1_open 2 (some .int), Cond.fieldLink RX1 15 "SquareTower$BitRows" "cells" "[J", Cond.methodLink RX7 133 yX1_flip, Cond.instanceMethod yX1_flip, Cond.selects RX1 yX1_flip yX1_flip, Cond.code yX1_flip cX1_flip 5 none, Cond.methodLink RX1 37 yX1_flipWord, Cond.instanceMethod yX1_flipWord, Cond.selects RX1 yX1_flipWord yX1_flipWord, Cond.code yX1_flipWord cX1_flipWord 5 none, Cond.methodLink RX7 69 yX3_places, Cond.instanceMethod yX3_places, Cond.selects RX3 yX3_places yX3_places, Cond.code yX3_places cX3_places 4 (some .int), Cond.methodLink RX3 48 yX3_width, Cond.instanceMethod yX3_width, Cond.selects RX3 yX3_width yX3_width, Cond.code yX3_width cX3_width 3 (some .int), Cond.fieldLink RX3 24 "SquareTower$Floor" "allowed" "LSquareTower$Basis;", Cond.methodLink RX3 39 yX3_degreeOf, Cond.instanceMethod yX3_degreeOf, Cond.selects RX3 yX3_degreeOf yX3_degreeOf]
def wsX8_balance_r6 : List Cond := [Cond.code yX3_degreeOf cX3_degreeOf 2 (some .int), Cond.fieldLink RX3 9 "SquareTower$Floor" "degrees" "[I", Cond.methodLink RX3 43 yX0_size, Cond.instanceMethod yX0_size, Cond.selects RX0 yX0_size yX0_size, Cond.initialized RX0, Cond.code yX0_size cX0_size 2 (some .int), Cond.fieldLink RX0 15 "SquareTower$Basis" "starts" "[I", Cond.methodLink RX7 116 yJ7_fill_fda19, Cond.static yJ7_fill_fda19, Cond.code yJ7_fill_fda19 cJ7_fill_fda19 5 none, Cond.methodLink RJ7 13 yJ7_rangeCheck_23922, Cond.static yJ7_rangeCheck_23922, Cond.code yJ7_rangeCheck_23922 cJ7_rangeCheck_23922 3 none, Cond.methodLink RX7 122 yX7_carryOver, Cond.instanceMethod yX7_carryOver, Cond.selects RX7 yX7_carryOver yX7_carryOver, Cond.code yX7_carryOver cX7_carryOver 13 none, Cond.fieldLink RX7 46 "SquareTower$Tower" "allowed" "LSquareTower$Basis;", Cond.methodLink RX7 72 yX3_generators, Cond.instanceMethod yX3_generators, Cond.selects RX3 yX3_generators yX3_generators, Cond.code yX3_generators cX3_generators 1 (some .int), Cond.methodLink RX7 76 yX3_degreeOf]
def wsX8_balance_r7 : List Cond := [Cond.methodLink RX7 137 yX7_listPlaces, Cond.instanceMethod yX7_listPlaces, Cond.selects RX7 yX7_listPlaces yX7_listPlaces, Cond.code yX7_listPlaces cX7_listPlaces 10 none, Cond.fieldLink RX7 37 "SquareTower$Tower" "chainAt" "[I", Cond.fieldLink RX7 40 "SquareTower$Tower" "targetAt" "[I", Cond.methodLink RX7 141 yX0_start, Cond.instanceMethod yX0_start, Cond.selects RX0 yX0_start yX0_start, Cond.code yX0_start cX0_start 2 (some .int), Cond.methodLink RX0 22 Lib.Math.min.name, Cond.methodLink RX0 27 Lib.Math.max.name, Cond.methodLink RX7 93 yX3_width, Cond.methodLink RX7 146 yX0_size, Cond.methodLink RX7 79 yX3_goals, Cond.instanceMethod yX3_goals, Cond.selects RX3 yX3_goals yX3_goals, Cond.code yX3_goals cX3_goals 1 (some (.object "SquareTower$BitRows")), Cond.methodLink RX7 149 yX7_putProduct, Cond.instanceMethod yX7_putProduct, Cond.selects RX7 yX7_putProduct yX7_putProduct, Cond.code yX7_putProduct cX7_putProduct 7 none, Cond.fieldLink RX7 50 "SquareTower$Tower" "squares" "LSquareTower$Squares;", Cond.methodLink RX7 163 yX1_next]
def wsX8_balance_r8 : List Cond := [Cond.instanceMethod yX1_next, Cond.selects RX1 yX1_next yX1_next, Cond.code yX1_next cX1_next 8 (some .int), Cond.constantLong RX1 41 (-1), Cond.methodLink RX1 43 yJ13_bitCount_95d88, Cond.static yJ13_bitCount_95d88, Cond.initialized RJ13, Cond.code yJ13_bitCount_95d88 cJ13_bitCount_95d88 2 (some .int), Cond.constantLong RJ13 314 (6148914691236517205), Cond.constantLong RJ13 316 (3689348814741910323), Cond.constantLong RJ13 318 (1085102592571150095), Cond.methodLink RX7 166 yX6_product, Cond.instanceMethod yX6_product, Cond.selects RX6 yX6_product yX6_product, Cond.initialized RX6, Cond.code yX6_product cX6_product 3 (some .int), Cond.fieldLink RX6 9 "SquareTower$Squares" "products" "[I", Cond.methodLink RX7 153 yX1_firstBits, Cond.instanceMethod yX1_firstBits, Cond.selects RX1 yX1_firstBits yX1_firstBits, Cond.code yX1_firstBits cX1_firstBits 2 (some .int), Cond.constantLong RX1 35 (2147483647), Cond.methodLink RX1 31 yX1_word, Cond.instanceMethod yX1_word]
def wsX8_balance_r9 : List Cond := [Cond.selects RX1 yX1_word yX1_word, Cond.code yX1_word cX1_word 3 (some .long), Cond.methodLink RX7 156 yX7_applyChain, Cond.instanceMethod yX7_applyChain, Cond.selects RX7 yX7_applyChain yX7_applyChain, Cond.code yX7_applyChain cX7_applyChain 5 (some .int), Cond.methodLink RX7 171 yX0_numberAt, Cond.instanceMethod yX0_numberAt, Cond.selects RX0 yX0_numberAt yX0_numberAt, Cond.code yX0_numberAt cX0_numberAt 3 (some .int), Cond.fieldLink RX0 9 "SquareTower$Basis" "numbers" "[I", Cond.methodLink RX7 174 yX5_apply, Cond.methodLink RX7 159 yX7_keepOrDrop, Cond.instanceMethod yX7_keepOrDrop, Cond.selects RX7 yX7_keepOrDrop yX7_keepOrDrop, Cond.code yX7_keepOrDrop cX7_keepOrDrop 4 none, Cond.methodLink RX7 177 yX7_reduce, Cond.instanceMethod yX7_reduce, Cond.selects RX7 yX7_reduce yX7_reduce, Cond.code yX7_reduce cX7_reduce 5 (some .int), Cond.methodLink RX7 194 yX1_add, Cond.instanceMethod yX1_add, Cond.selects RX1 yX1_add yX1_add, Cond.code yX1_add cX1_add 4 none]
def wsX8_balance_r10 : List Cond := [Cond.methodLink RX7 180 yX1_copy, Cond.instanceMethod yX1_copy, Cond.selects RX1 yX1_copy yX1_copy, Cond.code yX1_copy cX1_copy 5 (some .int), Cond.methodLink RX1 49 yX1_open, Cond.methodLink RX7 184 yX1_dropLast, Cond.instanceMethod yX1_dropLast, Cond.selects RX1 yX1_dropLast yX1_dropLast, Cond.code yX1_dropLast cX1_dropLast 1 none, Cond.methodLink RX7 126 yX7_cover, Cond.instanceMethod yX7_cover, Cond.selects RX7 yX7_cover yX7_cover, Cond.code yX7_cover cX7_cover 7 none, Cond.methodLink RX7 187 yX1_height, Cond.instanceMethod yX1_height, Cond.selects RX1 yX1_height yX1_height, Cond.code yX1_height cX1_height 1 (some .int), Cond.methodLink RX7 190 yX3_add, Cond.instanceMethod yX3_add, Cond.selects RX3 yX3_add yX3_add, Cond.code yX3_add cX3_add 4 none, Cond.methodLink RX3 35 yX1_copy, Cond.methodLink RX8 172 yX7_turnByTurn, Cond.instanceMethod yX7_turnByTurn]
def wsX8_balance_r11 : List Cond := [Cond.selects RX7 yX7_turnByTurn yX7_turnByTurn, Cond.code yX7_turnByTurn cX7_turnByTurn 4 (some .int), Cond.methodLink RX8 125 yX5_ofDegree, Cond.methodLink RX8 78 yJ6_bitCount_0f7a4, Cond.static yJ6_bitCount_0f7a4, Cond.initialized RJ6, Cond.code yJ6_bitCount_0f7a4 cJ6_bitCount_0f7a4 1 (some .int), Cond.constant RJ6 265 (1431655765), Cond.constant RJ6 266 (858993459), Cond.constant RJ6 267 (252645135)]
def wsX8_balance : List Cond := .code yX8_balance cX8_balance 2 (some .int) :: ((wsX8_balance_r1 ++ (wsX8_balance_r2 ++ (wsX8_balance_r3 ++ (wsX8_balance_r4 ++ (wsX8_balance_r5 ++ (wsX8_balance_r6 ++ (wsX8_balance_r7 ++ (wsX8_balance_r8 ++ (wsX8_balance_r9 ++ (wsX8_balance_r10 ++ wsX8_balance_r11)))))))))) ++ wsX80 ++ wsX50 ++ wsX70 ++ wsX30 ++ wsX10 ++ wsX00 ++ wsX60)
def wsX8_leftOnPage_r1 : List Cond := [Cond.fieldLink RX8 49 "SquareTower" "tower" "LSquareTower$Tower;", Cond.fieldLink RX8 56 "SquareTower" "chart" "LSquareTower$Chart;", Cond.methodLink RX8 164 yX7_generatorsAt, Cond.instanceMethod yX7_generatorsAt, Cond.selects RX7 yX7_generatorsAt yX7_generatorsAt, Cond.initialized RX7, Cond.code yX7_generatorsAt cX7_generatorsAt 3 (some .int), Cond.fieldLink RX7 11 "SquareTower$Tower" "floors" "[LSquareTower$Floor;", Cond.methodLink RX7 65 yX3_generatorsOf, Cond.instanceMethod yX3_generatorsOf, Cond.selects RX3 yX3_generatorsOf yX3_generatorsOf, Cond.initialized RX3, Cond.code yX3_generatorsOf cX3_generatorsOf 4 (some .int), Cond.fieldLink RX3 28 "SquareTower$Floor" "generators" "I", Cond.methodLink RX3 39 yX3_degreeOf, Cond.instanceMethod yX3_degreeOf, Cond.selects RX3 yX3_degreeOf yX3_degreeOf, Cond.code yX3_degreeOf cX3_degreeOf 2 (some .int), Cond.fieldLink RX3 9 "SquareTower$Floor" "degrees" "[I", Cond.methodLink RX8 195 yX2_spent, Cond.instanceMethod yX2_spent, Cond.selects RX2 yX2_spent yX2_spent, Cond.initialized RX2, Cond.code yX2_spent cX2_spent 4 (some .int)]
def wsX8_leftOnPage_r2 : List Cond := [Cond.methodLink RX2 29 yX2_rankOf, Cond.instanceMethod yX2_rankOf, Cond.selects RX2 yX2_rankOf yX2_rankOf, Cond.code yX2_rankOf cX2_rankOf 5 (some .int), Cond.fieldLink RX2 9 "SquareTower$Chart" "ranks" "[I", Cond.methodLink RX2 25 yX2_index, Cond.static yX2_index, Cond.code yX2_index cX2_index 3 (some .int), Cond.static yX8_isInChart, Cond.initialized RX8, Cond.code yX8_isInChart cX8_isInChart 2 (some .boolean)]
def wsX8_leftOnPage : List Cond := .code yX8_leftOnPage cX8_leftOnPage 6 (some .int) :: ((wsX8_leftOnPage_r1 ++ wsX8_leftOnPage_r2) ++ wsX80 ++ wsX70 ++ wsX30 ++ wsX20)
def wsX8_mayBeTold_r1 : List Cond := [Cond.fieldLink RX8 56 "SquareTower" "chart" "LSquareTower$Chart;", Cond.methodLink RX8 189 yX2_rankOf, Cond.instanceMethod yX2_rankOf, Cond.selects RX2 yX2_rankOf yX2_rankOf, Cond.initialized RX2, Cond.code yX2_rankOf cX2_rankOf 5 (some .int), Cond.fieldLink RX2 9 "SquareTower$Chart" "ranks" "[I", Cond.methodLink RX2 25 yX2_index, Cond.static yX2_index, Cond.code yX2_index cX2_index 3 (some .int), Cond.static yX8_isInChart, Cond.initialized RX8, Cond.code yX8_isInChart cX8_isInChart 2 (some .boolean), Cond.methodLink RX8 192 yX2_isLongerTold, Cond.instanceMethod yX2_isLongerTold, Cond.selects RX2 yX2_isLongerTold yX2_isLongerTold, Cond.code yX2_isLongerTold cX2_isLongerTold 2 (some .boolean), Cond.methodLink RX2 36 Lib.Math.max.name, Cond.static Lib.Math.max.name, Cond.initialized "java/lang/Math", Cond.code Lib.Math.max.name Lib.Math.max.code 2 (some .int), Cond.methodLink RX2 32 yX2_toldFrom, Cond.instanceMethod yX2_toldFrom, Cond.selects RX2 yX2_toldFrom yX2_toldFrom]
def wsX8_mayBeTold_r2 : List Cond := [Cond.code yX2_toldFrom cX2_toldFrom 4 (some .int), Cond.methodLink RX8 195 yX2_spent, Cond.instanceMethod yX2_spent, Cond.selects RX2 yX2_spent yX2_spent, Cond.code yX2_spent cX2_spent 4 (some .int), Cond.methodLink RX2 29 yX2_rankOf, Cond.methodLink RX8 183 yX8_leftOnPage, Cond.instanceMethod yX8_leftOnPage, Cond.selects RX8 yX8_leftOnPage yX8_leftOnPage, Cond.code yX8_leftOnPage cX8_leftOnPage 6 (some .int), Cond.fieldLink RX8 49 "SquareTower" "tower" "LSquareTower$Tower;", Cond.methodLink RX8 164 yX7_generatorsAt, Cond.instanceMethod yX7_generatorsAt, Cond.selects RX7 yX7_generatorsAt yX7_generatorsAt, Cond.initialized RX7, Cond.code yX7_generatorsAt cX7_generatorsAt 3 (some .int), Cond.fieldLink RX7 11 "SquareTower$Tower" "floors" "[LSquareTower$Floor;", Cond.methodLink RX7 65 yX3_generatorsOf, Cond.instanceMethod yX3_generatorsOf, Cond.selects RX3 yX3_generatorsOf yX3_generatorsOf, Cond.initialized RX3, Cond.code yX3_generatorsOf cX3_generatorsOf 4 (some .int), Cond.fieldLink RX3 28 "SquareTower$Floor" "generators" "I", Cond.methodLink RX3 39 yX3_degreeOf]
def wsX8_mayBeTold_r3 : List Cond := [Cond.instanceMethod yX3_degreeOf, Cond.selects RX3 yX3_degreeOf yX3_degreeOf, Cond.code yX3_degreeOf cX3_degreeOf 2 (some .int), Cond.fieldLink RX3 9 "SquareTower$Floor" "degrees" "[I"]
def wsX8_mayBeTold : List Cond := .code yX8_mayBeTold cX8_mayBeTold 5 (some .boolean) :: ((wsX8_mayBeTold_r1 ++ (wsX8_mayBeTold_r2 ++ wsX8_mayBeTold_r3)) ++ wsX80 ++ wsX20 ++ wsX70 ++ wsX30)
def wsX8_differ_r1 : List Cond := [Cond.fieldLink RX8 40 "SquareTower" "space" "LSquareTower$Space;", Cond.fieldLink RX8 49 "SquareTower" "tower" "LSquareTower$Tower;", Cond.fieldLink RX8 56 "SquareTower" "chart" "LSquareTower$Chart;", Cond.methodLink RX8 152 yX8_isInChart, Cond.static yX8_isInChart, Cond.initialized RX8, Cond.code yX8_isInChart cX8_isInChart 2 (some .boolean), Cond.methodLink RX8 156 yX5_isSound, Cond.instanceMethod yX5_isSound, Cond.selects RX5 yX5_isSound yX5_isSound, Cond.initialized RX5, Cond.code yX5_isSound cX5_isSound 1 (some .boolean), Cond.methodLink RX5 61 yX5_firstFault, Cond.instanceMethod yX5_firstFault, Cond.selects RX5 yX5_firstFault yX5_firstFault, Cond.code yX5_firstFault cX5_firstFault 2 (some .int), Cond.fieldLink RX5 29 "SquareTower$Space" "checked" "Z", Cond.fieldLink RX5 18 "SquareTower$Space" "faults" "[I", Cond.methodLink RX5 64 yX5_findFault, Cond.instanceMethod yX5_findFault, Cond.selects RX5 yX5_findFault yX5_findFault, Cond.code yX5_findFault cX5_findFault 4 none, Cond.fieldLink RX5 21 "SquareTower$Space" "size" "I", Cond.methodLink RX5 33 yJ7_fill_53178]
def wsX8_differ_r2 : List Cond := [Cond.static yJ7_fill_53178, Cond.initialized RJ7, Cond.code yJ7_fill_53178 cJ7_fill_53178 4 none, Cond.methodLink RX5 57 yX5_acted, Cond.instanceMethod yX5_acted, Cond.selects RX5 yX5_acted yX5_acted, Cond.code yX5_acted cX5_acted 4 (some .int), Cond.fieldLink RX5 15 "SquareTower$Space" "acts" "[I", Cond.methodLink RX5 67 yX5_apply, Cond.instanceMethod yX5_apply, Cond.selects RX5 yX5_apply yX5_apply, Cond.code yX5_apply cX5_apply 5 (some .int), Cond.methodLink RX5 70 yX5_byTheRule, Cond.instanceMethod yX5_byTheRule, Cond.selects RX5 yX5_byTheRule yX5_byTheRule, Cond.code yX5_byTheRule cX5_byTheRule 6 (some .int), Cond.static yX8_isOdd, Cond.code yX8_isOdd cX8_isOdd 2 (some .boolean), Cond.methodLink RX8 160 yX7_build, Cond.instanceMethod yX7_build, Cond.selects RX7 yX7_build yX7_build, Cond.initialized RX7, Cond.code yX7_build cX7_build 3 none, Cond.fieldLink RX7 61 "SquareTower$Tower" "built" "I"]
def wsX8_differ_r3 : List Cond := [Cond.fieldLink RX7 11 "SquareTower$Tower" "floors" "[LSquareTower$Floor;", Cond.methodLink RX7 99 yX3_restart, Cond.instanceMethod yX3_restart, Cond.selects RX3 yX3_restart yX3_restart, Cond.initialized RX3, Cond.code yX3_restart cX3_restart 1 none, Cond.fieldLink RX3 28 "SquareTower$Floor" "generators" "I", Cond.fieldLink RX3 20 "SquareTower$Floor" "goals" "LSquareTower$BitRows;", Cond.methodLink RX3 32 yX1_restart, Cond.instanceMethod yX1_restart, Cond.selects RX1 yX1_restart yX1_restart, Cond.initialized RX1, Cond.code yX1_restart cX1_restart 2 none, Cond.methodLink RX1 28 Lib.Math.min.name, Cond.static Lib.Math.min.name, Cond.initialized "java/lang/Math", Cond.code Lib.Math.min.name Lib.Math.min.code 2 (some .int), Cond.methodLink RX1 9 Lib.Math.max.name, Cond.static Lib.Math.max.name, Cond.code Lib.Math.max.name Lib.Math.max.code 2 (some .int), Cond.fieldLink RX1 21 "SquareTower$BitRows" "words" "I", Cond.fieldLink RX1 25 "SquareTower$BitRows" "count" "I", Cond.methodLink RX7 102 yX7_buildDegree, Cond.instanceMethod yX7_buildDegree]
def wsX8_differ_r4 : List Cond := [Cond.selects RX7 yX7_buildDegree yX7_buildDegree, Cond.code yX7_buildDegree cX7_buildDegree 9 none, Cond.fieldLink RX7 19 "SquareTower$Tower" "kernels" "[LSquareTower$BitRows;", Cond.fieldLink RX7 54 "SquareTower$Tower" "space" "LSquareTower$Space;", Cond.fieldLink RX7 26 "SquareTower$Tower" "values" "LSquareTower$BitRows;", Cond.fieldLink RX7 30 "SquareTower$Tower" "sources" "LSquareTower$BitRows;", Cond.fieldLink RX7 33 "SquareTower$Tower" "pivots" "[I", Cond.methodLink RX7 87 Lib.Math.min.name, Cond.methodLink RX7 105 yX5_ofDegree, Cond.instanceMethod yX5_ofDegree, Cond.selects RX5 yX5_ofDegree yX5_ofDegree, Cond.code yX5_ofDegree cX5_ofDegree 4 (some .int), Cond.methodLink RX5 54 yX5_degreeOf, Cond.instanceMethod yX5_degreeOf, Cond.selects RX5 yX5_degreeOf yX5_degreeOf, Cond.code yX5_degreeOf cX5_degreeOf 2 (some .int), Cond.fieldLink RX5 9 "SquareTower$Space" "degrees" "[I", Cond.methodLink RX5 25 yX5_has, Cond.instanceMethod yX5_has, Cond.selects RX5 yX5_has yX5_has, Cond.code yX5_has cX5_has 2 (some .boolean), Cond.methodLink RX7 110 yX7_listElements, Cond.static yX7_listElements, Cond.code yX7_listElements cX7_listElements 3 none]
def wsX8_differ_r5 : List Cond := [Cond.methodLink RX7 114 yX1_restart, Cond.methodLink RX7 130 yX1_open, Cond.instanceMethod yX1_open, Cond.selects RX1 yX1_open yX1_open, Cond.code yX1_open cX1_open 2 (some .int), Cond.fieldLink RX1 15 "SquareTower$BitRows" "cells" "[J", Cond.methodLink RX7 133 yX1_flip, Cond.instanceMethod yX1_flip, Cond.selects RX1 yX1_flip yX1_flip, Cond.code yX1_flip cX1_flip 5 none, Cond.methodLink RX1 37 yX1_flipWord, Cond.instanceMethod yX1_flipWord, Cond.selects RX1 yX1_flipWord yX1_flipWord, Cond.code yX1_flipWord cX1_flipWord 5 none, Cond.methodLink RX7 69 yX3_places, Cond.instanceMethod yX3_places, Cond.selects RX3 yX3_places yX3_places, Cond.code yX3_places cX3_places 4 (some .int), Cond.methodLink RX3 48 yX3_width, Cond.instanceMethod yX3_width, Cond.selects RX3 yX3_width yX3_width, Cond.code yX3_width cX3_width 3 (some .int), Cond.fieldLink RX3 24 "SquareTower$Floor" "allowed" "LSquareTower$Basis;", Cond.methodLink RX3 39 yX3_degreeOf]
def wsX8_differ_r6 : List Cond := [Cond.instanceMethod yX3_degreeOf, Cond.selects RX3 yX3_degreeOf yX3_degreeOf, Cond.code yX3_degreeOf cX3_degreeOf 2 (some .int), Cond.fieldLink RX3 9 "SquareTower$Floor" "degrees" "[I", Cond.methodLink RX3 43 yX0_size, Cond.instanceMethod yX0_size, Cond.selects RX0 yX0_size yX0_size, Cond.initialized RX0, Cond.code yX0_size cX0_size 2 (some .int), Cond.fieldLink RX0 15 "SquareTower$Basis" "starts" "[I", Cond.methodLink RX7 116 yJ7_fill_fda19, Cond.static yJ7_fill_fda19, Cond.code yJ7_fill_fda19 cJ7_fill_fda19 5 none, Cond.methodLink RJ7 13 yJ7_rangeCheck_23922, Cond.static yJ7_rangeCheck_23922, Cond.code yJ7_rangeCheck_23922 cJ7_rangeCheck_23922 3 none, Cond.methodLink RX7 122 yX7_carryOver, Cond.instanceMethod yX7_carryOver, Cond.selects RX7 yX7_carryOver yX7_carryOver, Cond.code yX7_carryOver cX7_carryOver 13 none, Cond.fieldLink RX7 46 "SquareTower$Tower" "allowed" "LSquareTower$Basis;", Cond.methodLink RX7 72 yX3_generators, Cond.instanceMethod yX3_generators, Cond.selects RX3 yX3_generators yX3_generators]
def wsX8_differ_r7 : List Cond := [Cond.code yX3_generators cX3_generators 1 (some .int), Cond.methodLink RX7 76 yX3_degreeOf, Cond.methodLink RX7 137 yX7_listPlaces, Cond.instanceMethod yX7_listPlaces, Cond.selects RX7 yX7_listPlaces yX7_listPlaces, Cond.code yX7_listPlaces cX7_listPlaces 10 none, Cond.fieldLink RX7 37 "SquareTower$Tower" "chainAt" "[I", Cond.fieldLink RX7 40 "SquareTower$Tower" "targetAt" "[I", Cond.methodLink RX7 141 yX0_start, Cond.instanceMethod yX0_start, Cond.selects RX0 yX0_start yX0_start, Cond.code yX0_start cX0_start 2 (some .int), Cond.methodLink RX0 22 Lib.Math.min.name, Cond.methodLink RX0 27 Lib.Math.max.name, Cond.methodLink RX7 93 yX3_width, Cond.methodLink RX7 146 yX0_size, Cond.methodLink RX7 79 yX3_goals, Cond.instanceMethod yX3_goals, Cond.selects RX3 yX3_goals yX3_goals, Cond.code yX3_goals cX3_goals 1 (some (.object "SquareTower$BitRows")), Cond.methodLink RX7 149 yX7_putProduct, Cond.instanceMethod yX7_putProduct, Cond.selects RX7 yX7_putProduct yX7_putProduct, Cond.code yX7_putProduct cX7_putProduct 7 none]
def wsX8_differ_r8 : List Cond := [Cond.fieldLink RX7 50 "SquareTower$Tower" "squares" "LSquareTower$Squares;", Cond.methodLink RX7 163 yX1_next, Cond.instanceMethod yX1_next, Cond.selects RX1 yX1_next yX1_next, Cond.code yX1_next cX1_next 8 (some .int), Cond.constantLong RX1 41 (-1), Cond.methodLink RX1 43 yJ13_bitCount_95d88, Cond.static yJ13_bitCount_95d88, Cond.initialized RJ13, Cond.code yJ13_bitCount_95d88 cJ13_bitCount_95d88 2 (some .int), Cond.constantLong RJ13 314 (6148914691236517205), Cond.constantLong RJ13 316 (3689348814741910323), Cond.constantLong RJ13 318 (1085102592571150095), Cond.methodLink RX7 166 yX6_product, Cond.instanceMethod yX6_product, Cond.selects RX6 yX6_product yX6_product, Cond.initialized RX6, Cond.code yX6_product cX6_product 3 (some .int), Cond.fieldLink RX6 9 "SquareTower$Squares" "products" "[I", Cond.methodLink RX7 153 yX1_firstBits, Cond.instanceMethod yX1_firstBits, Cond.selects RX1 yX1_firstBits yX1_firstBits, Cond.code yX1_firstBits cX1_firstBits 2 (some .int), Cond.constantLong RX1 35 (2147483647)]
def wsX8_differ_r9 : List Cond := [Cond.methodLink RX1 31 yX1_word, Cond.instanceMethod yX1_word, Cond.selects RX1 yX1_word yX1_word, Cond.code yX1_word cX1_word 3 (some .long), Cond.methodLink RX7 156 yX7_applyChain, Cond.instanceMethod yX7_applyChain, Cond.selects RX7 yX7_applyChain yX7_applyChain, Cond.code yX7_applyChain cX7_applyChain 5 (some .int), Cond.methodLink RX7 171 yX0_numberAt, Cond.instanceMethod yX0_numberAt, Cond.selects RX0 yX0_numberAt yX0_numberAt, Cond.code yX0_numberAt cX0_numberAt 3 (some .int), Cond.fieldLink RX0 9 "SquareTower$Basis" "numbers" "[I", Cond.methodLink RX7 174 yX5_apply, Cond.methodLink RX7 159 yX7_keepOrDrop, Cond.instanceMethod yX7_keepOrDrop, Cond.selects RX7 yX7_keepOrDrop yX7_keepOrDrop, Cond.code yX7_keepOrDrop cX7_keepOrDrop 4 none, Cond.methodLink RX7 177 yX7_reduce, Cond.instanceMethod yX7_reduce, Cond.selects RX7 yX7_reduce yX7_reduce, Cond.code yX7_reduce cX7_reduce 5 (some .int), Cond.methodLink RX7 194 yX1_add, Cond.instanceMethod yX1_add]
def wsX8_differ_r10 : List Cond := [Cond.selects RX1 yX1_add yX1_add, Cond.code yX1_add cX1_add 4 none, Cond.methodLink RX7 180 yX1_copy, Cond.instanceMethod yX1_copy, Cond.selects RX1 yX1_copy yX1_copy, Cond.code yX1_copy cX1_copy 5 (some .int), Cond.methodLink RX1 49 yX1_open, Cond.methodLink RX7 184 yX1_dropLast, Cond.instanceMethod yX1_dropLast, Cond.selects RX1 yX1_dropLast yX1_dropLast, Cond.code yX1_dropLast cX1_dropLast 1 none, Cond.methodLink RX7 126 yX7_cover, Cond.instanceMethod yX7_cover, Cond.selects RX7 yX7_cover yX7_cover, Cond.code yX7_cover cX7_cover 7 none, Cond.methodLink RX7 187 yX1_height, Cond.instanceMethod yX1_height, Cond.selects RX1 yX1_height yX1_height, Cond.code yX1_height cX1_height 1 (some .int), Cond.methodLink RX7 190 yX3_add, Cond.instanceMethod yX3_add, Cond.selects RX3 yX3_add yX3_add, Cond.code yX3_add cX3_add 4 none, Cond.methodLink RX3 35 yX1_copy]
def wsX8_differ_r11 : List Cond := [Cond.methodLink RX8 175 yX8_mayBeTold, Cond.instanceMethod yX8_mayBeTold, Cond.selects RX8 yX8_mayBeTold yX8_mayBeTold, Cond.code yX8_mayBeTold cX8_mayBeTold 5 (some .boolean), Cond.methodLink RX8 189 yX2_rankOf, Cond.instanceMethod yX2_rankOf, Cond.selects RX2 yX2_rankOf yX2_rankOf, Cond.initialized RX2, Cond.code yX2_rankOf cX2_rankOf 5 (some .int), Cond.fieldLink RX2 9 "SquareTower$Chart" "ranks" "[I", Cond.methodLink RX2 25 yX2_index, Cond.static yX2_index, Cond.code yX2_index cX2_index 3 (some .int), Cond.methodLink RX8 192 yX2_isLongerTold, Cond.instanceMethod yX2_isLongerTold, Cond.selects RX2 yX2_isLongerTold yX2_isLongerTold, Cond.code yX2_isLongerTold cX2_isLongerTold 2 (some .boolean), Cond.methodLink RX2 36 Lib.Math.max.name, Cond.methodLink RX2 32 yX2_toldFrom, Cond.instanceMethod yX2_toldFrom, Cond.selects RX2 yX2_toldFrom yX2_toldFrom, Cond.code yX2_toldFrom cX2_toldFrom 4 (some .int), Cond.methodLink RX8 195 yX2_spent, Cond.instanceMethod yX2_spent]
def wsX8_differ_r12 : List Cond := [Cond.selects RX2 yX2_spent yX2_spent, Cond.code yX2_spent cX2_spent 4 (some .int), Cond.methodLink RX2 29 yX2_rankOf, Cond.methodLink RX8 183 yX8_leftOnPage, Cond.instanceMethod yX8_leftOnPage, Cond.selects RX8 yX8_leftOnPage yX8_leftOnPage, Cond.code yX8_leftOnPage cX8_leftOnPage 6 (some .int), Cond.methodLink RX8 164 yX7_generatorsAt, Cond.instanceMethod yX7_generatorsAt, Cond.selects RX7 yX7_generatorsAt yX7_generatorsAt, Cond.code yX7_generatorsAt cX7_generatorsAt 3 (some .int), Cond.methodLink RX7 65 yX3_generatorsOf, Cond.instanceMethod yX3_generatorsOf, Cond.selects RX3 yX3_generatorsOf yX3_generatorsOf, Cond.code yX3_generatorsOf cX3_generatorsOf 4 (some .int), Cond.methodLink RX8 179 yX2_tell, Cond.instanceMethod yX2_tell, Cond.selects RX2 yX2_tell yX2_tell, Cond.code yX2_tell cX2_tell 6 none]
def wsX8_differ : List Cond := .code yX8_differ cX8_differ 5 (some .int) :: ((wsX8_differ_r1 ++ (wsX8_differ_r2 ++ (wsX8_differ_r3 ++ (wsX8_differ_r4 ++ (wsX8_differ_r5 ++ (wsX8_differ_r6 ++ (wsX8_differ_r7 ++ (wsX8_differ_r8 ++ (wsX8_differ_r9 ++ (wsX8_differ_r10 ++ (wsX8_differ_r11 ++ wsX8_differ_r12))))))))))) ++ wsX80 ++ wsX50 ++ wsX70 ++ wsX30 ++ wsX10 ++ wsX00 ++ wsX60 ++ wsX20)
def wsX8_page_r1 : List Cond := [Cond.fieldLink RX8 40 "SquareTower" "space" "LSquareTower$Space;", Cond.fieldLink RX8 49 "SquareTower" "tower" "LSquareTower$Tower;", Cond.methodLink RX8 152 yX8_isInChart, Cond.static yX8_isInChart, Cond.initialized RX8, Cond.code yX8_isInChart cX8_isInChart 2 (some .boolean), Cond.methodLink RX8 156 yX5_isSound, Cond.instanceMethod yX5_isSound, Cond.selects RX5 yX5_isSound yX5_isSound, Cond.initialized RX5, Cond.code yX5_isSound cX5_isSound 1 (some .boolean), Cond.methodLink RX5 61 yX5_firstFault, Cond.instanceMethod yX5_firstFault, Cond.selects RX5 yX5_firstFault yX5_firstFault, Cond.code yX5_firstFault cX5_firstFault 2 (some .int), Cond.fieldLink RX5 29 "SquareTower$Space" "checked" "Z", Cond.fieldLink RX5 18 "SquareTower$Space" "faults" "[I", Cond.methodLink RX5 64 yX5_findFault, Cond.instanceMethod yX5_findFault, Cond.selects RX5 yX5_findFault yX5_findFault, Cond.code yX5_findFault cX5_findFault 4 none, Cond.fieldLink RX5 21 "SquareTower$Space" "size" "I", Cond.methodLink RX5 33 yJ7_fill_53178, Cond.static yJ7_fill_53178]
def wsX8_page_r2 : List Cond := [Cond.initialized RJ7, Cond.code yJ7_fill_53178 cJ7_fill_53178 4 none, Cond.methodLink RX5 57 yX5_acted, Cond.instanceMethod yX5_acted, Cond.selects RX5 yX5_acted yX5_acted, Cond.code yX5_acted cX5_acted 4 (some .int), Cond.fieldLink RX5 15 "SquareTower$Space" "acts" "[I", Cond.methodLink RX5 67 yX5_apply, Cond.instanceMethod yX5_apply, Cond.selects RX5 yX5_apply yX5_apply, Cond.code yX5_apply cX5_apply 5 (some .int), Cond.methodLink RX5 70 yX5_byTheRule, Cond.instanceMethod yX5_byTheRule, Cond.selects RX5 yX5_byTheRule yX5_byTheRule, Cond.code yX5_byTheRule cX5_byTheRule 6 (some .int), Cond.static yX8_isOdd, Cond.code yX8_isOdd cX8_isOdd 2 (some .boolean), Cond.methodLink RX8 160 yX7_build, Cond.instanceMethod yX7_build, Cond.selects RX7 yX7_build yX7_build, Cond.initialized RX7, Cond.code yX7_build cX7_build 3 none, Cond.fieldLink RX7 61 "SquareTower$Tower" "built" "I", Cond.fieldLink RX7 11 "SquareTower$Tower" "floors" "[LSquareTower$Floor;"]
def wsX8_page_r3 : List Cond := [Cond.methodLink RX7 99 yX3_restart, Cond.instanceMethod yX3_restart, Cond.selects RX3 yX3_restart yX3_restart, Cond.initialized RX3, Cond.code yX3_restart cX3_restart 1 none, Cond.fieldLink RX3 28 "SquareTower$Floor" "generators" "I", Cond.fieldLink RX3 20 "SquareTower$Floor" "goals" "LSquareTower$BitRows;", Cond.methodLink RX3 32 yX1_restart, Cond.instanceMethod yX1_restart, Cond.selects RX1 yX1_restart yX1_restart, Cond.initialized RX1, Cond.code yX1_restart cX1_restart 2 none, Cond.methodLink RX1 28 Lib.Math.min.name, Cond.static Lib.Math.min.name, Cond.initialized "java/lang/Math", Cond.code Lib.Math.min.name Lib.Math.min.code 2 (some .int), Cond.methodLink RX1 9 Lib.Math.max.name, Cond.static Lib.Math.max.name, Cond.code Lib.Math.max.name Lib.Math.max.code 2 (some .int), Cond.fieldLink RX1 21 "SquareTower$BitRows" "words" "I", Cond.fieldLink RX1 25 "SquareTower$BitRows" "count" "I", Cond.methodLink RX7 102 yX7_buildDegree, Cond.instanceMethod yX7_buildDegree, Cond.selects RX7 yX7_buildDegree yX7_buildDegree]
def wsX8_page_r4 : List Cond := [Cond.code yX7_buildDegree cX7_buildDegree 9 none, Cond.fieldLink RX7 19 "SquareTower$Tower" "kernels" "[LSquareTower$BitRows;", Cond.fieldLink RX7 54 "SquareTower$Tower" "space" "LSquareTower$Space;", Cond.fieldLink RX7 26 "SquareTower$Tower" "values" "LSquareTower$BitRows;", Cond.fieldLink RX7 30 "SquareTower$Tower" "sources" "LSquareTower$BitRows;", Cond.fieldLink RX7 33 "SquareTower$Tower" "pivots" "[I", Cond.methodLink RX7 87 Lib.Math.min.name, Cond.methodLink RX7 105 yX5_ofDegree, Cond.instanceMethod yX5_ofDegree, Cond.selects RX5 yX5_ofDegree yX5_ofDegree, Cond.code yX5_ofDegree cX5_ofDegree 4 (some .int), Cond.methodLink RX5 54 yX5_degreeOf, Cond.instanceMethod yX5_degreeOf, Cond.selects RX5 yX5_degreeOf yX5_degreeOf, Cond.code yX5_degreeOf cX5_degreeOf 2 (some .int), Cond.fieldLink RX5 9 "SquareTower$Space" "degrees" "[I", Cond.methodLink RX5 25 yX5_has, Cond.instanceMethod yX5_has, Cond.selects RX5 yX5_has yX5_has, Cond.code yX5_has cX5_has 2 (some .boolean), Cond.methodLink RX7 110 yX7_listElements, Cond.static yX7_listElements, Cond.code yX7_listElements cX7_listElements 3 none, Cond.methodLink RX7 114 yX1_restart]
def wsX8_page_r5 : List Cond := [Cond.methodLink RX7 130 yX1_open, Cond.instanceMethod yX1_open, Cond.selects RX1 yX1_open yX1_open, Cond.code yX1_open cX1_open 2 (some .int), Cond.fieldLink RX1 15 "SquareTower$BitRows" "cells" "[J", Cond.methodLink RX7 133 yX1_flip, Cond.instanceMethod yX1_flip, Cond.selects RX1 yX1_flip yX1_flip, Cond.code yX1_flip cX1_flip 5 none, Cond.methodLink RX1 37 yX1_flipWord, Cond.instanceMethod yX1_flipWord, Cond.selects RX1 yX1_flipWord yX1_flipWord, Cond.code yX1_flipWord cX1_flipWord 5 none, Cond.methodLink RX7 69 yX3_places, Cond.instanceMethod yX3_places, Cond.selects RX3 yX3_places yX3_places, Cond.code yX3_places cX3_places 4 (some .int), Cond.methodLink RX3 48 yX3_width, Cond.instanceMethod yX3_width, Cond.selects RX3 yX3_width yX3_width, Cond.code yX3_width cX3_width 3 (some .int), Cond.fieldLink RX3 24 "SquareTower$Floor" "allowed" "LSquareTower$Basis;", Cond.methodLink RX3 39 yX3_degreeOf, Cond.instanceMethod yX3_degreeOf]
def wsX8_page_r6 : List Cond := [Cond.selects RX3 yX3_degreeOf yX3_degreeOf, Cond.code yX3_degreeOf cX3_degreeOf 2 (some .int), Cond.fieldLink RX3 9 "SquareTower$Floor" "degrees" "[I", Cond.methodLink RX3 43 yX0_size, Cond.instanceMethod yX0_size, Cond.selects RX0 yX0_size yX0_size, Cond.initialized RX0, Cond.code yX0_size cX0_size 2 (some .int), Cond.fieldLink RX0 15 "SquareTower$Basis" "starts" "[I", Cond.methodLink RX7 116 yJ7_fill_fda19, Cond.static yJ7_fill_fda19, Cond.code yJ7_fill_fda19 cJ7_fill_fda19 5 none, Cond.methodLink RJ7 13 yJ7_rangeCheck_23922, Cond.static yJ7_rangeCheck_23922, Cond.code yJ7_rangeCheck_23922 cJ7_rangeCheck_23922 3 none, Cond.methodLink RX7 122 yX7_carryOver, Cond.instanceMethod yX7_carryOver, Cond.selects RX7 yX7_carryOver yX7_carryOver, Cond.code yX7_carryOver cX7_carryOver 13 none, Cond.fieldLink RX7 46 "SquareTower$Tower" "allowed" "LSquareTower$Basis;", Cond.methodLink RX7 72 yX3_generators, Cond.instanceMethod yX3_generators, Cond.selects RX3 yX3_generators yX3_generators, Cond.code yX3_generators cX3_generators 1 (some .int)]
def wsX8_page_r7 : List Cond := [Cond.methodLink RX7 76 yX3_degreeOf, Cond.methodLink RX7 137 yX7_listPlaces, Cond.instanceMethod yX7_listPlaces, Cond.selects RX7 yX7_listPlaces yX7_listPlaces, Cond.code yX7_listPlaces cX7_listPlaces 10 none, Cond.fieldLink RX7 37 "SquareTower$Tower" "chainAt" "[I", Cond.fieldLink RX7 40 "SquareTower$Tower" "targetAt" "[I", Cond.methodLink RX7 141 yX0_start, Cond.instanceMethod yX0_start, Cond.selects RX0 yX0_start yX0_start, Cond.code yX0_start cX0_start 2 (some .int), Cond.methodLink RX0 22 Lib.Math.min.name, Cond.methodLink RX0 27 Lib.Math.max.name, Cond.methodLink RX7 93 yX3_width, Cond.methodLink RX7 146 yX0_size, Cond.methodLink RX7 79 yX3_goals, Cond.instanceMethod yX3_goals, Cond.selects RX3 yX3_goals yX3_goals, Cond.code yX3_goals cX3_goals 1 (some (.object "SquareTower$BitRows")), Cond.methodLink RX7 149 yX7_putProduct, Cond.instanceMethod yX7_putProduct, Cond.selects RX7 yX7_putProduct yX7_putProduct, Cond.code yX7_putProduct cX7_putProduct 7 none, Cond.fieldLink RX7 50 "SquareTower$Tower" "squares" "LSquareTower$Squares;"]
def wsX8_page_r8 : List Cond := [Cond.methodLink RX7 163 yX1_next, Cond.instanceMethod yX1_next, Cond.selects RX1 yX1_next yX1_next, Cond.code yX1_next cX1_next 8 (some .int), Cond.constantLong RX1 41 (-1), Cond.methodLink RX1 43 yJ13_bitCount_95d88, Cond.static yJ13_bitCount_95d88, Cond.initialized RJ13, Cond.code yJ13_bitCount_95d88 cJ13_bitCount_95d88 2 (some .int), Cond.constantLong RJ13 314 (6148914691236517205), Cond.constantLong RJ13 316 (3689348814741910323), Cond.constantLong RJ13 318 (1085102592571150095), Cond.methodLink RX7 166 yX6_product, Cond.instanceMethod yX6_product, Cond.selects RX6 yX6_product yX6_product, Cond.initialized RX6, Cond.code yX6_product cX6_product 3 (some .int), Cond.fieldLink RX6 9 "SquareTower$Squares" "products" "[I", Cond.methodLink RX7 153 yX1_firstBits, Cond.instanceMethod yX1_firstBits, Cond.selects RX1 yX1_firstBits yX1_firstBits, Cond.code yX1_firstBits cX1_firstBits 2 (some .int), Cond.constantLong RX1 35 (2147483647), Cond.methodLink RX1 31 yX1_word]
def wsX8_page_r9 : List Cond := [Cond.instanceMethod yX1_word, Cond.selects RX1 yX1_word yX1_word, Cond.code yX1_word cX1_word 3 (some .long), Cond.methodLink RX7 156 yX7_applyChain, Cond.instanceMethod yX7_applyChain, Cond.selects RX7 yX7_applyChain yX7_applyChain, Cond.code yX7_applyChain cX7_applyChain 5 (some .int), Cond.methodLink RX7 171 yX0_numberAt, Cond.instanceMethod yX0_numberAt, Cond.selects RX0 yX0_numberAt yX0_numberAt, Cond.code yX0_numberAt cX0_numberAt 3 (some .int), Cond.fieldLink RX0 9 "SquareTower$Basis" "numbers" "[I", Cond.methodLink RX7 174 yX5_apply, Cond.methodLink RX7 159 yX7_keepOrDrop, Cond.instanceMethod yX7_keepOrDrop, Cond.selects RX7 yX7_keepOrDrop yX7_keepOrDrop, Cond.code yX7_keepOrDrop cX7_keepOrDrop 4 none, Cond.methodLink RX7 177 yX7_reduce, Cond.instanceMethod yX7_reduce, Cond.selects RX7 yX7_reduce yX7_reduce, Cond.code yX7_reduce cX7_reduce 5 (some .int), Cond.methodLink RX7 194 yX1_add, Cond.instanceMethod yX1_add, Cond.selects RX1 yX1_add yX1_add]
def wsX8_page_r10 : List Cond := [Cond.code yX1_add cX1_add 4 none, Cond.methodLink RX7 180 yX1_copy, Cond.instanceMethod yX1_copy, Cond.selects RX1 yX1_copy yX1_copy, Cond.code yX1_copy cX1_copy 5 (some .int), Cond.methodLink RX1 49 yX1_open, Cond.methodLink RX7 184 yX1_dropLast, Cond.instanceMethod yX1_dropLast, Cond.selects RX1 yX1_dropLast yX1_dropLast, Cond.code yX1_dropLast cX1_dropLast 1 none, Cond.methodLink RX7 126 yX7_cover, Cond.instanceMethod yX7_cover, Cond.selects RX7 yX7_cover yX7_cover, Cond.code yX7_cover cX7_cover 7 none, Cond.methodLink RX7 187 yX1_height, Cond.instanceMethod yX1_height, Cond.selects RX1 yX1_height yX1_height, Cond.code yX1_height cX1_height 1 (some .int), Cond.methodLink RX7 190 yX3_add, Cond.instanceMethod yX3_add, Cond.selects RX3 yX3_add yX3_add, Cond.code yX3_add cX3_add 4 none, Cond.methodLink RX3 35 yX1_copy, Cond.methodLink RX8 183 yX8_leftOnPage]
def wsX8_page_r11 : List Cond := [Cond.instanceMethod yX8_leftOnPage, Cond.selects RX8 yX8_leftOnPage yX8_leftOnPage, Cond.code yX8_leftOnPage cX8_leftOnPage 6 (some .int), Cond.fieldLink RX8 56 "SquareTower" "chart" "LSquareTower$Chart;", Cond.methodLink RX8 164 yX7_generatorsAt, Cond.instanceMethod yX7_generatorsAt, Cond.selects RX7 yX7_generatorsAt yX7_generatorsAt, Cond.code yX7_generatorsAt cX7_generatorsAt 3 (some .int), Cond.methodLink RX7 65 yX3_generatorsOf, Cond.instanceMethod yX3_generatorsOf, Cond.selects RX3 yX3_generatorsOf yX3_generatorsOf, Cond.code yX3_generatorsOf cX3_generatorsOf 4 (some .int), Cond.methodLink RX8 195 yX2_spent, Cond.instanceMethod yX2_spent, Cond.selects RX2 yX2_spent yX2_spent, Cond.initialized RX2, Cond.code yX2_spent cX2_spent 4 (some .int), Cond.methodLink RX2 29 yX2_rankOf, Cond.instanceMethod yX2_rankOf, Cond.selects RX2 yX2_rankOf yX2_rankOf, Cond.code yX2_rankOf cX2_rankOf 5 (some .int), Cond.fieldLink RX2 9 "SquareTower$Chart" "ranks" "[I", Cond.methodLink RX2 25 yX2_index, Cond.static yX2_index]
def wsX8_page_r12 : List Cond := [Cond.code yX2_index cX2_index 3 (some .int)]
def wsX8_page : List Cond := .code yX8_page cX8_page 4 (some .int) :: ((wsX8_page_r1 ++ (wsX8_page_r2 ++ (wsX8_page_r3 ++ (wsX8_page_r4 ++ (wsX8_page_r5 ++ (wsX8_page_r6 ++ (wsX8_page_r7 ++ (wsX8_page_r8 ++ (wsX8_page_r9 ++ (wsX8_page_r10 ++ (wsX8_page_r11 ++ wsX8_page_r12))))))))))) ++ wsX80 ++ wsX50 ++ wsX70 ++ wsX30 ++ wsX10 ++ wsX00 ++ wsX60 ++ wsX20)
def wsX8_count : List Cond := .code yX8_count cX8_count 2 (some .int) :: ([.fieldLink RX8 64 "SquareTower" "length" "I", .fieldLink RX8 68 "SquareTower" "degree" "I", .fieldLink RX8 40 "SquareTower" "space" "LSquareTower$Space;", .fieldLink RX8 56 "SquareTower" "chart" "LSquareTower$Chart;", .methodLink RX8 107 yX5_size, .instanceMethod yX5_size, .selects RX5 yX5_size yX5_size, .initialized RX5, .code yX5_size cX5_size 1 (some .int), .fieldLink RX5 21 "SquareTower$Space" "size" "I", .methodLink RX8 186 yX2_told, .instanceMethod yX2_told, .selects RX2 yX2_told yX2_told, .initialized RX2, .code yX2_told cX2_told 1 (some .int), .methodLink RX2 32 yX2_toldFrom, .instanceMethod yX2_toldFrom, .selects RX2 yX2_toldFrom yX2_toldFrom, .code yX2_toldFrom cX2_toldFrom 4 (some .int), .methodLink RX2 36 Lib.Math.max.name, .static Lib.Math.max.name, .initialized "java/lang/Math", .code Lib.Math.max.name Lib.Math.max.code 2 (some .int), .fieldLink RX2 9 "SquareTower$Chart" "ranks" "[I"] ++ wsX80 ++ wsX50 ++ wsX20)
def wsX9_findWords : List Cond := .code yX9_findWords cX9_findWords 5 none :: ([.fieldLink RX9 83 "SquareTowerModel" "words" "I", .fieldLink RX9 7 "SquareTowerModel" "begins" "[I", .fieldLink RX9 13 "SquareTowerModel" "long1" "[I", .fieldLink RX9 16 "SquareTowerModel" "part" "[I"] ++ wsX90)
def wsX9_findRows : List Cond := .code yX9_findRows cX9_findRows 5 none :: ([.fieldLink RX9 19 "SquareTowerModel" "row" "[I"] ++ wsX90)
def wsX9_placeOf : List Cond := .code yX9_placeOf cX9_placeOf 8 (some .int) :: ([.fieldLink RX9 7 "SquareTowerModel" "begins" "[I", .fieldLink RX9 13 "SquareTowerModel" "long1" "[I", .fieldLink RX9 16 "SquareTowerModel" "part" "[I"] ++ wsX90)
def wsX9_restOf : List Cond := .code yX9_restOf cX9_restOf 7 (some .int) :: ([.fieldLink RX9 16 "SquareTowerModel" "part" "[I", .fieldLink RX9 7 "SquareTowerModel" "begins" "[I", .fieldLink RX9 13 "SquareTowerModel" "long1" "[I"] ++ wsX90)
def wsX9_isOdd : List Cond := .code yX9_isOdd cX9_isOdd 2 (some .boolean) :: ([])
def wsX9_manyOf : List Cond := .code yX9_manyOf cX9_manyOf 2 (some .int) :: ([.fieldLink RX9 7 "SquareTowerModel" "begins" "[I"] ++ wsX90)
def wsX9_squares : List Cond := .code yX9_squares cX9_squares 6 (some .int) :: ([.fieldLink RX9 22 "SquareTowerModel" "squared" "[I", .fieldLink RX9 7 "SquareTowerModel" "begins" "[I", .methodLink RX9 87 yX9_manyOf, .instanceMethod yX9_manyOf, .selects RX9 yX9_manyOf yX9_manyOf, .initialized RX9, .code yX9_manyOf cX9_manyOf 2 (some .int)] ++ wsX90)
def wsX9_squareOf : List Cond := .code yX9_squareOf cX9_squareOf 10 (some .int) :: ([.fieldLink RX9 16 "SquareTowerModel" "part" "[I", .fieldLink RX9 13 "SquareTowerModel" "long1" "[I", .fieldLink RX9 7 "SquareTowerModel" "begins" "[I", .methodLink RX9 91 yX9_placeOf, .instanceMethod yX9_placeOf, .selects RX9 yX9_placeOf yX9_placeOf, .initialized RX9, .code yX9_placeOf cX9_placeOf 8 (some .int), .methodLink RX9 95 yX9_restOf, .instanceMethod yX9_restOf, .selects RX9 yX9_restOf yX9_restOf, .code yX9_restOf cX9_restOf 7 (some .int), .methodLink RX9 99 yX9_isOdd, .static yX9_isOdd, .code yX9_isOdd cX9_isOdd 2 (some .boolean), .methodLink RX9 103 yX9_squares, .instanceMethod yX9_squares, .selects RX9 yX9_squares yX9_squares, .code yX9_squares cX9_squares 6 (some .int), .fieldLink RX9 22 "SquareTowerModel" "squared" "[I", .methodLink RX9 87 yX9_manyOf, .instanceMethod yX9_manyOf, .selects RX9 yX9_manyOf yX9_manyOf, .code yX9_manyOf cX9_manyOf 2 (some .int)] ++ wsX90)
def wsX9_rowAt : List Cond := .code yX9_rowAt cX9_rowAt 6 (some .int) :: ([.fieldLink RX9 7 "SquareTowerModel" "begins" "[I", .fieldLink RX9 19 "SquareTowerModel" "row" "[I"] ++ wsX90)
def wsX9_squareOfRow : List Cond := .code yX9_squareOfRow cX9_squareOfRow 12 (some .int) :: ([.fieldLink RX9 19 "SquareTowerModel" "row" "[I", .methodLink RX9 107 yX9_rowAt, .instanceMethod yX9_rowAt, .selects RX9 yX9_rowAt yX9_rowAt, .initialized RX9, .code yX9_rowAt cX9_rowAt 6 (some .int), .fieldLink RX9 7 "SquareTowerModel" "begins" "[I"] ++ wsX90)
def wsX9_findSquares_r1 : List Cond := [Cond.fieldLink RX9 7 "SquareTowerModel" "begins" "[I", Cond.fieldLink RX9 22 "SquareTowerModel" "squared" "[I", Cond.fieldLink RX9 25 "SquareTowerModel" "squaredRow" "[I", Cond.methodLink RX9 110 yX9_squareOf, Cond.instanceMethod yX9_squareOf, Cond.selects RX9 yX9_squareOf yX9_squareOf, Cond.initialized RX9, Cond.code yX9_squareOf cX9_squareOf 10 (some .int), Cond.fieldLink RX9 16 "SquareTowerModel" "part" "[I", Cond.fieldLink RX9 13 "SquareTowerModel" "long1" "[I", Cond.methodLink RX9 91 yX9_placeOf, Cond.instanceMethod yX9_placeOf, Cond.selects RX9 yX9_placeOf yX9_placeOf, Cond.code yX9_placeOf cX9_placeOf 8 (some .int), Cond.methodLink RX9 95 yX9_restOf, Cond.instanceMethod yX9_restOf, Cond.selects RX9 yX9_restOf yX9_restOf, Cond.code yX9_restOf cX9_restOf 7 (some .int), Cond.methodLink RX9 99 yX9_isOdd, Cond.static yX9_isOdd, Cond.code yX9_isOdd cX9_isOdd 2 (some .boolean), Cond.methodLink RX9 103 yX9_squares, Cond.instanceMethod yX9_squares, Cond.selects RX9 yX9_squares yX9_squares]
def wsX9_findSquares_r2 : List Cond := [Cond.code yX9_squares cX9_squares 6 (some .int), Cond.methodLink RX9 87 yX9_manyOf, Cond.instanceMethod yX9_manyOf, Cond.selects RX9 yX9_manyOf yX9_manyOf, Cond.code yX9_manyOf cX9_manyOf 2 (some .int), Cond.methodLink RX9 113 yX9_squareOfRow, Cond.instanceMethod yX9_squareOfRow, Cond.selects RX9 yX9_squareOfRow yX9_squareOfRow, Cond.code yX9_squareOfRow cX9_squareOfRow 12 (some .int), Cond.fieldLink RX9 19 "SquareTowerModel" "row" "[I", Cond.methodLink RX9 107 yX9_rowAt, Cond.instanceMethod yX9_rowAt, Cond.selects RX9 yX9_rowAt yX9_rowAt, Cond.code yX9_rowAt cX9_rowAt 6 (some .int)]
def wsX9_findSquares : List Cond := .code yX9_findSquares cX9_findSquares 4 none :: ((wsX9_findSquares_r1 ++ wsX9_findSquares_r2) ++ wsX90)
def wsX9_degreeOf : List Cond := .code yX9_degreeOf cX9_degreeOf 3 (some .int) :: ([.fieldLink RX9 7 "SquareTowerModel" "begins" "[I"] ++ wsX90)
def wsX9_findProducts : List Cond := .code yX9_findProducts cX9_findProducts 6 none :: ([.fieldLink RX9 83 "SquareTowerModel" "words" "I", .fieldLink RX9 7 "SquareTowerModel" "begins" "[I", .fieldLink RX9 13 "SquareTowerModel" "long1" "[I", .fieldLink RX9 16 "SquareTowerModel" "part" "[I", .fieldLink RX9 28 "SquareTowerModel" "product" "[I", .methodLink RX9 116 yX9_degreeOf, .instanceMethod yX9_degreeOf, .selects RX9 yX9_degreeOf yX9_degreeOf, .initialized RX9, .code yX9_degreeOf cX9_degreeOf 3 (some .int), .methodLink RX9 103 yX9_squares, .instanceMethod yX9_squares, .selects RX9 yX9_squares yX9_squares, .code yX9_squares cX9_squares 6 (some .int), .fieldLink RX9 22 "SquareTowerModel" "squared" "[I", .methodLink RX9 87 yX9_manyOf, .instanceMethod yX9_manyOf, .selects RX9 yX9_manyOf yX9_manyOf, .code yX9_manyOf cX9_manyOf 2 (some .int)] ++ wsX90)
def wsX9_init_r1 : List Cond := [Cond.methodLink RX9 1 objectInit, Cond.instanceMethod objectInit, Cond.code objectInit ⟨#[0xb1]⟩ 1 none, Cond.arrayClass .int, Cond.fieldLink RX9 7 "SquareTowerModel" "begins" "[I", Cond.fieldLink RX9 13 "SquareTowerModel" "long1" "[I", Cond.fieldLink RX9 16 "SquareTowerModel" "part" "[I", Cond.fieldLink RX9 19 "SquareTowerModel" "row" "[I", Cond.fieldLink RX9 22 "SquareTowerModel" "squared" "[I", Cond.fieldLink RX9 25 "SquareTowerModel" "squaredRow" "[I", Cond.fieldLink RX9 28 "SquareTowerModel" "product" "[I", Cond.fieldLink RX9 31 "SquareTowerModel" "word" "[I", Cond.fieldLink RX9 34 "SquareTowerModel" "degree" "[I", Cond.fieldLink RX9 37 "SquareTowerModel" "acts" "[I", Cond.fieldLink RX9 40 "SquareTowerModel" "generators" "[I", Cond.fieldLink RX9 43 "SquareTowerModel" "generatorDegree" "[I", Cond.arrayClass .long, Cond.fieldLink RX9 46 "SquareTowerModel" "goesTo" "[J", Cond.fieldLink RX9 50 "SquareTowerModel" "rank" "[I", Cond.fieldLink RX9 53 "SquareTowerModel" "rows" "[J", Cond.fieldLink RX9 56 "SquareTowerModel" "leads" "[I", Cond.fieldLink RX9 59 "SquareTowerModel" "now" "[J", Cond.fieldLink RX9 62 "SquareTowerModel" "nothing" "[J", Cond.fieldLink RX9 65 "SquareTowerModel" "nextNothing" "[J"]
def wsX9_init_r2 : List Cond := [Cond.fieldLink RX9 68 "SquareTowerModel" "table" "[I", Cond.methodLink RX9 71 yX9_findWords, Cond.instanceMethod yX9_findWords, Cond.selects RX9 yX9_findWords yX9_findWords, Cond.initialized RX9, Cond.code yX9_findWords cX9_findWords 5 none, Cond.fieldLink RX9 83 "SquareTowerModel" "words" "I", Cond.methodLink RX9 74 yX9_findRows, Cond.instanceMethod yX9_findRows, Cond.selects RX9 yX9_findRows yX9_findRows, Cond.code yX9_findRows cX9_findRows 5 none, Cond.methodLink RX9 77 yX9_findSquares, Cond.instanceMethod yX9_findSquares, Cond.selects RX9 yX9_findSquares yX9_findSquares, Cond.code yX9_findSquares cX9_findSquares 4 none, Cond.methodLink RX9 110 yX9_squareOf, Cond.instanceMethod yX9_squareOf, Cond.selects RX9 yX9_squareOf yX9_squareOf, Cond.code yX9_squareOf cX9_squareOf 10 (some .int), Cond.methodLink RX9 91 yX9_placeOf, Cond.instanceMethod yX9_placeOf, Cond.selects RX9 yX9_placeOf yX9_placeOf, Cond.code yX9_placeOf cX9_placeOf 8 (some .int), Cond.methodLink RX9 95 yX9_restOf]
def wsX9_init_r3 : List Cond := [Cond.instanceMethod yX9_restOf, Cond.selects RX9 yX9_restOf yX9_restOf, Cond.code yX9_restOf cX9_restOf 7 (some .int), Cond.methodLink RX9 99 yX9_isOdd, Cond.static yX9_isOdd, Cond.code yX9_isOdd cX9_isOdd 2 (some .boolean), Cond.methodLink RX9 103 yX9_squares, Cond.instanceMethod yX9_squares, Cond.selects RX9 yX9_squares yX9_squares, Cond.code yX9_squares cX9_squares 6 (some .int), Cond.methodLink RX9 87 yX9_manyOf, Cond.instanceMethod yX9_manyOf, Cond.selects RX9 yX9_manyOf yX9_manyOf, Cond.code yX9_manyOf cX9_manyOf 2 (some .int), Cond.methodLink RX9 113 yX9_squareOfRow, Cond.instanceMethod yX9_squareOfRow, Cond.selects RX9 yX9_squareOfRow yX9_squareOfRow, Cond.code yX9_squareOfRow cX9_squareOfRow 12 (some .int), Cond.methodLink RX9 107 yX9_rowAt, Cond.instanceMethod yX9_rowAt, Cond.selects RX9 yX9_rowAt yX9_rowAt, Cond.code yX9_rowAt cX9_rowAt 6 (some .int), Cond.methodLink RX9 80 yX9_findProducts, Cond.instanceMethod yX9_findProducts]
def wsX9_init_r4 : List Cond := [Cond.selects RX9 yX9_findProducts yX9_findProducts, Cond.code yX9_findProducts cX9_findProducts 6 none, Cond.methodLink RX9 116 yX9_degreeOf, Cond.instanceMethod yX9_degreeOf, Cond.selects RX9 yX9_degreeOf yX9_degreeOf, Cond.code yX9_degreeOf cX9_degreeOf 3 (some .int)]
def wsX9_init : List Cond := .code yX9_init cX9_init 1 none :: ((wsX9_init_r1 ++ (wsX9_init_r2 ++ (wsX9_init_r3 ++ wsX9_init_r4))) ++ wsX90)
def wsX9_in : List Cond := .code yX9_in cX9_in 3 (some .boolean) :: ([])
def wsX9_squaresRow : List Cond := .code yX9_squaresRow cX9_squaresRow 6 (some .int) :: ([.fieldLink RX9 25 "SquareTowerModel" "squaredRow" "[I", .fieldLink RX9 7 "SquareTowerModel" "begins" "[I", .methodLink RX9 87 yX9_manyOf, .instanceMethod yX9_manyOf, .selects RX9 yX9_manyOf yX9_manyOf, .initialized RX9, .code yX9_manyOf cX9_manyOf 2 (some .int)] ++ wsX90)
def wsX9_wordDegree : List Cond := .code yX9_wordDegree cX9_wordDegree 3 (some .int) :: ([.fieldLink RX9 119 "SquareTowerModel" "wordSize" "I", .fieldLink RX9 31 "SquareTowerModel" "word" "[I"] ++ wsX90)
def wsX9_square : List Cond := .code yX9_square cX9_square 2 (some .int) :: ([.fieldLink RX9 119 "SquareTowerModel" "wordSize" "I", .fieldLink RX9 31 "SquareTowerModel" "word" "[I", .methodLink RX9 122 yX9_in, .static yX9_in, .initialized RX9, .code yX9_in cX9_in 3 (some .boolean), .methodLink RX9 126 yX9_wordDegree, .instanceMethod yX9_wordDegree, .selects RX9 yX9_wordDegree yX9_wordDegree, .code yX9_wordDegree cX9_wordDegree 3 (some .int)] ++ wsX90)
def wsX9_clear : List Cond := .code yX9_clear cX9_clear 2 (some .int) :: ([.fieldLink RX9 119 "SquareTowerModel" "wordSize" "I"] ++ wsX90)
def wsX9_sumOf : List Cond := .code yX9_sumOf cX9_sumOf 5 (some .int) :: ([.fieldLink RX9 119 "SquareTowerModel" "wordSize" "I", .fieldLink RX9 31 "SquareTowerModel" "word" "[I", .methodLink RX9 103 yX9_squares, .instanceMethod yX9_squares, .selects RX9 yX9_squares yX9_squares, .initialized RX9, .code yX9_squares cX9_squares 6 (some .int), .fieldLink RX9 22 "SquareTowerModel" "squared" "[I", .fieldLink RX9 7 "SquareTowerModel" "begins" "[I", .methodLink RX9 87 yX9_manyOf, .instanceMethod yX9_manyOf, .selects RX9 yX9_manyOf yX9_manyOf, .code yX9_manyOf cX9_manyOf 2 (some .int), .methodLink RX9 130 yX9_squaresRow, .instanceMethod yX9_squaresRow, .selects RX9 yX9_squaresRow yX9_squaresRow, .code yX9_squaresRow cX9_squaresRow 6 (some .int), .fieldLink RX9 25 "SquareTowerModel" "squaredRow" "[I"] ++ wsX90)
def wsX9_ones : List Cond := .code yX9_ones cX9_ones 3 (some .int) :: ([])
def wsX9_sum_r1 : List Cond := [Cond.methodLink RX9 122 yX9_in, Cond.static yX9_in, Cond.initialized RX9, Cond.code yX9_in cX9_in 3 (some .boolean), Cond.methodLink RX9 133 yX9_sumOf, Cond.instanceMethod yX9_sumOf, Cond.selects RX9 yX9_sumOf yX9_sumOf, Cond.code yX9_sumOf cX9_sumOf 5 (some .int), Cond.fieldLink RX9 119 "SquareTowerModel" "wordSize" "I", Cond.fieldLink RX9 31 "SquareTowerModel" "word" "[I", Cond.methodLink RX9 103 yX9_squares, Cond.instanceMethod yX9_squares, Cond.selects RX9 yX9_squares yX9_squares, Cond.code yX9_squares cX9_squares 6 (some .int), Cond.fieldLink RX9 22 "SquareTowerModel" "squared" "[I", Cond.fieldLink RX9 7 "SquareTowerModel" "begins" "[I", Cond.methodLink RX9 87 yX9_manyOf, Cond.instanceMethod yX9_manyOf, Cond.selects RX9 yX9_manyOf yX9_manyOf, Cond.code yX9_manyOf cX9_manyOf 2 (some .int), Cond.methodLink RX9 130 yX9_squaresRow, Cond.instanceMethod yX9_squaresRow, Cond.selects RX9 yX9_squaresRow yX9_squaresRow, Cond.code yX9_squaresRow cX9_squaresRow 6 (some .int)]
def wsX9_sum_r2 : List Cond := [Cond.fieldLink RX9 25 "SquareTowerModel" "squaredRow" "[I", Cond.methodLink RX9 136 yX9_ones, Cond.static yX9_ones, Cond.code yX9_ones cX9_ones 3 (some .int)]
def wsX9_sum : List Cond := .code yX9_sum cX9_sum 2 (some .int) :: ((wsX9_sum_r1 ++ wsX9_sum_r2) ++ wsX90)
def wsX9_term_r1 : List Cond := [Cond.fieldLink RX9 7 "SquareTowerModel" "begins" "[I", Cond.fieldLink RX9 19 "SquareTowerModel" "row" "[I", Cond.fieldLink RX9 13 "SquareTowerModel" "long1" "[I", Cond.fieldLink RX9 16 "SquareTowerModel" "part" "[I", Cond.methodLink RX9 122 yX9_in, Cond.static yX9_in, Cond.initialized RX9, Cond.code yX9_in cX9_in 3 (some .boolean), Cond.methodLink RX9 133 yX9_sumOf, Cond.instanceMethod yX9_sumOf, Cond.selects RX9 yX9_sumOf yX9_sumOf, Cond.code yX9_sumOf cX9_sumOf 5 (some .int), Cond.fieldLink RX9 119 "SquareTowerModel" "wordSize" "I", Cond.fieldLink RX9 31 "SquareTowerModel" "word" "[I", Cond.methodLink RX9 103 yX9_squares, Cond.instanceMethod yX9_squares, Cond.selects RX9 yX9_squares yX9_squares, Cond.code yX9_squares cX9_squares 6 (some .int), Cond.fieldLink RX9 22 "SquareTowerModel" "squared" "[I", Cond.methodLink RX9 87 yX9_manyOf, Cond.instanceMethod yX9_manyOf, Cond.selects RX9 yX9_manyOf yX9_manyOf, Cond.code yX9_manyOf cX9_manyOf 2 (some .int), Cond.methodLink RX9 130 yX9_squaresRow]
def wsX9_term_r2 : List Cond := [Cond.instanceMethod yX9_squaresRow, Cond.selects RX9 yX9_squaresRow yX9_squaresRow, Cond.code yX9_squaresRow cX9_squaresRow 6 (some .int), Cond.fieldLink RX9 25 "SquareTowerModel" "squaredRow" "[I", Cond.methodLink RX9 136 yX9_ones, Cond.static yX9_ones, Cond.code yX9_ones cX9_ones 3 (some .int), Cond.methodLink RX9 126 yX9_wordDegree, Cond.instanceMethod yX9_wordDegree, Cond.selects RX9 yX9_wordDegree yX9_wordDegree, Cond.code yX9_wordDegree cX9_wordDegree 3 (some .int)]
def wsX9_term : List Cond := .code yX9_term cX9_term 6 (some .int) :: ((wsX9_term_r1 ++ wsX9_term_r2) ++ wsX90)
def wsX9_many : List Cond := .code yX9_many cX9_many 2 (some .int) :: ([.methodLink RX9 122 yX9_in, .static yX9_in, .initialized RX9, .code yX9_in cX9_in 3 (some .boolean), .methodLink RX9 87 yX9_manyOf, .instanceMethod yX9_manyOf, .selects RX9 yX9_manyOf yX9_manyOf, .code yX9_manyOf cX9_manyOf 2 (some .int), .fieldLink RX9 7 "SquareTowerModel" "begins" "[I"] ++ wsX90)
def wsX9_changes : List Cond := .code yX9_changes cX9_changes 2 none :: ([.fieldLink RX9 139 "SquareTowerModel" "isLaid" "Z", .fieldLink RX9 143 "SquareTowerModel" "differences" "I", .fieldLink RX9 50 "SquareTowerModel" "rank" "[I"] ++ wsX90)
def wsX9_empty : List Cond := .code yX9_empty cX9_empty 2 (some .int) :: ([.fieldLink RX9 146 "SquareTowerModel" "elements" "I", .methodLink RX9 149 yX9_changes, .instanceMethod yX9_changes, .selects RX9 yX9_changes yX9_changes, .initialized RX9, .code yX9_changes cX9_changes 2 none, .fieldLink RX9 139 "SquareTowerModel" "isLaid" "Z", .fieldLink RX9 143 "SquareTowerModel" "differences" "I", .fieldLink RX9 50 "SquareTowerModel" "rank" "[I"] ++ wsX90)
def wsX9_comes : List Cond := .code yX9_comes cX9_comes 3 none :: ([.fieldLink RX9 34 "SquareTowerModel" "degree" "[I", .fieldLink RX9 146 "SquareTowerModel" "elements" "I", .fieldLink RX9 37 "SquareTowerModel" "acts" "[I"] ++ wsX90)
def wsX9_element : List Cond := .code yX9_element cX9_element 2 (some .int) :: ([.fieldLink RX9 146 "SquareTowerModel" "elements" "I", .methodLink RX9 122 yX9_in, .static yX9_in, .initialized RX9, .code yX9_in cX9_in 3 (some .boolean), .methodLink RX9 152 yX9_comes, .instanceMethod yX9_comes, .selects RX9 yX9_comes yX9_comes, .code yX9_comes cX9_comes 3 none, .fieldLink RX9 34 "SquareTowerModel" "degree" "[I", .fieldLink RX9 37 "SquareTowerModel" "acts" "[I", .methodLink RX9 149 yX9_changes, .instanceMethod yX9_changes, .selects RX9 yX9_changes yX9_changes, .code yX9_changes cX9_changes 2 none, .fieldLink RX9 139 "SquareTowerModel" "isLaid" "Z", .fieldLink RX9 143 "SquareTowerModel" "differences" "I", .fieldLink RX9 50 "SquareTowerModel" "rank" "[I"] ++ wsX90)
def wsX9_ofDegree : List Cond := .code yX9_ofDegree cX9_ofDegree 4 (some .int) :: ([.fieldLink RX9 146 "SquareTowerModel" "elements" "I", .fieldLink RX9 34 "SquareTowerModel" "degree" "[I"] ++ wsX90)
def wsX9_isElement : List Cond := .code yX9_isElement cX9_isElement 2 (some .boolean) :: ([.fieldLink RX9 146 "SquareTowerModel" "elements" "I", .methodLink RX9 122 yX9_in, .static yX9_in, .initialized RX9, .code yX9_in cX9_in 3 (some .boolean)] ++ wsX90)
def wsX9_act : List Cond := .code yX9_act cX9_act 5 (some .int) :: ([.fieldLink RX9 34 "SquareTowerModel" "degree" "[I", .fieldLink RX9 37 "SquareTowerModel" "acts" "[I", .methodLink RX9 122 yX9_in, .static yX9_in, .initialized RX9, .code yX9_in cX9_in 3 (some .boolean), .methodLink RX9 156 yX9_isElement, .instanceMethod yX9_isElement, .selects RX9 yX9_isElement yX9_isElement, .code yX9_isElement cX9_isElement 2 (some .boolean), .fieldLink RX9 146 "SquareTowerModel" "elements" "I", .methodLink RX9 160 yX9_ofDegree, .instanceMethod yX9_ofDegree, .selects RX9 yX9_ofDegree yX9_ofDegree, .code yX9_ofDegree cX9_ofDegree 4 (some .int), .methodLink RX9 149 yX9_changes, .instanceMethod yX9_changes, .selects RX9 yX9_changes yX9_changes, .code yX9_changes cX9_changes 2 none, .fieldLink RX9 139 "SquareTowerModel" "isLaid" "Z", .fieldLink RX9 143 "SquareTowerModel" "differences" "I", .fieldLink RX9 50 "SquareTowerModel" "rank" "[I"] ++ wsX90)
def wsX9_space : List Cond := .code yX9_space cX9_space 9 (some .int) :: ([.fieldLink RX9 146 "SquareTowerModel" "elements" "I", .fieldLink RX9 37 "SquareTowerModel" "acts" "[I", .methodLink RX9 122 yX9_in, .static yX9_in, .initialized RX9, .code yX9_in cX9_in 3 (some .boolean), .methodLink RX9 152 yX9_comes, .instanceMethod yX9_comes, .selects RX9 yX9_comes yX9_comes, .code yX9_comes cX9_comes 3 none, .fieldLink RX9 34 "SquareTowerModel" "degree" "[I", .methodLink RX9 99 yX9_isOdd, .static yX9_isOdd, .code yX9_isOdd cX9_isOdd 2 (some .boolean), .methodLink RX9 149 yX9_changes, .instanceMethod yX9_changes, .selects RX9 yX9_changes yX9_changes, .code yX9_changes cX9_changes 2 none, .fieldLink RX9 139 "SquareTowerModel" "isLaid" "Z", .fieldLink RX9 143 "SquareTowerModel" "differences" "I", .fieldLink RX9 50 "SquareTowerModel" "rank" "[I"] ++ wsX90)
def wsX9_acted : List Cond := .code yX9_acted cX9_acted 5 (some .int) :: ([.fieldLink RX9 146 "SquareTowerModel" "elements" "I", .fieldLink RX9 37 "SquareTowerModel" "acts" "[I"] ++ wsX90)
def wsX9_does : List Cond := .code yX9_does cX9_does 4 (some .int) :: ([.fieldLink RX9 119 "SquareTowerModel" "wordSize" "I", .fieldLink RX9 31 "SquareTowerModel" "word" "[I", .methodLink RX9 156 yX9_isElement, .instanceMethod yX9_isElement, .selects RX9 yX9_isElement yX9_isElement, .initialized RX9, .code yX9_isElement cX9_isElement 2 (some .boolean), .fieldLink RX9 146 "SquareTowerModel" "elements" "I", .methodLink RX9 122 yX9_in, .static yX9_in, .code yX9_in cX9_in 3 (some .boolean), .methodLink RX9 163 yX9_acted, .instanceMethod yX9_acted, .selects RX9 yX9_acted yX9_acted, .code yX9_acted cX9_acted 5 (some .int), .fieldLink RX9 37 "SquareTowerModel" "acts" "[I"] ++ wsX90)
def wsX9_about : List Cond := .code yX9_about cX9_about 3 (some .int) :: ([.fieldLink RX9 34 "SquareTowerModel" "degree" "[I", .fieldLink RX9 37 "SquareTowerModel" "acts" "[I", .methodLink RX9 156 yX9_isElement, .instanceMethod yX9_isElement, .selects RX9 yX9_isElement yX9_isElement, .initialized RX9, .code yX9_isElement cX9_isElement 2 (some .boolean), .fieldLink RX9 146 "SquareTowerModel" "elements" "I", .methodLink RX9 122 yX9_in, .static yX9_in, .code yX9_in cX9_in 3 (some .boolean)] ++ wsX90)
def wsX9_findFault : List Cond := .code yX9_findFault cX9_findFault 6 (some .int) :: ([.fieldLink RX9 146 "SquareTowerModel" "elements" "I", .fieldLink RX9 166 "SquareTowerModel" "faultA" "I", .fieldLink RX9 169 "SquareTowerModel" "faultB" "I", .methodLink RX9 163 yX9_acted, .instanceMethod yX9_acted, .selects RX9 yX9_acted yX9_acted, .initialized RX9, .code yX9_acted cX9_acted 5 (some .int), .fieldLink RX9 37 "SquareTowerModel" "acts" "[I", .methodLink RX9 99 yX9_isOdd, .static yX9_isOdd, .code yX9_isOdd cX9_isOdd 2 (some .boolean)] ++ wsX90)
def wsX9_isSound : List Cond := .code yX9_isSound cX9_isSound 1 (some .boolean) :: ([.methodLink RX9 172 yX9_findFault, .instanceMethod yX9_findFault, .selects RX9 yX9_findFault yX9_findFault, .initialized RX9, .code yX9_findFault cX9_findFault 6 (some .int), .fieldLink RX9 146 "SquareTowerModel" "elements" "I", .fieldLink RX9 166 "SquareTowerModel" "faultA" "I", .fieldLink RX9 169 "SquareTowerModel" "faultB" "I", .methodLink RX9 163 yX9_acted, .instanceMethod yX9_acted, .selects RX9 yX9_acted yX9_acted, .code yX9_acted cX9_acted 5 (some .int), .fieldLink RX9 37 "SquareTowerModel" "acts" "[I", .methodLink RX9 99 yX9_isOdd, .static yX9_isOdd, .code yX9_isOdd cX9_isOdd 2 (some .boolean)] ++ wsX90)
def wsX9_fault : List Cond := .code yX9_fault cX9_fault 3 (some .int) :: ([.fieldLink RX9 166 "SquareTowerModel" "faultA" "I", .fieldLink RX9 169 "SquareTowerModel" "faultB" "I", .methodLink RX9 122 yX9_in, .static yX9_in, .initialized RX9, .code yX9_in cX9_in 3 (some .boolean), .methodLink RX9 172 yX9_findFault, .instanceMethod yX9_findFault, .selects RX9 yX9_findFault yX9_findFault, .code yX9_findFault cX9_findFault 6 (some .int), .fieldLink RX9 146 "SquareTowerModel" "elements" "I", .methodLink RX9 163 yX9_acted, .instanceMethod yX9_acted, .selects RX9 yX9_acted yX9_acted, .code yX9_acted cX9_acted 5 (some .int), .fieldLink RX9 37 "SquareTowerModel" "acts" "[I", .methodLink RX9 99 yX9_isOdd, .static yX9_isOdd, .code yX9_isOdd cX9_isOdd 2 (some .boolean)] ++ wsX90)
def wsX9_offset : List Cond := .code yX9_offset cX9_offset 7 (some .int) :: ([.fieldLink RX9 43 "SquareTowerModel" "generatorDegree" "[I", .methodLink RX9 87 yX9_manyOf, .instanceMethod yX9_manyOf, .selects RX9 yX9_manyOf yX9_manyOf, .initialized RX9, .code yX9_manyOf cX9_manyOf 2 (some .int), .fieldLink RX9 7 "SquareTowerModel" "begins" "[I"] ++ wsX90)
def wsX9_wide : List Cond := .code yX9_wide cX9_wide 3 (some .int) :: ([.fieldLink RX9 40 "SquareTowerModel" "generators" "[I", .methodLink RX9 175 yX9_offset, .instanceMethod yX9_offset, .selects RX9 yX9_offset yX9_offset, .initialized RX9, .code yX9_offset cX9_offset 7 (some .int), .fieldLink RX9 43 "SquareTowerModel" "generatorDegree" "[I", .methodLink RX9 87 yX9_manyOf, .instanceMethod yX9_manyOf, .selects RX9 yX9_manyOf yX9_manyOf, .code yX9_manyOf cX9_manyOf 2 (some .int), .fieldLink RX9 7 "SquareTowerModel" "begins" "[I"] ++ wsX90)
def wsX9_turns : List Cond := .code yX9_turns cX9_turns 2 none :: ([.fieldLink RX9 59 "SquareTowerModel" "now" "[J"] ++ wsX90)
def wsX9_clearNow : List Cond := .code yX9_clearNow cX9_clearNow 2 none :: ([.fieldLink RX9 59 "SquareTowerModel" "now" "[J"] ++ wsX90)
def wsX9_goes : List Cond := .code yX9_goes cX9_goes 15 none :: ([.fieldLink RX9 46 "SquareTowerModel" "goesTo" "[J", .fieldLink RX9 13 "SquareTowerModel" "long1" "[I", .fieldLink RX9 16 "SquareTowerModel" "part" "[I", .fieldLink RX9 59 "SquareTowerModel" "now" "[J", .fieldLink RX9 43 "SquareTowerModel" "generatorDegree" "[I", .fieldLink RX9 40 "SquareTowerModel" "generators" "[I", .fieldLink RX9 28 "SquareTowerModel" "product" "[I", .fieldLink RX9 7 "SquareTowerModel" "begins" "[I", .methodLink RX9 163 yX9_acted, .instanceMethod yX9_acted, .selects RX9 yX9_acted yX9_acted, .initialized RX9, .code yX9_acted cX9_acted 5 (some .int), .fieldLink RX9 146 "SquareTowerModel" "elements" "I", .fieldLink RX9 37 "SquareTowerModel" "acts" "[I", .methodLink RX9 87 yX9_manyOf, .instanceMethod yX9_manyOf, .selects RX9 yX9_manyOf yX9_manyOf, .code yX9_manyOf cX9_manyOf 2 (some .int), .methodLink RX9 178 yX9_turns, .instanceMethod yX9_turns, .selects RX9 yX9_turns yX9_turns, .code yX9_turns cX9_turns 2 none] ++ wsX90)
def wsX9_lead : List Cond := .code yX9_lead cX9_lead 3 (some .int) :: ([.fieldLink RX9 59 "SquareTowerModel" "now" "[J"] ++ wsX90)
def wsX9_reduces : List Cond := .code yX9_reduces cX9_reduces 4 (some .int) :: ([.fieldLink RX9 181 "SquareTowerModel" "manyRows" "I", .fieldLink RX9 56 "SquareTowerModel" "leads" "[I", .fieldLink RX9 59 "SquareTowerModel" "now" "[J", .fieldLink RX9 53 "SquareTowerModel" "rows" "[J", .methodLink RX9 184 yX9_lead, .instanceMethod yX9_lead, .selects RX9 yX9_lead yX9_lead, .initialized RX9, .code yX9_lead cX9_lead 3 (some .int)] ++ wsX90)
def wsX9_keeps : List Cond := .code yX9_keeps cX9_keeps 3 none :: ([.fieldLink RX9 53 "SquareTowerModel" "rows" "[J", .fieldLink RX9 181 "SquareTowerModel" "manyRows" "I", .fieldLink RX9 59 "SquareTowerModel" "now" "[J", .fieldLink RX9 56 "SquareTowerModel" "leads" "[I"] ++ wsX90)
def wsX9_comesGenerator : List Cond := .code yX9_comesGenerator cX9_comesGenerator 4 none :: ([.fieldLink RX9 40 "SquareTowerModel" "generators" "[I", .fieldLink RX9 43 "SquareTowerModel" "generatorDegree" "[I"] ++ wsX90)
def wsX9_lays_r1 : List Cond := [Cond.fieldLink RX9 181 "SquareTowerModel" "manyRows" "I", Cond.fieldLink RX9 187 "SquareTowerModel" "manyNext" "I", Cond.fieldLink RX9 40 "SquareTowerModel" "generators" "[I", Cond.fieldLink RX9 43 "SquareTowerModel" "generatorDegree" "[I", Cond.fieldLink RX9 7 "SquareTowerModel" "begins" "[I", Cond.fieldLink RX9 59 "SquareTowerModel" "now" "[J", Cond.fieldLink RX9 65 "SquareTowerModel" "nextNothing" "[J", Cond.fieldLink RX9 146 "SquareTowerModel" "elements" "I", Cond.fieldLink RX9 203 "SquareTowerModel" "manyNothing" "I", Cond.fieldLink RX9 34 "SquareTowerModel" "degree" "[I", Cond.fieldLink RX9 62 "SquareTowerModel" "nothing" "[J", Cond.fieldLink RX9 46 "SquareTowerModel" "goesTo" "[J", Cond.methodLink RX9 190 yX9_clearNow, Cond.instanceMethod yX9_clearNow, Cond.selects RX9 yX9_clearNow yX9_clearNow, Cond.initialized RX9, Cond.code yX9_clearNow cX9_clearNow 2 none, Cond.methodLink RX9 193 yX9_goes, Cond.instanceMethod yX9_goes, Cond.selects RX9 yX9_goes yX9_goes, Cond.code yX9_goes cX9_goes 15 none, Cond.fieldLink RX9 13 "SquareTowerModel" "long1" "[I", Cond.fieldLink RX9 16 "SquareTowerModel" "part" "[I", Cond.fieldLink RX9 28 "SquareTowerModel" "product" "[I"]
def wsX9_lays_r2 : List Cond := [Cond.methodLink RX9 163 yX9_acted, Cond.instanceMethod yX9_acted, Cond.selects RX9 yX9_acted yX9_acted, Cond.code yX9_acted cX9_acted 5 (some .int), Cond.fieldLink RX9 37 "SquareTowerModel" "acts" "[I", Cond.methodLink RX9 87 yX9_manyOf, Cond.instanceMethod yX9_manyOf, Cond.selects RX9 yX9_manyOf yX9_manyOf, Cond.code yX9_manyOf cX9_manyOf 2 (some .int), Cond.methodLink RX9 178 yX9_turns, Cond.instanceMethod yX9_turns, Cond.selects RX9 yX9_turns yX9_turns, Cond.code yX9_turns cX9_turns 2 none, Cond.methodLink RX9 197 yX9_reduces, Cond.instanceMethod yX9_reduces, Cond.selects RX9 yX9_reduces yX9_reduces, Cond.code yX9_reduces cX9_reduces 4 (some .int), Cond.fieldLink RX9 56 "SquareTowerModel" "leads" "[I", Cond.fieldLink RX9 53 "SquareTowerModel" "rows" "[J", Cond.methodLink RX9 184 yX9_lead, Cond.instanceMethod yX9_lead, Cond.selects RX9 yX9_lead yX9_lead, Cond.code yX9_lead cX9_lead 3 (some .int), Cond.methodLink RX9 200 yX9_keeps]
def wsX9_lays_r3 : List Cond := [Cond.instanceMethod yX9_keeps, Cond.selects RX9 yX9_keeps yX9_keeps, Cond.code yX9_keeps cX9_keeps 3 none, Cond.methodLink RX9 206 yX9_comesGenerator, Cond.instanceMethod yX9_comesGenerator, Cond.selects RX9 yX9_comesGenerator yX9_comesGenerator, Cond.code yX9_comesGenerator cX9_comesGenerator 4 none]
def wsX9_lays : List Cond := .code yX9_lays cX9_lays 9 none :: ((wsX9_lays_r1 ++ (wsX9_lays_r2 ++ wsX9_lays_r3)) ++ wsX90)
def wsX9_layAll_r1 : List Cond := [Cond.fieldLink RX9 139 "SquareTowerModel" "isLaid" "Z", Cond.fieldLink RX9 40 "SquareTowerModel" "generators" "[I", Cond.fieldLink RX9 203 "SquareTowerModel" "manyNothing" "I", Cond.methodLink RX9 210 yX9_lays, Cond.instanceMethod yX9_lays, Cond.selects RX9 yX9_lays yX9_lays, Cond.initialized RX9, Cond.code yX9_lays cX9_lays 9 none, Cond.fieldLink RX9 181 "SquareTowerModel" "manyRows" "I", Cond.fieldLink RX9 187 "SquareTowerModel" "manyNext" "I", Cond.fieldLink RX9 43 "SquareTowerModel" "generatorDegree" "[I", Cond.fieldLink RX9 7 "SquareTowerModel" "begins" "[I", Cond.fieldLink RX9 59 "SquareTowerModel" "now" "[J", Cond.fieldLink RX9 65 "SquareTowerModel" "nextNothing" "[J", Cond.fieldLink RX9 146 "SquareTowerModel" "elements" "I", Cond.fieldLink RX9 34 "SquareTowerModel" "degree" "[I", Cond.fieldLink RX9 62 "SquareTowerModel" "nothing" "[J", Cond.fieldLink RX9 46 "SquareTowerModel" "goesTo" "[J", Cond.methodLink RX9 190 yX9_clearNow, Cond.instanceMethod yX9_clearNow, Cond.selects RX9 yX9_clearNow yX9_clearNow, Cond.code yX9_clearNow cX9_clearNow 2 none, Cond.methodLink RX9 193 yX9_goes, Cond.instanceMethod yX9_goes]
def wsX9_layAll_r2 : List Cond := [Cond.selects RX9 yX9_goes yX9_goes, Cond.code yX9_goes cX9_goes 15 none, Cond.fieldLink RX9 13 "SquareTowerModel" "long1" "[I", Cond.fieldLink RX9 16 "SquareTowerModel" "part" "[I", Cond.fieldLink RX9 28 "SquareTowerModel" "product" "[I", Cond.methodLink RX9 163 yX9_acted, Cond.instanceMethod yX9_acted, Cond.selects RX9 yX9_acted yX9_acted, Cond.code yX9_acted cX9_acted 5 (some .int), Cond.fieldLink RX9 37 "SquareTowerModel" "acts" "[I", Cond.methodLink RX9 87 yX9_manyOf, Cond.instanceMethod yX9_manyOf, Cond.selects RX9 yX9_manyOf yX9_manyOf, Cond.code yX9_manyOf cX9_manyOf 2 (some .int), Cond.methodLink RX9 178 yX9_turns, Cond.instanceMethod yX9_turns, Cond.selects RX9 yX9_turns yX9_turns, Cond.code yX9_turns cX9_turns 2 none, Cond.methodLink RX9 197 yX9_reduces, Cond.instanceMethod yX9_reduces, Cond.selects RX9 yX9_reduces yX9_reduces, Cond.code yX9_reduces cX9_reduces 4 (some .int), Cond.fieldLink RX9 56 "SquareTowerModel" "leads" "[I", Cond.fieldLink RX9 53 "SquareTowerModel" "rows" "[J"]
def wsX9_layAll_r3 : List Cond := [Cond.methodLink RX9 184 yX9_lead, Cond.instanceMethod yX9_lead, Cond.selects RX9 yX9_lead yX9_lead, Cond.code yX9_lead cX9_lead 3 (some .int), Cond.methodLink RX9 200 yX9_keeps, Cond.instanceMethod yX9_keeps, Cond.selects RX9 yX9_keeps yX9_keeps, Cond.code yX9_keeps cX9_keeps 3 none, Cond.methodLink RX9 206 yX9_comesGenerator, Cond.instanceMethod yX9_comesGenerator, Cond.selects RX9 yX9_comesGenerator yX9_comesGenerator, Cond.code yX9_comesGenerator cX9_comesGenerator 4 none]
def wsX9_layAll : List Cond := .code yX9_layAll cX9_layAll 3 none :: ((wsX9_layAll_r1 ++ (wsX9_layAll_r2 ++ wsX9_layAll_r3)) ++ wsX90)
def wsX9_isPlace : List Cond := .code yX9_isPlace cX9_isPlace 2 (some .boolean) :: ([.methodLink RX9 122 yX9_in, .static yX9_in, .initialized RX9, .code yX9_in cX9_in 3 (some .boolean)])
def wsX9_liveAt_r1 : List Cond := [Cond.fieldLink RX9 40 "SquareTowerModel" "generators" "[I", Cond.fieldLink RX9 43 "SquareTowerModel" "generatorDegree" "[I", Cond.methodLink RX9 213 yX9_layAll, Cond.instanceMethod yX9_layAll, Cond.selects RX9 yX9_layAll yX9_layAll, Cond.initialized RX9, Cond.code yX9_layAll cX9_layAll 3 none, Cond.fieldLink RX9 139 "SquareTowerModel" "isLaid" "Z", Cond.fieldLink RX9 203 "SquareTowerModel" "manyNothing" "I", Cond.methodLink RX9 210 yX9_lays, Cond.instanceMethod yX9_lays, Cond.selects RX9 yX9_lays yX9_lays, Cond.code yX9_lays cX9_lays 9 none, Cond.fieldLink RX9 181 "SquareTowerModel" "manyRows" "I", Cond.fieldLink RX9 187 "SquareTowerModel" "manyNext" "I", Cond.fieldLink RX9 7 "SquareTowerModel" "begins" "[I", Cond.fieldLink RX9 59 "SquareTowerModel" "now" "[J", Cond.fieldLink RX9 65 "SquareTowerModel" "nextNothing" "[J", Cond.fieldLink RX9 146 "SquareTowerModel" "elements" "I", Cond.fieldLink RX9 34 "SquareTowerModel" "degree" "[I", Cond.fieldLink RX9 62 "SquareTowerModel" "nothing" "[J", Cond.fieldLink RX9 46 "SquareTowerModel" "goesTo" "[J", Cond.methodLink RX9 190 yX9_clearNow, Cond.instanceMethod yX9_clearNow]
def wsX9_liveAt_r2 : List Cond := [Cond.selects RX9 yX9_clearNow yX9_clearNow, Cond.code yX9_clearNow cX9_clearNow 2 none, Cond.methodLink RX9 193 yX9_goes, Cond.instanceMethod yX9_goes, Cond.selects RX9 yX9_goes yX9_goes, Cond.code yX9_goes cX9_goes 15 none, Cond.fieldLink RX9 13 "SquareTowerModel" "long1" "[I", Cond.fieldLink RX9 16 "SquareTowerModel" "part" "[I", Cond.fieldLink RX9 28 "SquareTowerModel" "product" "[I", Cond.methodLink RX9 163 yX9_acted, Cond.instanceMethod yX9_acted, Cond.selects RX9 yX9_acted yX9_acted, Cond.code yX9_acted cX9_acted 5 (some .int), Cond.fieldLink RX9 37 "SquareTowerModel" "acts" "[I", Cond.methodLink RX9 87 yX9_manyOf, Cond.instanceMethod yX9_manyOf, Cond.selects RX9 yX9_manyOf yX9_manyOf, Cond.code yX9_manyOf cX9_manyOf 2 (some .int), Cond.methodLink RX9 178 yX9_turns, Cond.instanceMethod yX9_turns, Cond.selects RX9 yX9_turns yX9_turns, Cond.code yX9_turns cX9_turns 2 none, Cond.methodLink RX9 197 yX9_reduces, Cond.instanceMethod yX9_reduces]
def wsX9_liveAt_r3 : List Cond := [Cond.selects RX9 yX9_reduces yX9_reduces, Cond.code yX9_reduces cX9_reduces 4 (some .int), Cond.fieldLink RX9 56 "SquareTowerModel" "leads" "[I", Cond.fieldLink RX9 53 "SquareTowerModel" "rows" "[J", Cond.methodLink RX9 184 yX9_lead, Cond.instanceMethod yX9_lead, Cond.selects RX9 yX9_lead yX9_lead, Cond.code yX9_lead cX9_lead 3 (some .int), Cond.methodLink RX9 200 yX9_keeps, Cond.instanceMethod yX9_keeps, Cond.selects RX9 yX9_keeps yX9_keeps, Cond.code yX9_keeps cX9_keeps 3 none, Cond.methodLink RX9 206 yX9_comesGenerator, Cond.instanceMethod yX9_comesGenerator, Cond.selects RX9 yX9_comesGenerator yX9_comesGenerator, Cond.code yX9_comesGenerator cX9_comesGenerator 4 none]
def wsX9_liveAt : List Cond := .code yX9_liveAt cX9_liveAt 5 (some .int) :: ((wsX9_liveAt_r1 ++ (wsX9_liveAt_r2 ++ wsX9_liveAt_r3)) ++ wsX90)
def wsX9_live_r1 : List Cond := [Cond.methodLink RX9 216 yX9_isPlace, Cond.static yX9_isPlace, Cond.initialized RX9, Cond.code yX9_isPlace cX9_isPlace 2 (some .boolean), Cond.methodLink RX9 122 yX9_in, Cond.static yX9_in, Cond.code yX9_in cX9_in 3 (some .boolean), Cond.methodLink RX9 219 yX9_isSound, Cond.instanceMethod yX9_isSound, Cond.selects RX9 yX9_isSound yX9_isSound, Cond.code yX9_isSound cX9_isSound 1 (some .boolean), Cond.methodLink RX9 172 yX9_findFault, Cond.instanceMethod yX9_findFault, Cond.selects RX9 yX9_findFault yX9_findFault, Cond.code yX9_findFault cX9_findFault 6 (some .int), Cond.fieldLink RX9 146 "SquareTowerModel" "elements" "I", Cond.fieldLink RX9 166 "SquareTowerModel" "faultA" "I", Cond.fieldLink RX9 169 "SquareTowerModel" "faultB" "I", Cond.methodLink RX9 163 yX9_acted, Cond.instanceMethod yX9_acted, Cond.selects RX9 yX9_acted yX9_acted, Cond.code yX9_acted cX9_acted 5 (some .int), Cond.fieldLink RX9 37 "SquareTowerModel" "acts" "[I", Cond.methodLink RX9 99 yX9_isOdd]
def wsX9_live_r2 : List Cond := [Cond.static yX9_isOdd, Cond.code yX9_isOdd cX9_isOdd 2 (some .boolean), Cond.methodLink RX9 223 yX9_liveAt, Cond.instanceMethod yX9_liveAt, Cond.selects RX9 yX9_liveAt yX9_liveAt, Cond.code yX9_liveAt cX9_liveAt 5 (some .int), Cond.fieldLink RX9 40 "SquareTowerModel" "generators" "[I", Cond.fieldLink RX9 43 "SquareTowerModel" "generatorDegree" "[I", Cond.methodLink RX9 213 yX9_layAll, Cond.instanceMethod yX9_layAll, Cond.selects RX9 yX9_layAll yX9_layAll, Cond.code yX9_layAll cX9_layAll 3 none, Cond.fieldLink RX9 139 "SquareTowerModel" "isLaid" "Z", Cond.fieldLink RX9 203 "SquareTowerModel" "manyNothing" "I", Cond.methodLink RX9 210 yX9_lays, Cond.instanceMethod yX9_lays, Cond.selects RX9 yX9_lays yX9_lays, Cond.code yX9_lays cX9_lays 9 none, Cond.fieldLink RX9 181 "SquareTowerModel" "manyRows" "I", Cond.fieldLink RX9 187 "SquareTowerModel" "manyNext" "I", Cond.fieldLink RX9 7 "SquareTowerModel" "begins" "[I", Cond.fieldLink RX9 59 "SquareTowerModel" "now" "[J", Cond.fieldLink RX9 65 "SquareTowerModel" "nextNothing" "[J", Cond.fieldLink RX9 34 "SquareTowerModel" "degree" "[I"]
def wsX9_live_r3 : List Cond := [Cond.fieldLink RX9 62 "SquareTowerModel" "nothing" "[J", Cond.fieldLink RX9 46 "SquareTowerModel" "goesTo" "[J", Cond.methodLink RX9 190 yX9_clearNow, Cond.instanceMethod yX9_clearNow, Cond.selects RX9 yX9_clearNow yX9_clearNow, Cond.code yX9_clearNow cX9_clearNow 2 none, Cond.methodLink RX9 193 yX9_goes, Cond.instanceMethod yX9_goes, Cond.selects RX9 yX9_goes yX9_goes, Cond.code yX9_goes cX9_goes 15 none, Cond.fieldLink RX9 13 "SquareTowerModel" "long1" "[I", Cond.fieldLink RX9 16 "SquareTowerModel" "part" "[I", Cond.fieldLink RX9 28 "SquareTowerModel" "product" "[I", Cond.methodLink RX9 87 yX9_manyOf, Cond.instanceMethod yX9_manyOf, Cond.selects RX9 yX9_manyOf yX9_manyOf, Cond.code yX9_manyOf cX9_manyOf 2 (some .int), Cond.methodLink RX9 178 yX9_turns, Cond.instanceMethod yX9_turns, Cond.selects RX9 yX9_turns yX9_turns, Cond.code yX9_turns cX9_turns 2 none, Cond.methodLink RX9 197 yX9_reduces, Cond.instanceMethod yX9_reduces, Cond.selects RX9 yX9_reduces yX9_reduces]
def wsX9_live_r4 : List Cond := [Cond.code yX9_reduces cX9_reduces 4 (some .int), Cond.fieldLink RX9 56 "SquareTowerModel" "leads" "[I", Cond.fieldLink RX9 53 "SquareTowerModel" "rows" "[J", Cond.methodLink RX9 184 yX9_lead, Cond.instanceMethod yX9_lead, Cond.selects RX9 yX9_lead yX9_lead, Cond.code yX9_lead cX9_lead 3 (some .int), Cond.methodLink RX9 200 yX9_keeps, Cond.instanceMethod yX9_keeps, Cond.selects RX9 yX9_keeps yX9_keeps, Cond.code yX9_keeps cX9_keeps 3 none, Cond.methodLink RX9 206 yX9_comesGenerator, Cond.instanceMethod yX9_comesGenerator, Cond.selects RX9 yX9_comesGenerator yX9_comesGenerator, Cond.code yX9_comesGenerator cX9_comesGenerator 4 none]
def wsX9_live : List Cond := .code yX9_live cX9_live 3 (some .int) :: ((wsX9_live_r1 ++ (wsX9_live_r2 ++ (wsX9_live_r3 ++ wsX9_live_r4))) ++ wsX90)
def wsX9_rankOf : List Cond := .code yX9_rankOf cX9_rankOf 8 (some .int) :: ([])
def wsX9_joins_r1 : List Cond := [Cond.fieldLink RX9 40 "SquareTowerModel" "generators" "[I", Cond.fieldLink RX9 43 "SquareTowerModel" "generatorDegree" "[I", Cond.fieldLink RX9 68 "SquareTowerModel" "table" "[I", Cond.fieldLink RX9 46 "SquareTowerModel" "goesTo" "[J", Cond.methodLink RX9 122 yX9_in, Cond.static yX9_in, Cond.initialized RX9, Cond.code yX9_in cX9_in 3 (some .boolean), Cond.methodLink RX9 219 yX9_isSound, Cond.instanceMethod yX9_isSound, Cond.selects RX9 yX9_isSound yX9_isSound, Cond.code yX9_isSound cX9_isSound 1 (some .boolean), Cond.methodLink RX9 172 yX9_findFault, Cond.instanceMethod yX9_findFault, Cond.selects RX9 yX9_findFault yX9_findFault, Cond.code yX9_findFault cX9_findFault 6 (some .int), Cond.fieldLink RX9 146 "SquareTowerModel" "elements" "I", Cond.fieldLink RX9 166 "SquareTowerModel" "faultA" "I", Cond.fieldLink RX9 169 "SquareTowerModel" "faultB" "I", Cond.methodLink RX9 163 yX9_acted, Cond.instanceMethod yX9_acted, Cond.selects RX9 yX9_acted yX9_acted, Cond.code yX9_acted cX9_acted 5 (some .int), Cond.fieldLink RX9 37 "SquareTowerModel" "acts" "[I"]
def wsX9_joins_r2 : List Cond := [Cond.methodLink RX9 99 yX9_isOdd, Cond.static yX9_isOdd, Cond.code yX9_isOdd cX9_isOdd 2 (some .boolean), Cond.methodLink RX9 213 yX9_layAll, Cond.instanceMethod yX9_layAll, Cond.selects RX9 yX9_layAll yX9_layAll, Cond.code yX9_layAll cX9_layAll 3 none, Cond.fieldLink RX9 139 "SquareTowerModel" "isLaid" "Z", Cond.fieldLink RX9 203 "SquareTowerModel" "manyNothing" "I", Cond.methodLink RX9 210 yX9_lays, Cond.instanceMethod yX9_lays, Cond.selects RX9 yX9_lays yX9_lays, Cond.code yX9_lays cX9_lays 9 none, Cond.fieldLink RX9 181 "SquareTowerModel" "manyRows" "I", Cond.fieldLink RX9 187 "SquareTowerModel" "manyNext" "I", Cond.fieldLink RX9 7 "SquareTowerModel" "begins" "[I", Cond.fieldLink RX9 59 "SquareTowerModel" "now" "[J", Cond.fieldLink RX9 65 "SquareTowerModel" "nextNothing" "[J", Cond.fieldLink RX9 34 "SquareTowerModel" "degree" "[I", Cond.fieldLink RX9 62 "SquareTowerModel" "nothing" "[J", Cond.methodLink RX9 190 yX9_clearNow, Cond.instanceMethod yX9_clearNow, Cond.selects RX9 yX9_clearNow yX9_clearNow, Cond.code yX9_clearNow cX9_clearNow 2 none]
def wsX9_joins_r3 : List Cond := [Cond.methodLink RX9 193 yX9_goes, Cond.instanceMethod yX9_goes, Cond.selects RX9 yX9_goes yX9_goes, Cond.code yX9_goes cX9_goes 15 none, Cond.fieldLink RX9 13 "SquareTowerModel" "long1" "[I", Cond.fieldLink RX9 16 "SquareTowerModel" "part" "[I", Cond.fieldLink RX9 28 "SquareTowerModel" "product" "[I", Cond.methodLink RX9 87 yX9_manyOf, Cond.instanceMethod yX9_manyOf, Cond.selects RX9 yX9_manyOf yX9_manyOf, Cond.code yX9_manyOf cX9_manyOf 2 (some .int), Cond.methodLink RX9 178 yX9_turns, Cond.instanceMethod yX9_turns, Cond.selects RX9 yX9_turns yX9_turns, Cond.code yX9_turns cX9_turns 2 none, Cond.methodLink RX9 197 yX9_reduces, Cond.instanceMethod yX9_reduces, Cond.selects RX9 yX9_reduces yX9_reduces, Cond.code yX9_reduces cX9_reduces 4 (some .int), Cond.fieldLink RX9 56 "SquareTowerModel" "leads" "[I", Cond.fieldLink RX9 53 "SquareTowerModel" "rows" "[J", Cond.methodLink RX9 184 yX9_lead, Cond.instanceMethod yX9_lead, Cond.selects RX9 yX9_lead yX9_lead]
def wsX9_joins_r4 : List Cond := [Cond.code yX9_lead cX9_lead 3 (some .int), Cond.methodLink RX9 200 yX9_keeps, Cond.instanceMethod yX9_keeps, Cond.selects RX9 yX9_keeps yX9_keeps, Cond.code yX9_keeps cX9_keeps 3 none, Cond.methodLink RX9 206 yX9_comesGenerator, Cond.instanceMethod yX9_comesGenerator, Cond.selects RX9 yX9_comesGenerator yX9_comesGenerator, Cond.code yX9_comesGenerator cX9_comesGenerator 4 none, Cond.methodLink RX9 175 yX9_offset, Cond.instanceMethod yX9_offset, Cond.selects RX9 yX9_offset yX9_offset, Cond.code yX9_offset cX9_offset 7 (some .int), Cond.methodLink RX9 226 yX9_rankOf, Cond.instanceMethod yX9_rankOf, Cond.selects RX9 yX9_rankOf yX9_rankOf, Cond.code yX9_rankOf cX9_rankOf 8 (some .int)]
def wsX9_joins : List Cond := .code yX9_joins cX9_joins 12 (some .int) :: ((wsX9_joins_r1 ++ (wsX9_joins_r2 ++ (wsX9_joins_r3 ++ wsX9_joins_r4))) ++ wsX90)
def wsX9_balance_r1 : List Cond := [Cond.constant RX9 230 (-1000000), Cond.constant RX9 231 (-2000000), Cond.methodLink RX9 122 yX9_in, Cond.static yX9_in, Cond.initialized RX9, Cond.code yX9_in cX9_in 3 (some .boolean), Cond.methodLink RX9 219 yX9_isSound, Cond.instanceMethod yX9_isSound, Cond.selects RX9 yX9_isSound yX9_isSound, Cond.code yX9_isSound cX9_isSound 1 (some .boolean), Cond.methodLink RX9 172 yX9_findFault, Cond.instanceMethod yX9_findFault, Cond.selects RX9 yX9_findFault yX9_findFault, Cond.code yX9_findFault cX9_findFault 6 (some .int), Cond.fieldLink RX9 146 "SquareTowerModel" "elements" "I", Cond.fieldLink RX9 166 "SquareTowerModel" "faultA" "I", Cond.fieldLink RX9 169 "SquareTowerModel" "faultB" "I", Cond.methodLink RX9 163 yX9_acted, Cond.instanceMethod yX9_acted, Cond.selects RX9 yX9_acted yX9_acted, Cond.code yX9_acted cX9_acted 5 (some .int), Cond.fieldLink RX9 37 "SquareTowerModel" "acts" "[I", Cond.methodLink RX9 99 yX9_isOdd, Cond.static yX9_isOdd]
def wsX9_balance_r2 : List Cond := [Cond.code yX9_isOdd cX9_isOdd 2 (some .boolean), Cond.methodLink RX9 213 yX9_layAll, Cond.instanceMethod yX9_layAll, Cond.selects RX9 yX9_layAll yX9_layAll, Cond.code yX9_layAll cX9_layAll 3 none, Cond.fieldLink RX9 139 "SquareTowerModel" "isLaid" "Z", Cond.fieldLink RX9 40 "SquareTowerModel" "generators" "[I", Cond.fieldLink RX9 203 "SquareTowerModel" "manyNothing" "I", Cond.methodLink RX9 210 yX9_lays, Cond.instanceMethod yX9_lays, Cond.selects RX9 yX9_lays yX9_lays, Cond.code yX9_lays cX9_lays 9 none, Cond.fieldLink RX9 181 "SquareTowerModel" "manyRows" "I", Cond.fieldLink RX9 187 "SquareTowerModel" "manyNext" "I", Cond.fieldLink RX9 43 "SquareTowerModel" "generatorDegree" "[I", Cond.fieldLink RX9 7 "SquareTowerModel" "begins" "[I", Cond.fieldLink RX9 59 "SquareTowerModel" "now" "[J", Cond.fieldLink RX9 65 "SquareTowerModel" "nextNothing" "[J", Cond.fieldLink RX9 34 "SquareTowerModel" "degree" "[I", Cond.fieldLink RX9 62 "SquareTowerModel" "nothing" "[J", Cond.fieldLink RX9 46 "SquareTowerModel" "goesTo" "[J", Cond.methodLink RX9 190 yX9_clearNow, Cond.instanceMethod yX9_clearNow, Cond.selects RX9 yX9_clearNow yX9_clearNow]
def wsX9_balance_r3 : List Cond := [Cond.code yX9_clearNow cX9_clearNow 2 none, Cond.methodLink RX9 193 yX9_goes, Cond.instanceMethod yX9_goes, Cond.selects RX9 yX9_goes yX9_goes, Cond.code yX9_goes cX9_goes 15 none, Cond.fieldLink RX9 13 "SquareTowerModel" "long1" "[I", Cond.fieldLink RX9 16 "SquareTowerModel" "part" "[I", Cond.fieldLink RX9 28 "SquareTowerModel" "product" "[I", Cond.methodLink RX9 87 yX9_manyOf, Cond.instanceMethod yX9_manyOf, Cond.selects RX9 yX9_manyOf yX9_manyOf, Cond.code yX9_manyOf cX9_manyOf 2 (some .int), Cond.methodLink RX9 178 yX9_turns, Cond.instanceMethod yX9_turns, Cond.selects RX9 yX9_turns yX9_turns, Cond.code yX9_turns cX9_turns 2 none, Cond.methodLink RX9 197 yX9_reduces, Cond.instanceMethod yX9_reduces, Cond.selects RX9 yX9_reduces yX9_reduces, Cond.code yX9_reduces cX9_reduces 4 (some .int), Cond.fieldLink RX9 56 "SquareTowerModel" "leads" "[I", Cond.fieldLink RX9 53 "SquareTowerModel" "rows" "[J", Cond.methodLink RX9 184 yX9_lead, Cond.instanceMethod yX9_lead]
def wsX9_balance_r4 : List Cond := [Cond.selects RX9 yX9_lead yX9_lead, Cond.code yX9_lead cX9_lead 3 (some .int), Cond.methodLink RX9 200 yX9_keeps, Cond.instanceMethod yX9_keeps, Cond.selects RX9 yX9_keeps yX9_keeps, Cond.code yX9_keeps cX9_keeps 3 none, Cond.methodLink RX9 206 yX9_comesGenerator, Cond.instanceMethod yX9_comesGenerator, Cond.selects RX9 yX9_comesGenerator yX9_comesGenerator, Cond.code yX9_comesGenerator cX9_comesGenerator 4 none, Cond.methodLink RX9 160 yX9_ofDegree, Cond.instanceMethod yX9_ofDegree, Cond.selects RX9 yX9_ofDegree yX9_ofDegree, Cond.code yX9_ofDegree cX9_ofDegree 4 (some .int), Cond.methodLink RX9 136 yX9_ones, Cond.static yX9_ones, Cond.code yX9_ones cX9_ones 3 (some .int), Cond.methodLink RX9 232 yX9_wide, Cond.instanceMethod yX9_wide, Cond.selects RX9 yX9_wide yX9_wide, Cond.code yX9_wide cX9_wide 3 (some .int), Cond.methodLink RX9 175 yX9_offset, Cond.instanceMethod yX9_offset, Cond.selects RX9 yX9_offset yX9_offset]
def wsX9_balance_r5 : List Cond := [Cond.code yX9_offset cX9_offset 7 (some .int)]
def wsX9_balance : List Cond := .code yX9_balance cX9_balance 4 (some .int) :: ((wsX9_balance_r1 ++ (wsX9_balance_r2 ++ (wsX9_balance_r3 ++ (wsX9_balance_r4 ++ wsX9_balance_r5)))) ++ wsX90)
def wsX9_rankAt : List Cond := .code yX9_rankAt cX9_rankAt 4 (some .int) :: ([.fieldLink RX9 50 "SquareTowerModel" "rank" "[I", .methodLink RX9 216 yX9_isPlace, .static yX9_isPlace, .initialized RX9, .code yX9_isPlace cX9_isPlace 2 (some .boolean), .methodLink RX9 122 yX9_in, .static yX9_in, .code yX9_in cX9_in 3 (some .boolean)] ++ wsX90)
def wsX9_rankBoth : List Cond := .code yX9_rankBoth cX9_rankBoth 4 (some .int) :: ([.methodLink RX9 235 yX9_rankAt, .instanceMethod yX9_rankAt, .selects RX9 yX9_rankAt yX9_rankAt, .initialized RX9, .code yX9_rankAt cX9_rankAt 4 (some .int), .fieldLink RX9 50 "SquareTowerModel" "rank" "[I", .methodLink RX9 216 yX9_isPlace, .static yX9_isPlace, .code yX9_isPlace cX9_isPlace 2 (some .boolean), .methodLink RX9 122 yX9_in, .static yX9_in, .code yX9_in cX9_in 3 (some .boolean)] ++ wsX90)
def wsX9_pageAt_r1 : List Cond := [Cond.methodLink RX9 223 yX9_liveAt, Cond.instanceMethod yX9_liveAt, Cond.selects RX9 yX9_liveAt yX9_liveAt, Cond.initialized RX9, Cond.code yX9_liveAt cX9_liveAt 5 (some .int), Cond.fieldLink RX9 40 "SquareTowerModel" "generators" "[I", Cond.fieldLink RX9 43 "SquareTowerModel" "generatorDegree" "[I", Cond.methodLink RX9 213 yX9_layAll, Cond.instanceMethod yX9_layAll, Cond.selects RX9 yX9_layAll yX9_layAll, Cond.code yX9_layAll cX9_layAll 3 none, Cond.fieldLink RX9 139 "SquareTowerModel" "isLaid" "Z", Cond.fieldLink RX9 203 "SquareTowerModel" "manyNothing" "I", Cond.methodLink RX9 210 yX9_lays, Cond.instanceMethod yX9_lays, Cond.selects RX9 yX9_lays yX9_lays, Cond.code yX9_lays cX9_lays 9 none, Cond.fieldLink RX9 181 "SquareTowerModel" "manyRows" "I", Cond.fieldLink RX9 187 "SquareTowerModel" "manyNext" "I", Cond.fieldLink RX9 7 "SquareTowerModel" "begins" "[I", Cond.fieldLink RX9 59 "SquareTowerModel" "now" "[J", Cond.fieldLink RX9 65 "SquareTowerModel" "nextNothing" "[J", Cond.fieldLink RX9 146 "SquareTowerModel" "elements" "I", Cond.fieldLink RX9 34 "SquareTowerModel" "degree" "[I"]
def wsX9_pageAt_r2 : List Cond := [Cond.fieldLink RX9 62 "SquareTowerModel" "nothing" "[J", Cond.fieldLink RX9 46 "SquareTowerModel" "goesTo" "[J", Cond.methodLink RX9 190 yX9_clearNow, Cond.instanceMethod yX9_clearNow, Cond.selects RX9 yX9_clearNow yX9_clearNow, Cond.code yX9_clearNow cX9_clearNow 2 none, Cond.methodLink RX9 193 yX9_goes, Cond.instanceMethod yX9_goes, Cond.selects RX9 yX9_goes yX9_goes, Cond.code yX9_goes cX9_goes 15 none, Cond.fieldLink RX9 13 "SquareTowerModel" "long1" "[I", Cond.fieldLink RX9 16 "SquareTowerModel" "part" "[I", Cond.fieldLink RX9 28 "SquareTowerModel" "product" "[I", Cond.methodLink RX9 163 yX9_acted, Cond.instanceMethod yX9_acted, Cond.selects RX9 yX9_acted yX9_acted, Cond.code yX9_acted cX9_acted 5 (some .int), Cond.fieldLink RX9 37 "SquareTowerModel" "acts" "[I", Cond.methodLink RX9 87 yX9_manyOf, Cond.instanceMethod yX9_manyOf, Cond.selects RX9 yX9_manyOf yX9_manyOf, Cond.code yX9_manyOf cX9_manyOf 2 (some .int), Cond.methodLink RX9 178 yX9_turns, Cond.instanceMethod yX9_turns]
def wsX9_pageAt_r3 : List Cond := [Cond.selects RX9 yX9_turns yX9_turns, Cond.code yX9_turns cX9_turns 2 none, Cond.methodLink RX9 197 yX9_reduces, Cond.instanceMethod yX9_reduces, Cond.selects RX9 yX9_reduces yX9_reduces, Cond.code yX9_reduces cX9_reduces 4 (some .int), Cond.fieldLink RX9 56 "SquareTowerModel" "leads" "[I", Cond.fieldLink RX9 53 "SquareTowerModel" "rows" "[J", Cond.methodLink RX9 184 yX9_lead, Cond.instanceMethod yX9_lead, Cond.selects RX9 yX9_lead yX9_lead, Cond.code yX9_lead cX9_lead 3 (some .int), Cond.methodLink RX9 200 yX9_keeps, Cond.instanceMethod yX9_keeps, Cond.selects RX9 yX9_keeps yX9_keeps, Cond.code yX9_keeps cX9_keeps 3 none, Cond.methodLink RX9 206 yX9_comesGenerator, Cond.instanceMethod yX9_comesGenerator, Cond.selects RX9 yX9_comesGenerator yX9_comesGenerator, Cond.code yX9_comesGenerator cX9_comesGenerator 4 none, Cond.methodLink RX9 238 yX9_rankBoth, Cond.instanceMethod yX9_rankBoth, Cond.selects RX9 yX9_rankBoth yX9_rankBoth, Cond.code yX9_rankBoth cX9_rankBoth 4 (some .int)]
def wsX9_pageAt_r4 : List Cond := [Cond.methodLink RX9 235 yX9_rankAt, Cond.instanceMethod yX9_rankAt, Cond.selects RX9 yX9_rankAt yX9_rankAt, Cond.code yX9_rankAt cX9_rankAt 4 (some .int), Cond.fieldLink RX9 50 "SquareTowerModel" "rank" "[I", Cond.methodLink RX9 216 yX9_isPlace, Cond.static yX9_isPlace, Cond.code yX9_isPlace cX9_isPlace 2 (some .boolean), Cond.methodLink RX9 122 yX9_in, Cond.static yX9_in, Cond.code yX9_in cX9_in 3 (some .boolean)]
def wsX9_pageAt : List Cond := .code yX9_pageAt cX9_pageAt 6 (some .int) :: ((wsX9_pageAt_r1 ++ (wsX9_pageAt_r2 ++ (wsX9_pageAt_r3 ++ wsX9_pageAt_r4))) ++ wsX90)
def wsX9_differ_r1 : List Cond := [Cond.fieldLink RX9 50 "SquareTowerModel" "rank" "[I", Cond.fieldLink RX9 143 "SquareTowerModel" "differences" "I", Cond.methodLink RX9 122 yX9_in, Cond.static yX9_in, Cond.initialized RX9, Cond.code yX9_in cX9_in 3 (some .boolean), Cond.methodLink RX9 216 yX9_isPlace, Cond.static yX9_isPlace, Cond.code yX9_isPlace cX9_isPlace 2 (some .boolean), Cond.methodLink RX9 219 yX9_isSound, Cond.instanceMethod yX9_isSound, Cond.selects RX9 yX9_isSound yX9_isSound, Cond.code yX9_isSound cX9_isSound 1 (some .boolean), Cond.methodLink RX9 172 yX9_findFault, Cond.instanceMethod yX9_findFault, Cond.selects RX9 yX9_findFault yX9_findFault, Cond.code yX9_findFault cX9_findFault 6 (some .int), Cond.fieldLink RX9 146 "SquareTowerModel" "elements" "I", Cond.fieldLink RX9 166 "SquareTowerModel" "faultA" "I", Cond.fieldLink RX9 169 "SquareTowerModel" "faultB" "I", Cond.methodLink RX9 163 yX9_acted, Cond.instanceMethod yX9_acted, Cond.selects RX9 yX9_acted yX9_acted, Cond.code yX9_acted cX9_acted 5 (some .int)]
def wsX9_differ_r2 : List Cond := [Cond.fieldLink RX9 37 "SquareTowerModel" "acts" "[I", Cond.methodLink RX9 99 yX9_isOdd, Cond.static yX9_isOdd, Cond.code yX9_isOdd cX9_isOdd 2 (some .boolean), Cond.methodLink RX9 235 yX9_rankAt, Cond.instanceMethod yX9_rankAt, Cond.selects RX9 yX9_rankAt yX9_rankAt, Cond.code yX9_rankAt cX9_rankAt 4 (some .int), Cond.methodLink RX9 238 yX9_rankBoth, Cond.instanceMethod yX9_rankBoth, Cond.selects RX9 yX9_rankBoth yX9_rankBoth, Cond.code yX9_rankBoth cX9_rankBoth 4 (some .int), Cond.methodLink RX9 241 yX9_pageAt, Cond.instanceMethod yX9_pageAt, Cond.selects RX9 yX9_pageAt yX9_pageAt, Cond.code yX9_pageAt cX9_pageAt 6 (some .int), Cond.methodLink RX9 223 yX9_liveAt, Cond.instanceMethod yX9_liveAt, Cond.selects RX9 yX9_liveAt yX9_liveAt, Cond.code yX9_liveAt cX9_liveAt 5 (some .int), Cond.fieldLink RX9 40 "SquareTowerModel" "generators" "[I", Cond.fieldLink RX9 43 "SquareTowerModel" "generatorDegree" "[I", Cond.methodLink RX9 213 yX9_layAll, Cond.instanceMethod yX9_layAll]
def wsX9_differ_r3 : List Cond := [Cond.selects RX9 yX9_layAll yX9_layAll, Cond.code yX9_layAll cX9_layAll 3 none, Cond.fieldLink RX9 139 "SquareTowerModel" "isLaid" "Z", Cond.fieldLink RX9 203 "SquareTowerModel" "manyNothing" "I", Cond.methodLink RX9 210 yX9_lays, Cond.instanceMethod yX9_lays, Cond.selects RX9 yX9_lays yX9_lays, Cond.code yX9_lays cX9_lays 9 none, Cond.fieldLink RX9 181 "SquareTowerModel" "manyRows" "I", Cond.fieldLink RX9 187 "SquareTowerModel" "manyNext" "I", Cond.fieldLink RX9 7 "SquareTowerModel" "begins" "[I", Cond.fieldLink RX9 59 "SquareTowerModel" "now" "[J", Cond.fieldLink RX9 65 "SquareTowerModel" "nextNothing" "[J", Cond.fieldLink RX9 34 "SquareTowerModel" "degree" "[I", Cond.fieldLink RX9 62 "SquareTowerModel" "nothing" "[J", Cond.fieldLink RX9 46 "SquareTowerModel" "goesTo" "[J", Cond.methodLink RX9 190 yX9_clearNow, Cond.instanceMethod yX9_clearNow, Cond.selects RX9 yX9_clearNow yX9_clearNow, Cond.code yX9_clearNow cX9_clearNow 2 none, Cond.methodLink RX9 193 yX9_goes, Cond.instanceMethod yX9_goes, Cond.selects RX9 yX9_goes yX9_goes, Cond.code yX9_goes cX9_goes 15 none]
def wsX9_differ_r4 : List Cond := [Cond.fieldLink RX9 13 "SquareTowerModel" "long1" "[I", Cond.fieldLink RX9 16 "SquareTowerModel" "part" "[I", Cond.fieldLink RX9 28 "SquareTowerModel" "product" "[I", Cond.methodLink RX9 87 yX9_manyOf, Cond.instanceMethod yX9_manyOf, Cond.selects RX9 yX9_manyOf yX9_manyOf, Cond.code yX9_manyOf cX9_manyOf 2 (some .int), Cond.methodLink RX9 178 yX9_turns, Cond.instanceMethod yX9_turns, Cond.selects RX9 yX9_turns yX9_turns, Cond.code yX9_turns cX9_turns 2 none, Cond.methodLink RX9 197 yX9_reduces, Cond.instanceMethod yX9_reduces, Cond.selects RX9 yX9_reduces yX9_reduces, Cond.code yX9_reduces cX9_reduces 4 (some .int), Cond.fieldLink RX9 56 "SquareTowerModel" "leads" "[I", Cond.fieldLink RX9 53 "SquareTowerModel" "rows" "[J", Cond.methodLink RX9 184 yX9_lead, Cond.instanceMethod yX9_lead, Cond.selects RX9 yX9_lead yX9_lead, Cond.code yX9_lead cX9_lead 3 (some .int), Cond.methodLink RX9 200 yX9_keeps, Cond.instanceMethod yX9_keeps, Cond.selects RX9 yX9_keeps yX9_keeps]
def wsX9_differ_r5 : List Cond := [Cond.code yX9_keeps cX9_keeps 3 none, Cond.methodLink RX9 206 yX9_comesGenerator, Cond.instanceMethod yX9_comesGenerator, Cond.selects RX9 yX9_comesGenerator yX9_comesGenerator, Cond.code yX9_comesGenerator cX9_comesGenerator 4 none]
def wsX9_differ : List Cond := .code yX9_differ cX9_differ 6 (some .int) :: ((wsX9_differ_r1 ++ (wsX9_differ_r2 ++ (wsX9_differ_r3 ++ (wsX9_differ_r4 ++ wsX9_differ_r5)))) ++ wsX90)
def wsX9_page_r1 : List Cond := [Cond.methodLink RX9 122 yX9_in, Cond.static yX9_in, Cond.initialized RX9, Cond.code yX9_in cX9_in 3 (some .boolean), Cond.methodLink RX9 216 yX9_isPlace, Cond.static yX9_isPlace, Cond.code yX9_isPlace cX9_isPlace 2 (some .boolean), Cond.methodLink RX9 219 yX9_isSound, Cond.instanceMethod yX9_isSound, Cond.selects RX9 yX9_isSound yX9_isSound, Cond.code yX9_isSound cX9_isSound 1 (some .boolean), Cond.methodLink RX9 172 yX9_findFault, Cond.instanceMethod yX9_findFault, Cond.selects RX9 yX9_findFault yX9_findFault, Cond.code yX9_findFault cX9_findFault 6 (some .int), Cond.fieldLink RX9 146 "SquareTowerModel" "elements" "I", Cond.fieldLink RX9 166 "SquareTowerModel" "faultA" "I", Cond.fieldLink RX9 169 "SquareTowerModel" "faultB" "I", Cond.methodLink RX9 163 yX9_acted, Cond.instanceMethod yX9_acted, Cond.selects RX9 yX9_acted yX9_acted, Cond.code yX9_acted cX9_acted 5 (some .int), Cond.fieldLink RX9 37 "SquareTowerModel" "acts" "[I", Cond.methodLink RX9 99 yX9_isOdd]
def wsX9_page_r2 : List Cond := [Cond.static yX9_isOdd, Cond.code yX9_isOdd cX9_isOdd 2 (some .boolean), Cond.methodLink RX9 241 yX9_pageAt, Cond.instanceMethod yX9_pageAt, Cond.selects RX9 yX9_pageAt yX9_pageAt, Cond.code yX9_pageAt cX9_pageAt 6 (some .int), Cond.methodLink RX9 223 yX9_liveAt, Cond.instanceMethod yX9_liveAt, Cond.selects RX9 yX9_liveAt yX9_liveAt, Cond.code yX9_liveAt cX9_liveAt 5 (some .int), Cond.fieldLink RX9 40 "SquareTowerModel" "generators" "[I", Cond.fieldLink RX9 43 "SquareTowerModel" "generatorDegree" "[I", Cond.methodLink RX9 213 yX9_layAll, Cond.instanceMethod yX9_layAll, Cond.selects RX9 yX9_layAll yX9_layAll, Cond.code yX9_layAll cX9_layAll 3 none, Cond.fieldLink RX9 139 "SquareTowerModel" "isLaid" "Z", Cond.fieldLink RX9 203 "SquareTowerModel" "manyNothing" "I", Cond.methodLink RX9 210 yX9_lays, Cond.instanceMethod yX9_lays, Cond.selects RX9 yX9_lays yX9_lays, Cond.code yX9_lays cX9_lays 9 none, Cond.fieldLink RX9 181 "SquareTowerModel" "manyRows" "I", Cond.fieldLink RX9 187 "SquareTowerModel" "manyNext" "I"]
def wsX9_page_r3 : List Cond := [Cond.fieldLink RX9 7 "SquareTowerModel" "begins" "[I", Cond.fieldLink RX9 59 "SquareTowerModel" "now" "[J", Cond.fieldLink RX9 65 "SquareTowerModel" "nextNothing" "[J", Cond.fieldLink RX9 34 "SquareTowerModel" "degree" "[I", Cond.fieldLink RX9 62 "SquareTowerModel" "nothing" "[J", Cond.fieldLink RX9 46 "SquareTowerModel" "goesTo" "[J", Cond.methodLink RX9 190 yX9_clearNow, Cond.instanceMethod yX9_clearNow, Cond.selects RX9 yX9_clearNow yX9_clearNow, Cond.code yX9_clearNow cX9_clearNow 2 none, Cond.methodLink RX9 193 yX9_goes, Cond.instanceMethod yX9_goes, Cond.selects RX9 yX9_goes yX9_goes, Cond.code yX9_goes cX9_goes 15 none, Cond.fieldLink RX9 13 "SquareTowerModel" "long1" "[I", Cond.fieldLink RX9 16 "SquareTowerModel" "part" "[I", Cond.fieldLink RX9 28 "SquareTowerModel" "product" "[I", Cond.methodLink RX9 87 yX9_manyOf, Cond.instanceMethod yX9_manyOf, Cond.selects RX9 yX9_manyOf yX9_manyOf, Cond.code yX9_manyOf cX9_manyOf 2 (some .int), Cond.methodLink RX9 178 yX9_turns, Cond.instanceMethod yX9_turns, Cond.selects RX9 yX9_turns yX9_turns]
def wsX9_page_r4 : List Cond := [Cond.code yX9_turns cX9_turns 2 none, Cond.methodLink RX9 197 yX9_reduces, Cond.instanceMethod yX9_reduces, Cond.selects RX9 yX9_reduces yX9_reduces, Cond.code yX9_reduces cX9_reduces 4 (some .int), Cond.fieldLink RX9 56 "SquareTowerModel" "leads" "[I", Cond.fieldLink RX9 53 "SquareTowerModel" "rows" "[J", Cond.methodLink RX9 184 yX9_lead, Cond.instanceMethod yX9_lead, Cond.selects RX9 yX9_lead yX9_lead, Cond.code yX9_lead cX9_lead 3 (some .int), Cond.methodLink RX9 200 yX9_keeps, Cond.instanceMethod yX9_keeps, Cond.selects RX9 yX9_keeps yX9_keeps, Cond.code yX9_keeps cX9_keeps 3 none, Cond.methodLink RX9 206 yX9_comesGenerator, Cond.instanceMethod yX9_comesGenerator, Cond.selects RX9 yX9_comesGenerator yX9_comesGenerator, Cond.code yX9_comesGenerator cX9_comesGenerator 4 none, Cond.methodLink RX9 238 yX9_rankBoth, Cond.instanceMethod yX9_rankBoth, Cond.selects RX9 yX9_rankBoth yX9_rankBoth, Cond.code yX9_rankBoth cX9_rankBoth 4 (some .int), Cond.methodLink RX9 235 yX9_rankAt]
def wsX9_page_r5 : List Cond := [Cond.instanceMethod yX9_rankAt, Cond.selects RX9 yX9_rankAt yX9_rankAt, Cond.code yX9_rankAt cX9_rankAt 4 (some .int), Cond.fieldLink RX9 50 "SquareTowerModel" "rank" "[I"]
def wsX9_page : List Cond := .code yX9_page cX9_page 4 (some .int) :: ((wsX9_page_r1 ++ (wsX9_page_r2 ++ (wsX9_page_r3 ++ (wsX9_page_r4 ++ wsX9_page_r5)))) ++ wsX90)
def wsX9_count : List Cond := .code yX9_count cX9_count 2 (some .int) :: ([.fieldLink RX9 119 "SquareTowerModel" "wordSize" "I", .fieldLink RX9 146 "SquareTowerModel" "elements" "I", .fieldLink RX9 143 "SquareTowerModel" "differences" "I", .methodLink RX9 126 yX9_wordDegree, .instanceMethod yX9_wordDegree, .selects RX9 yX9_wordDegree yX9_wordDegree, .initialized RX9, .code yX9_wordDegree cX9_wordDegree 3 (some .int), .fieldLink RX9 31 "SquareTowerModel" "word" "[I"] ++ wsX90)
def wsJ9_max_7cf53 : List Cond := .code yJ9_max_7cf53 cJ9_max_7cf53 2 (some .int) :: ([])
def wsJ9_min_7cf53 : List Cond := .code yJ9_min_7cf53 cJ9_min_7cf53 2 (some .int) :: ([])
def wsL_law_r1 : List Cond := [Cond.classLink RL 7 RX8, Cond.instantiable RX8 10, Cond.initialized RX8, Cond.classLink RL 10 RX9, Cond.instantiable RX9 30, Cond.initialized RX9, Cond.methodLink RL 9 yX8_init, Cond.instanceMethod yX8_init, Cond.code yX8_init cX8_init 5 none, Cond.methodLink RX8 3 objectInit, Cond.instanceMethod objectInit, Cond.code objectInit ⟨#[0xb1]⟩ 1 none, Cond.classLink RX8 9 RX0, Cond.instantiable RX0 2, Cond.initialized RX0, Cond.classLink RX8 14 RX6, Cond.instantiable RX6 2, Cond.initialized RX6, Cond.classLink RX8 19 RX5, Cond.instantiable RX5 5, Cond.initialized RX5, Cond.fieldLink RX8 22 "SquareTower" "allowed" "LSquareTower$Basis;", Cond.fieldLink RX8 26 "SquareTower" "rows" "LSquareTower$Basis;", Cond.fieldLink RX8 29 "SquareTower" "squares" "LSquareTower$Squares;"]
def wsL_law_r2 : List Cond := [Cond.classLink RX8 33 RX4, Cond.instantiable RX4 1, Cond.initialized RX4, Cond.fieldLink RX8 36 "SquareTower" "rowProduct" "LSquareTower$RowProduct;", Cond.fieldLink RX8 40 "SquareTower" "space" "LSquareTower$Space;", Cond.classLink RX8 44 RX7, Cond.instantiable RX7 12, Cond.initialized RX7, Cond.fieldLink RX8 49 "SquareTower" "tower" "LSquareTower$Tower;", Cond.classLink RX8 53 RX2, Cond.instantiable RX2 1, Cond.initialized RX2, Cond.fieldLink RX8 56 "SquareTower" "chart" "LSquareTower$Chart;", Cond.arrayClass .int, Cond.fieldLink RX8 60 "SquareTower" "chain" "[I", Cond.fieldLink RX8 64 "SquareTower" "length" "I", Cond.fieldLink RX8 68 "SquareTower" "degree" "I", Cond.methodLink RX8 11 yX0_init, Cond.instanceMethod yX0_init, Cond.code yX0_init cX0_init 10 none, Cond.methodLink RX0 3 objectInit, Cond.fieldLink RX0 9 "SquareTower$Basis" "numbers" "[I", Cond.fieldLink RX0 15 "SquareTower$Basis" "starts" "[I", Cond.methodLink RX0 18 yX0_share]
def wsL_law_r3 : List Cond := [Cond.static yX0_share, Cond.code yX0_share cX0_share 2 (some .int), Cond.methodLink RX8 16 yX6_init, Cond.instanceMethod yX6_init, Cond.code yX6_init cX6_init 2 none, Cond.methodLink RX6 3 objectInit, Cond.fieldLink RX6 9 "SquareTower$Squares" "products" "[I", Cond.fieldLink RX6 15 "SquareTower$Squares" "allowed" "LSquareTower$Basis;", Cond.methodLink RX6 19 yX6_fillUnit, Cond.instanceMethod yX6_fillUnit, Cond.selects RX6 yX6_fillUnit yX6_fillUnit, Cond.code yX6_fillUnit cX6_fillUnit 3 none, Cond.methodLink RX6 28 yX0_start, Cond.instanceMethod yX0_start, Cond.selects RX0 yX0_start yX0_start, Cond.code yX0_start cX0_start 2 (some .int), Cond.methodLink RX0 22 Lib.Math.min.name, Cond.static Lib.Math.min.name, Cond.initialized "java/lang/Math", Cond.code Lib.Math.min.name Lib.Math.min.code 2 (some .int), Cond.methodLink RX0 27 Lib.Math.max.name, Cond.static Lib.Math.max.name, Cond.code Lib.Math.max.name Lib.Math.max.code 2 (some .int), Cond.methodLink RX6 34 yX0_bit]
def wsL_law_r4 : List Cond := [Cond.instanceMethod yX0_bit, Cond.selects RX0 yX0_bit yX0_bit, Cond.code yX0_bit cX0_bit 4 (some .int), Cond.methodLink RX0 30 yX0_start, Cond.methodLink RX0 37 yX0_size, Cond.instanceMethod yX0_size, Cond.selects RX0 yX0_size yX0_size, Cond.code yX0_size cX0_size 2 (some .int), Cond.methodLink RX6 38 yX6_put, Cond.instanceMethod yX6_put, Cond.selects RX6 yX6_put yX6_put, Cond.code yX6_put cX6_put 4 none, Cond.methodLink RX6 22 yX6_fillSingles, Cond.instanceMethod yX6_fillSingles, Cond.selects RX6 yX6_fillSingles yX6_fillSingles, Cond.code yX6_fillSingles cX6_fillSingles 4 none, Cond.methodLink RX6 42 yX6_single, Cond.instanceMethod yX6_single, Cond.selects RX6 yX6_single yX6_single, Cond.code yX6_single cX6_single 2 (some .int), Cond.methodLink RX6 45 yX6_timesTerm, Cond.instanceMethod yX6_timesTerm, Cond.selects RX6 yX6_timesTerm yX6_timesTerm, Cond.code yX6_timesTerm cX6_timesTerm 10 (some .int)]
def wsL_law_r5 : List Cond := [Cond.methodLink RX6 49 yX0_numberAt, Cond.instanceMethod yX0_numberAt, Cond.selects RX0 yX0_numberAt yX0_numberAt, Cond.code yX0_numberAt cX0_numberAt 3 (some .int), Cond.methodLink RX6 52 yX0_find, Cond.instanceMethod yX0_find, Cond.selects RX0 yX0_find yX0_find, Cond.code yX0_find cX0_find 6 (some .int), Cond.methodLink RX0 34 yX0_numberAt, Cond.static yX8_isOdd, Cond.code yX8_isOdd cX8_isOdd 2 (some .boolean), Cond.methodLink RX6 56 yX6_product, Cond.instanceMethod yX6_product, Cond.selects RX6 yX6_product yX6_product, Cond.code yX6_product cX6_product 3 (some .int), Cond.methodLink RX6 59 yX6_timesSum, Cond.instanceMethod yX6_timesSum, Cond.selects RX6 yX6_timesSum yX6_timesSum, Cond.code yX6_timesSum cX6_timesSum 7 (some .int), Cond.methodLink RX6 66 yX0_size, Cond.methodLink RX6 25 yX6_fillLonger, Cond.instanceMethod yX6_fillLonger, Cond.selects RX6 yX6_fillLonger yX6_fillLonger, Cond.code yX6_fillLonger cX6_fillLonger 7 none]
def wsL_law_r6 : List Cond := [Cond.instanceMethod yX5_init, Cond.code yX5_init cX5_init 1 none, Cond.methodLink RX5 3 objectInit, Cond.fieldLink RX5 9 "SquareTower$Space" "degrees" "[I", Cond.fieldLink RX5 15 "SquareTower$Space" "acts" "[I", Cond.fieldLink RX5 18 "SquareTower$Space" "faults" "[I", Cond.methodLink RX8 35 yX4_init, Cond.instanceMethod yX4_init, Cond.code yX4_init cX4_init 2 none, Cond.methodLink RX4 1 objectInit, Cond.fieldLink RX4 7 "SquareTower$RowProduct" "rows" "LSquareTower$Basis;", Cond.methodLink RX8 46 yX7_init, Cond.instanceMethod yX7_init, Cond.code yX7_init cX7_init 5 none, Cond.methodLink RX7 3 objectInit, Cond.classLink RX7 9 RX3, Cond.fieldLink RX7 11 "SquareTower$Tower" "floors" "[LSquareTower$Floor;", Cond.classLink RX7 17 RX1, Cond.fieldLink RX7 19 "SquareTower$Tower" "kernels" "[LSquareTower$BitRows;", Cond.instantiable RX1 3, Cond.initialized RX1, Cond.fieldLink RX7 26 "SquareTower$Tower" "values" "LSquareTower$BitRows;", Cond.fieldLink RX7 30 "SquareTower$Tower" "sources" "LSquareTower$BitRows;", Cond.fieldLink RX7 33 "SquareTower$Tower" "pivots" "[I"]
def wsL_law_r7 : List Cond := [Cond.fieldLink RX7 37 "SquareTower$Tower" "chainAt" "[I", Cond.fieldLink RX7 40 "SquareTower$Tower" "targetAt" "[I", Cond.fieldLink RX7 43 "SquareTower$Tower" "kept" "[I", Cond.fieldLink RX7 46 "SquareTower$Tower" "allowed" "LSquareTower$Basis;", Cond.fieldLink RX7 50 "SquareTower$Tower" "squares" "LSquareTower$Squares;", Cond.fieldLink RX7 54 "SquareTower$Tower" "space" "LSquareTower$Space;", Cond.instantiable RX3 4, Cond.initialized RX3, Cond.methodLink RX7 23 yX1_init, Cond.instanceMethod yX1_init, Cond.code yX1_init cX1_init 2 none, Cond.methodLink RX1 3 objectInit, Cond.methodLink RX1 9 Lib.Math.max.name, Cond.arrayClass .long, Cond.fieldLink RX1 15 "SquareTower$BitRows" "cells" "[J", Cond.fieldLink RX1 21 "SquareTower$BitRows" "words" "I", Cond.fieldLink RX1 25 "SquareTower$BitRows" "count" "I", Cond.methodLink RX7 58 yX3_init, Cond.instanceMethod yX3_init, Cond.code yX3_init cX3_init 2 none, Cond.methodLink RX3 3 objectInit, Cond.fieldLink RX3 9 "SquareTower$Floor" "degrees" "[I", Cond.classLink RX3 15 RX1, Cond.fieldLink RX3 20 "SquareTower$Floor" "goals" "LSquareTower$BitRows;"]
def wsL_law_r8 : List Cond := [Cond.fieldLink RX3 24 "SquareTower$Floor" "allowed" "LSquareTower$Basis;", Cond.methodLink RX3 17 yX1_init, Cond.instanceMethod yX2_init, Cond.code yX2_init cX2_init 1 none, Cond.methodLink RX2 3 objectInit, Cond.fieldLink RX2 9 "SquareTower$Chart" "ranks" "[I", Cond.methodLink RL 12 yX9_init, Cond.instanceMethod yX9_init, Cond.code yX9_init cX9_init 1 none, Cond.methodLink RX9 1 objectInit, Cond.fieldLink RX9 7 "SquareTowerModel" "begins" "[I", Cond.fieldLink RX9 13 "SquareTowerModel" "long1" "[I", Cond.fieldLink RX9 16 "SquareTowerModel" "part" "[I", Cond.fieldLink RX9 19 "SquareTowerModel" "row" "[I", Cond.fieldLink RX9 22 "SquareTowerModel" "squared" "[I", Cond.fieldLink RX9 25 "SquareTowerModel" "squaredRow" "[I", Cond.fieldLink RX9 28 "SquareTowerModel" "product" "[I", Cond.fieldLink RX9 31 "SquareTowerModel" "word" "[I", Cond.fieldLink RX9 34 "SquareTowerModel" "degree" "[I", Cond.fieldLink RX9 37 "SquareTowerModel" "acts" "[I", Cond.fieldLink RX9 40 "SquareTowerModel" "generators" "[I", Cond.fieldLink RX9 43 "SquareTowerModel" "generatorDegree" "[I", Cond.fieldLink RX9 46 "SquareTowerModel" "goesTo" "[J", Cond.fieldLink RX9 50 "SquareTowerModel" "rank" "[I"]
def wsL_law_r9 : List Cond := [Cond.fieldLink RX9 53 "SquareTowerModel" "rows" "[J", Cond.fieldLink RX9 56 "SquareTowerModel" "leads" "[I", Cond.fieldLink RX9 59 "SquareTowerModel" "now" "[J", Cond.fieldLink RX9 62 "SquareTowerModel" "nothing" "[J", Cond.fieldLink RX9 65 "SquareTowerModel" "nextNothing" "[J", Cond.fieldLink RX9 68 "SquareTowerModel" "table" "[I", Cond.methodLink RX9 71 yX9_findWords, Cond.instanceMethod yX9_findWords, Cond.selects RX9 yX9_findWords yX9_findWords, Cond.code yX9_findWords cX9_findWords 5 none, Cond.fieldLink RX9 83 "SquareTowerModel" "words" "I", Cond.methodLink RX9 74 yX9_findRows, Cond.instanceMethod yX9_findRows, Cond.selects RX9 yX9_findRows yX9_findRows, Cond.code yX9_findRows cX9_findRows 5 none, Cond.methodLink RX9 77 yX9_findSquares, Cond.instanceMethod yX9_findSquares, Cond.selects RX9 yX9_findSquares yX9_findSquares, Cond.code yX9_findSquares cX9_findSquares 4 none, Cond.methodLink RX9 110 yX9_squareOf, Cond.instanceMethod yX9_squareOf, Cond.selects RX9 yX9_squareOf yX9_squareOf, Cond.code yX9_squareOf cX9_squareOf 10 (some .int), Cond.methodLink RX9 91 yX9_placeOf]
def wsL_law_r10 : List Cond := [Cond.instanceMethod yX9_placeOf, Cond.selects RX9 yX9_placeOf yX9_placeOf, Cond.code yX9_placeOf cX9_placeOf 8 (some .int), Cond.methodLink RX9 95 yX9_restOf, Cond.instanceMethod yX9_restOf, Cond.selects RX9 yX9_restOf yX9_restOf, Cond.code yX9_restOf cX9_restOf 7 (some .int), Cond.methodLink RX9 99 yX9_isOdd, Cond.static yX9_isOdd, Cond.code yX9_isOdd cX9_isOdd 2 (some .boolean), Cond.methodLink RX9 103 yX9_squares, Cond.instanceMethod yX9_squares, Cond.selects RX9 yX9_squares yX9_squares, Cond.code yX9_squares cX9_squares 6 (some .int), Cond.methodLink RX9 87 yX9_manyOf, Cond.instanceMethod yX9_manyOf, Cond.selects RX9 yX9_manyOf yX9_manyOf, Cond.code yX9_manyOf cX9_manyOf 2 (some .int), Cond.methodLink RX9 113 yX9_squareOfRow, Cond.instanceMethod yX9_squareOfRow, Cond.selects RX9 yX9_squareOfRow yX9_squareOfRow, Cond.code yX9_squareOfRow cX9_squareOfRow 12 (some .int), Cond.methodLink RX9 107 yX9_rowAt, Cond.instanceMethod yX9_rowAt]
def wsL_law_r11 : List Cond := [Cond.selects RX9 yX9_rowAt yX9_rowAt, Cond.code yX9_rowAt cX9_rowAt 6 (some .int), Cond.methodLink RX9 80 yX9_findProducts, Cond.instanceMethod yX9_findProducts, Cond.selects RX9 yX9_findProducts yX9_findProducts, Cond.code yX9_findProducts cX9_findProducts 6 none, Cond.methodLink RX9 116 yX9_degreeOf, Cond.instanceMethod yX9_degreeOf, Cond.selects RX9 yX9_degreeOf yX9_degreeOf, Cond.code yX9_degreeOf cX9_degreeOf 3 (some .int), Cond.methodLink RL 13 yX8_square, Cond.instanceMethod yX8_square, Cond.selects RX8 yX8_square yX8_square, Cond.code yX8_square cX8_square 2 (some .int), Cond.methodLink RL 17 yX9_square, Cond.instanceMethod yX9_square, Cond.selects RX9 yX9_square yX9_square, Cond.code yX9_square cX9_square 2 (some .int), Cond.fieldLink RX9 119 "SquareTowerModel" "wordSize" "I", Cond.methodLink RX9 122 yX9_in, Cond.static yX9_in, Cond.code yX9_in cX9_in 3 (some .boolean), Cond.methodLink RX9 126 yX9_wordDegree, Cond.instanceMethod yX9_wordDegree]
def wsL_law_r12 : List Cond := [Cond.selects RX9 yX9_wordDegree yX9_wordDegree, Cond.code yX9_wordDegree cX9_wordDegree 3 (some .int), Cond.methodLink RL 18 yX8_clear, Cond.instanceMethod yX8_clear, Cond.selects RX8 yX8_clear yX8_clear, Cond.code yX8_clear cX8_clear 2 (some .int), Cond.methodLink RL 22 yX9_clear, Cond.instanceMethod yX9_clear, Cond.selects RX9 yX9_clear yX9_clear, Cond.code yX9_clear cX9_clear 2 (some .int), Cond.methodLink RL 23 yX8_sum, Cond.instanceMethod yX8_sum, Cond.selects RX8 yX8_sum yX8_sum, Cond.code yX8_sum cX8_sum 2 (some .int), Cond.methodLink RX8 71 yX8_sumOfAllowed, Cond.instanceMethod yX8_sumOfAllowed, Cond.selects RX8 yX8_sumOfAllowed yX8_sumOfAllowed, Cond.code yX8_sumOfAllowed cX8_sumOfAllowed 4 (some .int), Cond.methodLink RX8 97 Lib.Math.min.name, Cond.methodLink RX8 102 yX6_timesSum, Cond.methodLink RX8 75 yX8_sumOfRows, Cond.instanceMethod yX8_sumOfRows, Cond.selects RX8 yX8_sumOfRows yX8_sumOfRows, Cond.code yX8_sumOfRows cX8_sumOfRows 4 (some .int)]
def wsL_law_r13 : List Cond := [Cond.methodLink RX8 106 yX4_timesSum, Cond.instanceMethod yX4_timesSum, Cond.selects RX4 yX4_timesSum yX4_timesSum, Cond.code yX4_timesSum cX4_timesSum 6 (some .int), Cond.methodLink RX4 13 yX0_size, Cond.methodLink RX4 19 yX0_start, Cond.methodLink RX4 22 yX4_timesRow, Cond.instanceMethod yX4_timesRow, Cond.selects RX4 yX4_timesRow yX4_timesRow, Cond.code yX4_timesRow cX4_timesRow 11 (some .int), Cond.methodLink RX4 26 yX0_numberAt, Cond.methodLink RX4 30 yX0_find, Cond.methodLink RX4 34 yX0_bit, Cond.methodLink RX8 78 yJ6_bitCount_0f7a4, Cond.static yJ6_bitCount_0f7a4, Cond.initialized RJ6, Cond.code yJ6_bitCount_0f7a4 cJ6_bitCount_0f7a4 1 (some .int), Cond.constant RJ6 265 (1431655765), Cond.constant RJ6 266 (858993459), Cond.constant RJ6 267 (252645135), Cond.methodLink RL 26 yX9_sum, Cond.instanceMethod yX9_sum, Cond.selects RX9 yX9_sum yX9_sum, Cond.code yX9_sum cX9_sum 2 (some .int)]
def wsL_law_r14 : List Cond := [Cond.methodLink RX9 133 yX9_sumOf, Cond.instanceMethod yX9_sumOf, Cond.selects RX9 yX9_sumOf yX9_sumOf, Cond.code yX9_sumOf cX9_sumOf 5 (some .int), Cond.methodLink RX9 130 yX9_squaresRow, Cond.instanceMethod yX9_squaresRow, Cond.selects RX9 yX9_squaresRow yX9_squaresRow, Cond.code yX9_squaresRow cX9_squaresRow 6 (some .int), Cond.methodLink RX9 136 yX9_ones, Cond.static yX9_ones, Cond.code yX9_ones cX9_ones 3 (some .int), Cond.methodLink RL 27 yX8_term, Cond.instanceMethod yX8_term, Cond.selects RX8 yX8_term yX8_term, Cond.code yX8_term cX8_term 6 (some .int), Cond.methodLink RX8 84 yX8_placeOfBit, Cond.static yX8_placeOfBit, Cond.code yX8_placeOfBit cX8_placeOfBit 4 (some .int), Cond.methodLink RX8 88 yX0_start, Cond.methodLink RX8 91 yX0_numberAt, Cond.methodLink RL 31 yX9_term, Cond.instanceMethod yX9_term, Cond.selects RX9 yX9_term yX9_term, Cond.code yX9_term cX9_term 6 (some .int)]
def wsL_law_r15 : List Cond := [Cond.methodLink RL 32 yX8_many, Cond.instanceMethod yX8_many, Cond.selects RX8 yX8_many yX8_many, Cond.code yX8_many cX8_many 2 (some .int), Cond.methodLink RX8 94 yX0_size, Cond.methodLink RL 35 yX9_many, Cond.instanceMethod yX9_many, Cond.selects RX9 yX9_many yX9_many, Cond.code yX9_many cX9_many 2 (some .int), Cond.methodLink RL 36 yX8_empty, Cond.instanceMethod yX8_empty, Cond.selects RX8 yX8_empty yX8_empty, Cond.code yX8_empty cX8_empty 2 (some .int), Cond.methodLink RX8 107 yX5_size, Cond.instanceMethod yX5_size, Cond.selects RX5 yX5_size yX5_size, Cond.code yX5_size cX5_size 1 (some .int), Cond.fieldLink RX5 21 "SquareTower$Space" "size" "I", Cond.methodLink RX8 109 yX5_restart, Cond.instanceMethod yX5_restart, Cond.selects RX5 yX5_restart yX5_restart, Cond.code yX5_restart cX5_restart 1 none, Cond.fieldLink RX5 29 "SquareTower$Space" "checked" "Z", Cond.methodLink RX5 33 yJ7_fill_53178]
def wsL_law_r16 : List Cond := [Cond.static yJ7_fill_53178, Cond.initialized RJ7, Cond.code yJ7_fill_53178 cJ7_fill_53178 4 none, Cond.methodLink RX8 112 yX8_spaceHasChanged, Cond.instanceMethod yX8_spaceHasChanged, Cond.selects RX8 yX8_spaceHasChanged yX8_spaceHasChanged, Cond.code yX8_spaceHasChanged cX8_spaceHasChanged 1 none, Cond.methodLink RX8 148 yX7_restart, Cond.instanceMethod yX7_restart, Cond.selects RX7 yX7_restart yX7_restart, Cond.code yX7_restart cX7_restart 1 none, Cond.fieldLink RX7 61 "SquareTower$Tower" "built" "I", Cond.methodLink RX8 149 yX2_wipe, Cond.instanceMethod yX2_wipe, Cond.selects RX2 yX2_wipe yX2_wipe, Cond.code yX2_wipe cX2_wipe 1 none, Cond.methodLink RX2 19 yJ7_fill_53178, Cond.methodLink RL 39 yX9_empty, Cond.instanceMethod yX9_empty, Cond.selects RX9 yX9_empty yX9_empty, Cond.code yX9_empty cX9_empty 2 (some .int), Cond.fieldLink RX9 146 "SquareTowerModel" "elements" "I", Cond.methodLink RX9 149 yX9_changes, Cond.instanceMethod yX9_changes]
def wsL_law_r17 : List Cond := [Cond.selects RX9 yX9_changes yX9_changes, Cond.code yX9_changes cX9_changes 2 none, Cond.fieldLink RX9 139 "SquareTowerModel" "isLaid" "Z", Cond.fieldLink RX9 143 "SquareTowerModel" "differences" "I", Cond.methodLink RL 40 yX8_element, Cond.instanceMethod yX8_element, Cond.selects RX8 yX8_element yX8_element, Cond.code yX8_element cX8_element 2 (some .int), Cond.methodLink RX8 115 yX5_add, Cond.instanceMethod yX5_add, Cond.selects RX5 yX5_add yX5_add, Cond.code yX5_add cX5_add 2 (some .int), Cond.methodLink RL 43 yX9_element, Cond.instanceMethod yX9_element, Cond.selects RX9 yX9_element yX9_element, Cond.code yX9_element cX9_element 2 (some .int), Cond.methodLink RX9 152 yX9_comes, Cond.instanceMethod yX9_comes, Cond.selects RX9 yX9_comes yX9_comes, Cond.code yX9_comes cX9_comes 3 none, Cond.methodLink RL 44 yX8_act, Cond.instanceMethod yX8_act, Cond.selects RX8 yX8_act yX8_act, Cond.code yX8_act cX8_act 6 (some .int)]
def wsL_law_r18 : List Cond := [Cond.methodLink RX8 118 yX5_has, Cond.instanceMethod yX5_has, Cond.selects RX5 yX5_has yX5_has, Cond.code yX5_has cX5_has 2 (some .boolean), Cond.methodLink RX8 122 yX5_degreeOf, Cond.instanceMethod yX5_degreeOf, Cond.selects RX5 yX5_degreeOf yX5_degreeOf, Cond.code yX5_degreeOf cX5_degreeOf 2 (some .int), Cond.methodLink RX5 25 yX5_has, Cond.methodLink RX8 125 yX5_ofDegree, Cond.instanceMethod yX5_ofDegree, Cond.selects RX5 yX5_ofDegree yX5_ofDegree, Cond.code yX5_ofDegree cX5_ofDegree 4 (some .int), Cond.methodLink RX5 54 yX5_degreeOf, Cond.methodLink RX8 128 yX5_acted, Cond.instanceMethod yX5_acted, Cond.selects RX5 yX5_acted yX5_acted, Cond.code yX5_acted cX5_acted 4 (some .int), Cond.methodLink RX8 131 yX5_setAct, Cond.instanceMethod yX5_setAct, Cond.selects RX5 yX5_setAct yX5_setAct, Cond.code yX5_setAct cX5_setAct 4 none, Cond.methodLink RL 47 yX9_act, Cond.instanceMethod yX9_act]
def wsL_law_r19 : List Cond := [Cond.selects RX9 yX9_act yX9_act, Cond.code yX9_act cX9_act 5 (some .int), Cond.methodLink RX9 156 yX9_isElement, Cond.instanceMethod yX9_isElement, Cond.selects RX9 yX9_isElement yX9_isElement, Cond.code yX9_isElement cX9_isElement 2 (some .boolean), Cond.methodLink RX9 160 yX9_ofDegree, Cond.instanceMethod yX9_ofDegree, Cond.selects RX9 yX9_ofDegree yX9_ofDegree, Cond.code yX9_ofDegree cX9_ofDegree 4 (some .int), Cond.methodLink RL 48 yX8_space, Cond.instanceMethod yX8_space, Cond.selects RX8 yX8_space yX8_space, Cond.code yX8_space cX8_space 4 (some .int), Cond.methodLink RX8 135 yX8_isName, Cond.static yX8_isName, Cond.code yX8_isName cX8_isName 3 (some .boolean), Cond.methodLink RX8 139 yX5_spread, Cond.instanceMethod yX5_spread, Cond.selects RX5 yX5_spread yX5_spread, Cond.code yX5_spread cX5_spread 6 none, Cond.methodLink RX5 39 yX5_restart, Cond.methodLink RX5 42 yX5_add, Cond.methodLink RX5 50 yX5_setAct]
def wsL_law_r20 : List Cond := [Cond.methodLink RL 51 yX9_space, Cond.instanceMethod yX9_space, Cond.selects RX9 yX9_space yX9_space, Cond.code yX9_space cX9_space 9 (some .int), Cond.methodLink RL 52 yX8_does, Cond.instanceMethod yX8_does, Cond.selects RX8 yX8_does yX8_does, Cond.code yX8_does cX8_does 4 (some .int), Cond.methodLink RX8 142 yX5_apply, Cond.instanceMethod yX5_apply, Cond.selects RX5 yX5_apply yX5_apply, Cond.code yX5_apply cX5_apply 5 (some .int), Cond.methodLink RX5 57 yX5_acted, Cond.methodLink RL 55 yX9_does, Cond.instanceMethod yX9_does, Cond.selects RX9 yX9_does yX9_does, Cond.code yX9_does cX9_does 4 (some .int), Cond.methodLink RX9 163 yX9_acted, Cond.instanceMethod yX9_acted, Cond.selects RX9 yX9_acted yX9_acted, Cond.code yX9_acted cX9_acted 5 (some .int), Cond.methodLink RL 56 yX8_about, Cond.instanceMethod yX8_about, Cond.selects RX8 yX8_about yX8_about]
def wsL_law_r21 : List Cond := [Cond.code yX8_about cX8_about 3 (some .int), Cond.methodLink RL 60 yX9_about, Cond.instanceMethod yX9_about, Cond.selects RX9 yX9_about yX9_about, Cond.code yX9_about cX9_about 3 (some .int), Cond.methodLink RL 61 yX8_fault, Cond.instanceMethod yX8_fault, Cond.selects RX8 yX8_fault yX8_fault, Cond.code yX8_fault cX8_fault 2 (some .int), Cond.methodLink RX8 145 yX5_firstFault, Cond.instanceMethod yX5_firstFault, Cond.selects RX5 yX5_firstFault yX5_firstFault, Cond.code yX5_firstFault cX5_firstFault 2 (some .int), Cond.methodLink RX5 64 yX5_findFault, Cond.instanceMethod yX5_findFault, Cond.selects RX5 yX5_findFault yX5_findFault, Cond.code yX5_findFault cX5_findFault 4 none, Cond.methodLink RX5 67 yX5_apply, Cond.methodLink RX5 70 yX5_byTheRule, Cond.instanceMethod yX5_byTheRule, Cond.selects RX5 yX5_byTheRule yX5_byTheRule, Cond.code yX5_byTheRule cX5_byTheRule 6 (some .int), Cond.methodLink RL 64 yX9_fault, Cond.instanceMethod yX9_fault]
def wsL_law_r22 : List Cond := [Cond.selects RX9 yX9_fault yX9_fault, Cond.code yX9_fault cX9_fault 3 (some .int), Cond.fieldLink RX9 166 "SquareTowerModel" "faultA" "I", Cond.fieldLink RX9 169 "SquareTowerModel" "faultB" "I", Cond.methodLink RX9 172 yX9_findFault, Cond.instanceMethod yX9_findFault, Cond.selects RX9 yX9_findFault yX9_findFault, Cond.code yX9_findFault cX9_findFault 6 (some .int), Cond.methodLink RL 65 yX8_live, Cond.instanceMethod yX8_live, Cond.selects RX8 yX8_live yX8_live, Cond.code yX8_live cX8_live 3 (some .int), Cond.methodLink RX8 152 yX8_isInChart, Cond.static yX8_isInChart, Cond.code yX8_isInChart cX8_isInChart 2 (some .boolean), Cond.methodLink RX8 156 yX5_isSound, Cond.instanceMethod yX5_isSound, Cond.selects RX5 yX5_isSound yX5_isSound, Cond.code yX5_isSound cX5_isSound 1 (some .boolean), Cond.methodLink RX5 61 yX5_firstFault, Cond.methodLink RX8 160 yX7_build, Cond.instanceMethod yX7_build, Cond.selects RX7 yX7_build yX7_build, Cond.code yX7_build cX7_build 3 none]
def wsL_law_r23 : List Cond := [Cond.methodLink RX7 99 yX3_restart, Cond.instanceMethod yX3_restart, Cond.selects RX3 yX3_restart yX3_restart, Cond.code yX3_restart cX3_restart 1 none, Cond.fieldLink RX3 28 "SquareTower$Floor" "generators" "I", Cond.methodLink RX3 32 yX1_restart, Cond.instanceMethod yX1_restart, Cond.selects RX1 yX1_restart yX1_restart, Cond.code yX1_restart cX1_restart 2 none, Cond.methodLink RX1 28 Lib.Math.min.name, Cond.methodLink RX7 102 yX7_buildDegree, Cond.instanceMethod yX7_buildDegree, Cond.selects RX7 yX7_buildDegree yX7_buildDegree, Cond.code yX7_buildDegree cX7_buildDegree 9 none, Cond.methodLink RX7 87 Lib.Math.min.name, Cond.methodLink RX7 105 yX5_ofDegree, Cond.methodLink RX7 110 yX7_listElements, Cond.static yX7_listElements, Cond.code yX7_listElements cX7_listElements 3 none, Cond.methodLink RX7 114 yX1_restart, Cond.methodLink RX7 130 yX1_open, Cond.instanceMethod yX1_open, Cond.selects RX1 yX1_open yX1_open, Cond.code yX1_open cX1_open 2 (some .int)]
def wsL_law_r24 : List Cond := [Cond.methodLink RX7 133 yX1_flip, Cond.instanceMethod yX1_flip, Cond.selects RX1 yX1_flip yX1_flip, Cond.code yX1_flip cX1_flip 5 none, Cond.methodLink RX1 37 yX1_flipWord, Cond.instanceMethod yX1_flipWord, Cond.selects RX1 yX1_flipWord yX1_flipWord, Cond.code yX1_flipWord cX1_flipWord 5 none, Cond.methodLink RX7 69 yX3_places, Cond.instanceMethod yX3_places, Cond.selects RX3 yX3_places yX3_places, Cond.code yX3_places cX3_places 4 (some .int), Cond.methodLink RX3 48 yX3_width, Cond.instanceMethod yX3_width, Cond.selects RX3 yX3_width yX3_width, Cond.code yX3_width cX3_width 3 (some .int), Cond.methodLink RX3 39 yX3_degreeOf, Cond.instanceMethod yX3_degreeOf, Cond.selects RX3 yX3_degreeOf yX3_degreeOf, Cond.code yX3_degreeOf cX3_degreeOf 2 (some .int), Cond.methodLink RX3 43 yX0_size, Cond.methodLink RX7 116 yJ7_fill_fda19, Cond.static yJ7_fill_fda19, Cond.code yJ7_fill_fda19 cJ7_fill_fda19 5 none]
def wsL_law_r25 : List Cond := [Cond.methodLink RJ7 13 yJ7_rangeCheck_23922, Cond.static yJ7_rangeCheck_23922, Cond.code yJ7_rangeCheck_23922 cJ7_rangeCheck_23922 3 none, Cond.methodLink RX7 122 yX7_carryOver, Cond.instanceMethod yX7_carryOver, Cond.selects RX7 yX7_carryOver yX7_carryOver, Cond.code yX7_carryOver cX7_carryOver 13 none, Cond.methodLink RX7 72 yX3_generators, Cond.instanceMethod yX3_generators, Cond.selects RX3 yX3_generators yX3_generators, Cond.code yX3_generators cX3_generators 1 (some .int), Cond.methodLink RX7 76 yX3_degreeOf, Cond.methodLink RX7 137 yX7_listPlaces, Cond.instanceMethod yX7_listPlaces, Cond.selects RX7 yX7_listPlaces yX7_listPlaces, Cond.code yX7_listPlaces cX7_listPlaces 10 none, Cond.methodLink RX7 141 yX0_start, Cond.methodLink RX7 93 yX3_width, Cond.methodLink RX7 146 yX0_size, Cond.methodLink RX7 79 yX3_goals, Cond.instanceMethod yX3_goals, Cond.selects RX3 yX3_goals yX3_goals, Cond.code yX3_goals cX3_goals 1 (some (.object "SquareTower$BitRows")), Cond.methodLink RX7 149 yX7_putProduct]
def wsL_law_r26 : List Cond := [Cond.instanceMethod yX7_putProduct, Cond.selects RX7 yX7_putProduct yX7_putProduct, Cond.code yX7_putProduct cX7_putProduct 7 none, Cond.methodLink RX7 163 yX1_next, Cond.instanceMethod yX1_next, Cond.selects RX1 yX1_next yX1_next, Cond.code yX1_next cX1_next 8 (some .int), Cond.constantLong RX1 41 (-1), Cond.methodLink RX1 43 yJ13_bitCount_95d88, Cond.static yJ13_bitCount_95d88, Cond.initialized RJ13, Cond.code yJ13_bitCount_95d88 cJ13_bitCount_95d88 2 (some .int), Cond.constantLong RJ13 314 (6148914691236517205), Cond.constantLong RJ13 316 (3689348814741910323), Cond.constantLong RJ13 318 (1085102592571150095), Cond.methodLink RX7 166 yX6_product, Cond.methodLink RX7 153 yX1_firstBits, Cond.instanceMethod yX1_firstBits, Cond.selects RX1 yX1_firstBits yX1_firstBits, Cond.code yX1_firstBits cX1_firstBits 2 (some .int), Cond.constantLong RX1 35 (2147483647), Cond.methodLink RX1 31 yX1_word, Cond.instanceMethod yX1_word, Cond.selects RX1 yX1_word yX1_word]
def wsL_law_r27 : List Cond := [Cond.code yX1_word cX1_word 3 (some .long), Cond.methodLink RX7 156 yX7_applyChain, Cond.instanceMethod yX7_applyChain, Cond.selects RX7 yX7_applyChain yX7_applyChain, Cond.code yX7_applyChain cX7_applyChain 5 (some .int), Cond.methodLink RX7 171 yX0_numberAt, Cond.methodLink RX7 174 yX5_apply, Cond.methodLink RX7 159 yX7_keepOrDrop, Cond.instanceMethod yX7_keepOrDrop, Cond.selects RX7 yX7_keepOrDrop yX7_keepOrDrop, Cond.code yX7_keepOrDrop cX7_keepOrDrop 4 none, Cond.methodLink RX7 177 yX7_reduce, Cond.instanceMethod yX7_reduce, Cond.selects RX7 yX7_reduce yX7_reduce, Cond.code yX7_reduce cX7_reduce 5 (some .int), Cond.methodLink RX7 194 yX1_add, Cond.instanceMethod yX1_add, Cond.selects RX1 yX1_add yX1_add, Cond.code yX1_add cX1_add 4 none, Cond.methodLink RX7 180 yX1_copy, Cond.instanceMethod yX1_copy, Cond.selects RX1 yX1_copy yX1_copy, Cond.code yX1_copy cX1_copy 5 (some .int), Cond.methodLink RX1 49 yX1_open]
def wsL_law_r28 : List Cond := [Cond.methodLink RX7 184 yX1_dropLast, Cond.instanceMethod yX1_dropLast, Cond.selects RX1 yX1_dropLast yX1_dropLast, Cond.code yX1_dropLast cX1_dropLast 1 none, Cond.methodLink RX7 126 yX7_cover, Cond.instanceMethod yX7_cover, Cond.selects RX7 yX7_cover yX7_cover, Cond.code yX7_cover cX7_cover 7 none, Cond.methodLink RX7 187 yX1_height, Cond.instanceMethod yX1_height, Cond.selects RX1 yX1_height yX1_height, Cond.code yX1_height cX1_height 1 (some .int), Cond.methodLink RX7 190 yX3_add, Cond.instanceMethod yX3_add, Cond.selects RX3 yX3_add yX3_add, Cond.code yX3_add cX3_add 4 none, Cond.methodLink RX3 35 yX1_copy, Cond.methodLink RX8 164 yX7_generatorsAt, Cond.instanceMethod yX7_generatorsAt, Cond.selects RX7 yX7_generatorsAt yX7_generatorsAt, Cond.code yX7_generatorsAt cX7_generatorsAt 3 (some .int), Cond.methodLink RX7 65 yX3_generatorsOf, Cond.instanceMethod yX3_generatorsOf, Cond.selects RX3 yX3_generatorsOf yX3_generatorsOf]
def wsL_law_r29 : List Cond := [Cond.code yX3_generatorsOf cX3_generatorsOf 4 (some .int), Cond.methodLink RL 68 yX9_live, Cond.instanceMethod yX9_live, Cond.selects RX9 yX9_live yX9_live, Cond.code yX9_live cX9_live 3 (some .int), Cond.methodLink RX9 216 yX9_isPlace, Cond.static yX9_isPlace, Cond.code yX9_isPlace cX9_isPlace 2 (some .boolean), Cond.methodLink RX9 219 yX9_isSound, Cond.instanceMethod yX9_isSound, Cond.selects RX9 yX9_isSound yX9_isSound, Cond.code yX9_isSound cX9_isSound 1 (some .boolean), Cond.methodLink RX9 223 yX9_liveAt, Cond.instanceMethod yX9_liveAt, Cond.selects RX9 yX9_liveAt yX9_liveAt, Cond.code yX9_liveAt cX9_liveAt 5 (some .int), Cond.methodLink RX9 213 yX9_layAll, Cond.instanceMethod yX9_layAll, Cond.selects RX9 yX9_layAll yX9_layAll, Cond.code yX9_layAll cX9_layAll 3 none, Cond.fieldLink RX9 203 "SquareTowerModel" "manyNothing" "I", Cond.methodLink RX9 210 yX9_lays, Cond.instanceMethod yX9_lays, Cond.selects RX9 yX9_lays yX9_lays]
def wsL_law_r30 : List Cond := [Cond.code yX9_lays cX9_lays 9 none, Cond.fieldLink RX9 181 "SquareTowerModel" "manyRows" "I", Cond.fieldLink RX9 187 "SquareTowerModel" "manyNext" "I", Cond.methodLink RX9 190 yX9_clearNow, Cond.instanceMethod yX9_clearNow, Cond.selects RX9 yX9_clearNow yX9_clearNow, Cond.code yX9_clearNow cX9_clearNow 2 none, Cond.methodLink RX9 193 yX9_goes, Cond.instanceMethod yX9_goes, Cond.selects RX9 yX9_goes yX9_goes, Cond.code yX9_goes cX9_goes 15 none, Cond.methodLink RX9 178 yX9_turns, Cond.instanceMethod yX9_turns, Cond.selects RX9 yX9_turns yX9_turns, Cond.code yX9_turns cX9_turns 2 none, Cond.methodLink RX9 197 yX9_reduces, Cond.instanceMethod yX9_reduces, Cond.selects RX9 yX9_reduces yX9_reduces, Cond.code yX9_reduces cX9_reduces 4 (some .int), Cond.methodLink RX9 184 yX9_lead, Cond.instanceMethod yX9_lead, Cond.selects RX9 yX9_lead yX9_lead, Cond.code yX9_lead cX9_lead 3 (some .int), Cond.methodLink RX9 200 yX9_keeps]
def wsL_law_r31 : List Cond := [Cond.instanceMethod yX9_keeps, Cond.selects RX9 yX9_keeps yX9_keeps, Cond.code yX9_keeps cX9_keeps 3 none, Cond.methodLink RX9 206 yX9_comesGenerator, Cond.instanceMethod yX9_comesGenerator, Cond.selects RX9 yX9_comesGenerator yX9_comesGenerator, Cond.code yX9_comesGenerator cX9_comesGenerator 4 none, Cond.methodLink RL 69 yX8_joins, Cond.instanceMethod yX8_joins, Cond.selects RX8 yX8_joins yX8_joins, Cond.code yX8_joins cX8_joins 4 (some .int), Cond.methodLink RX8 167 yX7_rankOfJoins, Cond.instanceMethod yX7_rankOfJoins, Cond.selects RX7 yX7_rankOfJoins yX7_rankOfJoins, Cond.code yX7_rankOfJoins cX7_rankOfJoins 10 (some .int), Cond.methodLink RX7 83 yX7_joinsOf, Cond.static yX7_joinsOf, Cond.code yX7_joinsOf cX7_joinsOf 9 (some .int), Cond.methodLink RX7 96 yX1_bit, Cond.instanceMethod yX1_bit, Cond.selects RX1 yX1_bit yX1_bit, Cond.code yX1_bit cX1_bit 3 (some .int), Cond.methodLink RL 72 yX9_joins, Cond.instanceMethod yX9_joins]
def wsL_law_r32 : List Cond := [Cond.selects RX9 yX9_joins yX9_joins, Cond.code yX9_joins cX9_joins 12 (some .int), Cond.methodLink RX9 175 yX9_offset, Cond.instanceMethod yX9_offset, Cond.selects RX9 yX9_offset yX9_offset, Cond.code yX9_offset cX9_offset 7 (some .int), Cond.methodLink RX9 226 yX9_rankOf, Cond.instanceMethod yX9_rankOf, Cond.selects RX9 yX9_rankOf yX9_rankOf, Cond.code yX9_rankOf cX9_rankOf 8 (some .int), Cond.methodLink RL 73 yX8_balance, Cond.instanceMethod yX8_balance, Cond.selects RX8 yX8_balance yX8_balance, Cond.code yX8_balance cX8_balance 2 (some .int), Cond.constant RX8 170 (-1000000), Cond.constant RX8 171 (-2000000), Cond.methodLink RX8 172 yX7_turnByTurn, Cond.instanceMethod yX7_turnByTurn, Cond.selects RX7 yX7_turnByTurn yX7_turnByTurn, Cond.code yX7_turnByTurn cX7_turnByTurn 4 (some .int), Cond.methodLink RL 76 yX9_balance, Cond.instanceMethod yX9_balance, Cond.selects RX9 yX9_balance yX9_balance, Cond.code yX9_balance cX9_balance 4 (some .int)]
def wsL_law_r33 : List Cond := [Cond.constant RX9 230 (-1000000), Cond.constant RX9 231 (-2000000), Cond.methodLink RX9 232 yX9_wide, Cond.instanceMethod yX9_wide, Cond.selects RX9 yX9_wide yX9_wide, Cond.code yX9_wide cX9_wide 3 (some .int), Cond.methodLink RL 77 yX8_differ, Cond.instanceMethod yX8_differ, Cond.selects RX8 yX8_differ yX8_differ, Cond.code yX8_differ cX8_differ 5 (some .int), Cond.methodLink RX8 175 yX8_mayBeTold, Cond.instanceMethod yX8_mayBeTold, Cond.selects RX8 yX8_mayBeTold yX8_mayBeTold, Cond.code yX8_mayBeTold cX8_mayBeTold 5 (some .boolean), Cond.methodLink RX8 189 yX2_rankOf, Cond.instanceMethod yX2_rankOf, Cond.selects RX2 yX2_rankOf yX2_rankOf, Cond.code yX2_rankOf cX2_rankOf 5 (some .int), Cond.methodLink RX2 25 yX2_index, Cond.static yX2_index, Cond.code yX2_index cX2_index 3 (some .int), Cond.methodLink RX8 192 yX2_isLongerTold, Cond.instanceMethod yX2_isLongerTold, Cond.selects RX2 yX2_isLongerTold yX2_isLongerTold]
def wsL_law_r34 : List Cond := [Cond.code yX2_isLongerTold cX2_isLongerTold 2 (some .boolean), Cond.methodLink RX2 36 Lib.Math.max.name, Cond.methodLink RX2 32 yX2_toldFrom, Cond.instanceMethod yX2_toldFrom, Cond.selects RX2 yX2_toldFrom yX2_toldFrom, Cond.code yX2_toldFrom cX2_toldFrom 4 (some .int), Cond.methodLink RX8 195 yX2_spent, Cond.instanceMethod yX2_spent, Cond.selects RX2 yX2_spent yX2_spent, Cond.code yX2_spent cX2_spent 4 (some .int), Cond.methodLink RX2 29 yX2_rankOf, Cond.methodLink RX8 183 yX8_leftOnPage, Cond.instanceMethod yX8_leftOnPage, Cond.selects RX8 yX8_leftOnPage yX8_leftOnPage, Cond.code yX8_leftOnPage cX8_leftOnPage 6 (some .int), Cond.methodLink RX8 179 yX2_tell, Cond.instanceMethod yX2_tell, Cond.selects RX2 yX2_tell yX2_tell, Cond.code yX2_tell cX2_tell 6 none, Cond.methodLink RL 81 yX9_differ, Cond.instanceMethod yX9_differ, Cond.selects RX9 yX9_differ yX9_differ, Cond.code yX9_differ cX9_differ 6 (some .int), Cond.methodLink RX9 235 yX9_rankAt]
def wsL_law_r35 : List Cond := [Cond.instanceMethod yX9_rankAt, Cond.selects RX9 yX9_rankAt yX9_rankAt, Cond.code yX9_rankAt cX9_rankAt 4 (some .int), Cond.methodLink RX9 238 yX9_rankBoth, Cond.instanceMethod yX9_rankBoth, Cond.selects RX9 yX9_rankBoth yX9_rankBoth, Cond.code yX9_rankBoth cX9_rankBoth 4 (some .int), Cond.methodLink RX9 241 yX9_pageAt, Cond.instanceMethod yX9_pageAt, Cond.selects RX9 yX9_pageAt yX9_pageAt, Cond.code yX9_pageAt cX9_pageAt 6 (some .int), Cond.methodLink RL 82 yX8_page, Cond.instanceMethod yX8_page, Cond.selects RX8 yX8_page yX8_page, Cond.code yX8_page cX8_page 4 (some .int), Cond.methodLink RL 85 yX9_page, Cond.instanceMethod yX9_page, Cond.selects RX9 yX9_page yX9_page, Cond.code yX9_page cX9_page 4 (some .int), Cond.methodLink RL 86 yX8_count, Cond.instanceMethod yX8_count, Cond.selects RX8 yX8_count yX8_count, Cond.code yX8_count cX8_count 2 (some .int), Cond.methodLink RX8 186 yX2_told]
def wsL_law_r36 : List Cond := [Cond.instanceMethod yX2_told, Cond.selects RX2 yX2_told yX2_told, Cond.code yX2_told cX2_told 1 (some .int), Cond.methodLink RL 89 yX9_count, Cond.instanceMethod yX9_count, Cond.selects RX9 yX9_count yX9_count, Cond.code yX9_count cX9_count 2 (some .int)]
def wsL_law : List Cond := (wsL_law_r1 ++ (wsL_law_r2 ++ (wsL_law_r3 ++ (wsL_law_r4 ++ (wsL_law_r5 ++ (wsL_law_r6 ++ (wsL_law_r7 ++ (wsL_law_r8 ++ (wsL_law_r9 ++ (wsL_law_r10 ++ (wsL_law_r11 ++ (wsL_law_r12 ++ (wsL_law_r13 ++ (wsL_law_r14 ++ (wsL_law_r15 ++ (wsL_law_r16 ++ (wsL_law_r17 ++ (wsL_law_r18 ++ (wsL_law_r19 ++ (wsL_law_r20 ++ (wsL_law_r21 ++ (wsL_law_r22 ++ (wsL_law_r23 ++ (wsL_law_r24 ++ (wsL_law_r25 ++ (wsL_law_r26 ++ (wsL_law_r27 ++ (wsL_law_r28 ++ (wsL_law_r29 ++ (wsL_law_r30 ++ (wsL_law_r31 ++ (wsL_law_r32 ++ (wsL_law_r33 ++ (wsL_law_r34 ++ (wsL_law_r35 ++ wsL_law_r36))))))))))))))))))))))))))))))))))) ++ wsX80 ++ wsX90 ++ wsX00 ++ wsX60 ++ wsX50 ++ wsX40 ++ wsX70 ++ wsX20 ++ wsX10 ++ wsX30 ++ ([] : List Cond)
abbrev vwCl : List vw_C := [(RX0, TX0, 2), (RX1, TX1, 3), (RX2, TX2, 1), (RX3, TX3, 4), (RX4, TX4, 1), (RX5, TX5, 5), (RX6, TX6, 2), (RX7, TX7, 12), (RX8, TX8, 10), (RX9, TX9, 30)]
end
section
/-! ENGINE, part 1: values, worlds whose shape stands, the judgement HW -/
abbrev zV : Type := Int ⊕ (Nat ⊕ Option Nat)
abbrev zS : Type := (Nat × List (Option (Option Nat))) ⊕ ((ClassId × Nat) ⊕ ((ClassId × Nat) ⊕ (ClassId × String × Nat × (Nat → Option Nat))))
abbrev zFi : Type := Nat → Nat → Int
abbrev zJi : Type := Nat → Nat → Nat
def zv (ad : Nat → Nat) : zV → Value
  | .inl i => .int (Int32.ofInt i)
  | .inr (.inl n) => .long (Int64.ofNat n)
  | .inr (.inr none) => .null
  | .inr (.inr (some k)) => .ref (ad k)
def zfs (ad : Nat → Nat) (f : Nat → Int) : Nat → List (Option (Option Nat)) → List Value
  | _, [] => []
  | j, none :: r => .int (Int32.ofInt (f j)) :: zfs ad f (j + 1) r
  | j, some x :: r => va_rf (x.map ad) :: zfs ad f (j + 1) r
def zent (ad : Nat → Nat) (F I : zFi) (J : zJi) (k : Nat) : zS → va_E
  | .inl (ci, sl) => .inr (ci, zfs ad (F k) 0 sl)
  | .inr (.inl (cA, n)) => .inl (cA, n, .inl (fun j => Int32.ofInt (I k j)))
  | .inr (.inr (.inl (cA, n))) => .inl (cA, n, .inr (.inl (fun j => Int64.ofNat (J k j))))
  | .inr (.inr (.inr (cA, _, n, r))) => .inl (cA, n, .inr (.inr (.inr (.inr (fun j => (r j).map ad)))))
/-- the heap holds the world -/
def zWd (D : va_G) (sh : Nat → Option zS) (ad : Nat → Nat) (F I : zFi) (J : zJi) (H : Heap) : Prop := ∀ (k : Nat) (t : zS), sh k = some t → va_at D vwCl (ad k, zent ad F I J k t) H
/-- the links between nest mates -/
def zNest : List Cond := [.methodLinkNest RX8 21 yX5_init RX8, .methodLinkNest RX8 55 yX2_init RX8, .methodLinkNest RX2 15 yX8_isInChart RX8, .methodLinkNest RX5 46 yX8_isOdd RX8, .methodLinkNest RX6 62 yX8_isOdd RX8]
/-- what stands of the shape in a state -/
def zG (D : va_G) (sh : Nat → Option zS) (ad : Nat → Nat) (U : State) : Prop :=
  (∀ i j, sh i ≠ none → sh j ≠ none → ad i = ad j → i = j) ∧ va_K D vwCl [] U ∧
  (∀ k cA n, sh k = some (.inr (.inl (cA, n))) → n < 2147483648 ∧ ArrOfT U cA .int ∧ va_RA U cA .int) ∧
  (∀ k cA n, sh k = some (.inr (.inr (.inl (cA, n)))) → n < 2147483648 ∧ ArrOfT U cA .long ∧ va_RA U cA .long) ∧
  (∀ k cA E n r, sh k = some (.inr (.inr (.inr (cA, E, n, r)))) → n < 2147483648 ∧ ArrOfT U cA (.object E) ∧ va_RA U cA (.object E)) ∧ (∀ w ∈ zNest, va_Nw w U)
theorem zG.to {D : va_G} {sh : Nat → Option zS} {ad : Nat → Nat} {u U : State} (hvm : u.vm.Alike U.vm) (hn : ∀ w ∈ zNest, va_Nw w U) (h : zG D sh ad u) : zG D sh ad U :=
  ⟨h.1, h.2.1.moved hvm, fun k cA n e => ⟨(h.2.2.1 k cA n e).1, arrOfT_moved hvm (h.2.2.1 k cA n e).2.1, (h.2.2.1 k cA n e).2.2.moved hvm⟩,
    fun k cA n e => ⟨(h.2.2.2.1 k cA n e).1, arrOfT_moved hvm (h.2.2.2.1 k cA n e).2.1, (h.2.2.2.1 k cA n e).2.2.moved hvm⟩,
    fun k cA E n r e => ⟨(h.2.2.2.2.1 k cA E n r e).1, arrOfT_moved hvm (h.2.2.2.2.1 k cA E n r e).2.1, (h.2.2.2.2.1 k cA E n r e).2.2.moved hvm⟩, hn⟩
theorem zNest_warm {s U : State} (hW : s.WarmedH U.vm) (h : ∀ w ∈ zNest, va_Nw w s) : ∀ w ∈ zNest, va_Nw w U := by
  refine List.forall_mem_cons.mpr ⟨va_Nw.warmM hW (h _ (List.mem_of_getElem? (i := 0) rfl)), List.forall_mem_cons.mpr ⟨va_Nw.warmM hW (h _ (List.mem_of_getElem? (i := 1) rfl)), List.forall_mem_cons.mpr ⟨va_Nw.warmM hW (h _ (List.mem_of_getElem? (i := 2) rfl)), List.forall_mem_cons.mpr ⟨va_Nw.warmM hW (h _ (List.mem_of_getElem? (i := 3) rfl)), List.forall_mem_cons.mpr ⟨va_Nw.warmM hW (h _ (List.mem_of_getElem? (i := 4) rfl)), fun _ h => absurd h List.not_mem_nil⟩⟩⟩⟩⟩
theorem zNest_same {s U : State} (e : s.vm = U.vm) (h : ∀ w ∈ zNest, va_Nw w s) : ∀ w ∈ zNest, va_Nw w U := by
  refine List.forall_mem_cons.mpr ⟨va_Nw.same rfl e (h _ (List.mem_of_getElem? (i := 0) rfl)), List.forall_mem_cons.mpr ⟨va_Nw.same rfl e (h _ (List.mem_of_getElem? (i := 1) rfl)), List.forall_mem_cons.mpr ⟨va_Nw.same rfl e (h _ (List.mem_of_getElem? (i := 2) rfl)), List.forall_mem_cons.mpr ⟨va_Nw.same rfl e (h _ (List.mem_of_getElem? (i := 3) rfl)), List.forall_mem_cons.mpr ⟨va_Nw.same rfl e (h _ (List.mem_of_getElem? (i := 4) rfl)), fun _ h => absurd h List.not_mem_nil⟩⟩⟩⟩⟩
theorem zG.warm {D : va_G} {sh : Nat → Option zS} {ad : Nat → Nat} {u U : State} (hW : u.WarmedH U.vm) (h : zG D sh ad u) : zG D sh ad U := h.to hW.alike (zNest_warm hW h.2.2.2.2.2)
/-- which cells may change: those of the shape, and new ones -/
def zA (sh : Nat → Option zS) (ad : Nat → Nat) (sz : Nat) : Nat → Prop := fun q => (∃ k, sh k ≠ none ∧ q = ad k) ∨ sz ≤ q
abbrev zX : Type := (Program × Launch × Env × Room × State × MethodId × Array Value × List Frame × Method × Code) × (va_G × (Nat → Option zS) × (Nat → Nat)) × ((Nat → Prop) × Nat × Nat × (State → Prop))
abbrev xp (X : zX) : Program := X.1.1
abbrev xl (X : zX) : Launch := X.1.2.1
abbrev xe (X : zX) : Env := X.1.2.2.1
abbrev xR (X : zX) : Room := X.1.2.2.2.1
abbrev xs (X : zX) : State := X.1.2.2.2.2.1
abbrev xm (X : zX) : MethodId := X.1.2.2.2.2.2.1
abbrev xa (X : zX) : Array Value := X.1.2.2.2.2.2.2.1
abbrev xb (X : zX) : List Frame := X.1.2.2.2.2.2.2.2.1
abbrev xt (X : zX) : Method := X.1.2.2.2.2.2.2.2.2.1
abbrev xc (X : zX) : Code := X.1.2.2.2.2.2.2.2.2.2
abbrev xD (X : zX) : va_G := X.2.1.1
abbrev xsh (X : zX) : Nat → Option zS := X.2.1.2.1
abbrev xad (X : zX) : Nat → Nat := X.2.1.2.2
abbrev xA (X : zX) : Nat → Prop := X.2.2.1
abbrev xk (X : zX) : Nat := X.2.2.2.1
abbrev xn (X : zX) : Nat := X.2.2.2.2.1
abbrev xQ (X : zX) : State → Prop := X.2.2.2.2.2
/-- the locals: those that are listed are held -/
def zL (ad : Nat → Nat) (nL : Nat) (ls : List (Option zV)) (LS : Array Slot) : Prop := LS.size = nL ∧ ls.length ≤ nL ∧ lv_wf LS ∧ ∀ (i : Nat) (v : zV), ls[i]? = some (some v) → LS[i]? = some (.val (zv ad v))
def HW (X : zX) (pc : Nat) (ls : List (Option zV)) (st : List zV) (F I : zFi) (J : zJi) : Prop :=
  ∀ (H : Heap) (locs : List Loc) (LS : Array Slot), zWd (xD X) (xsh X) (xad X) F I J H → va_S (xA X) (xs X).heap H locs → zL (xad X) (xc X).maxLocals ls LS →
    W (xp X) (xl X) (xe X) (xR X) (xs X) (xm X) (xa X) (xb X) (xt X) (xc X) H locs (xk X) (xn X) (xQ X) (F0 (xm X) pc LS (st.map (zv (xad X))))
/-- the method: its bytes, its rows (pc, instruction in a plain form, length, pool index), its class, its words -/
abbrev zM : Type := ByteArray × List (Nat × Instr × Nat × Nat) × String × List Cond × Room
/-- the instruction that stands in the bytes for a plain one -/
def zorig (pc : Nat) (i : Instr) (n aux : Nat) : Option Instr := match i with
  | .iconst v => match n, aux with
    | 1, 0 => some (.iconst v)
    | 2, 0 => if -128 ≤ v ∧ v < 128 then some (.bipush v) else none
    | 3, 0 => if -32768 ≤ v ∧ v < 32768 then some (.sipush v) else none
    | 2, a + 1 => some (.ldc (a + 1))
    | 3, a + 1 => some (.ldc_w (a + 1))
    | _, _ => none
  | .ldc2_w _ => some (.ldc2_w aux)
  | .iload j => match n with
    | 1 => if h : j < 4 then some (.iload_n ⟨j, h⟩) else none
    | _ => some (.iload j)
  | .lload j => match n with
    | 1 => if h : j < 4 then some (.lload_n ⟨j, h⟩) else none
    | _ => some (.lload j)
  | .aload j => match n with
    | 1 => if h : j < 4 then some (.aload_n ⟨j, h⟩) else none
    | _ => some (.aload j)
  | .istore j => match n with
    | 1 => if h : j < 4 then some (.istore_n ⟨j, h⟩) else none
    | _ => some (.istore j)
  | .lstore j => match n with
    | 1 => if h : j < 4 then some (.lstore_n ⟨j, h⟩) else none
    | _ => some (.lstore j)
  | .astore j => match n with
    | 1 => if h : j < 4 then some (.astore_n ⟨j, h⟩) else none
    | _ => some (.astore j)
  | .if_icmp c t => some (.if_icmp c (t - pc))
  | .ifCond c t => some (.ifCond c (t - pc))
  | .goto t => some (.goto (t - pc))
  | .ifnull t => some (.ifnull (t - pc))
  | .ifnonnull t => some (.ifnonnull (t - pc))
  | .invokeinterface _ _ => some (.getfield aux)
  | .multianewarray _ _ => some (.putfield aux)
  | .getfield _ => none
  | .putfield _ => none
  | .putstatic _ => some (.putfield aux)
  | .dreturn => some .ireturn
  | i => some i
/-- the length that a plain instruction has, where it is one alone -/
def zlen (i : Instr) (n : Nat) : Bool := match i with
  | .iconst _ => true
  | .iload _ | .lload _ | .aload _ | .istore _ | .lstore _ | .astore _ => n == 1 || n == 2
  | .iinc _ _ | .if_icmp _ _ | .ifCond _ _ | .goto _ | .ifnull _ | .ifnonnull _ | .invokeinterface _ _ | .multianewarray _ _ | .putstatic _ | .ldc2_w _ | .invokevirtual _ | .invokestatic _ | .invokespecial _ => n == 3
  | .tableswitch _ _ _ _ => true
  | _ => n == 1
def zfl (own : String) (Ts : List Cond) (ci j idx mode : Nat) : Bool := match vwCl[ci]? with
  | some (C, T, N) => decide (j < N) && (decide (Cond.fieldLink own idx (T j).1 (T j).2.1 (T j).2.2.1 ∈ Ts) && ((u_ws C T N).all (fun w => decide (w ∈ Ts)) &&
      (match mode with
        | 0 => true
        | 1 => !(T j).2.2.2 && decide (parseFieldDescriptor (T j).2.2.1 = some .int)
        | _ => !(T j).2.2.2 && decide (parseFieldDescriptor (T j).2.2.1 = some .boolean))))
  | none => false
def zside (M : zM) (i : Instr) (n aux : Nat) : Bool := match i with
  | .iconst v => match aux with
    | 0 => true
    | a + 1 => decide (Cond.constant M.2.2.1 (a + 1) (Int32.ofInt v) ∈ M.2.2.2.1)
  | .ldc2_w v => decide (Cond.constantLong M.2.2.1 aux (Int64.ofNat v) ∈ M.2.2.2.1)
  | .if_icmp _ t | .ifCond _ t | .goto t | .ifnull t | .ifnonnull t => decide (0 ≤ t)
  | .invokeinterface ci j => zfl M.2.2.1 M.2.2.2.1 ci j aux 0
  | .multianewarray ci j => zfl M.2.2.1 M.2.2.2.1 ci j aux 1
  | .putstatic e => zfl M.2.2.1 M.2.2.2.1 (e / 64) (e % 64) aux 2
  | _ => true
def zok (M : zM) (r : Nat × Instr × Nat × Nat) : Bool := match zorig r.1 r.2.1 r.2.2.1 r.2.2.2 with
  | some d => decide (decode M.1 r.1 = .ok (d, r.2.2.1)) && (zlen r.2.1 r.2.2.1 && zside M r.2.1 r.2.2.1 r.2.2.2)
  | none => false
/-- the facts that stand all along a method -/
def ZF (X : zX) (M : zM) : Prop :=
  (xp X).tables.exec = Jvm.exec ∧ (xc X).code = M.1 ∧ (xs X).vm.findClass M.2.2.1 = some (xm X).cls ∧ (∀ w ∈ M.2.2.2.1, w.before (xa X) (xs X) = true) ∧
  zG (xD X) (xsh X) (xad X) (xs X) ∧ ((∀ k, xsh X k ≠ none → xA X (xad X k)) ∧ ∀ q : Nat, (xs X).heap.size ≤ q → xA X q) ∧ xR X = M.2.2.2.2 ∧ (∀ r ∈ M.2.1, zok M r = true)
theorem zok_spec {M : zM} {pc : Nat} {i : Instr} {n aux : Nat} (h : zok M (pc, i, n, aux) = true) : ∃ d, zorig pc i n aux = some d ∧ decode M.1 pc = .ok (d, n) ∧ zlen i n = true ∧ zside M i n aux = true := by
  unfold zok at h
  dsimp only at h
  split at h
  · rename_i d hd
    simp only [Bool.and_eq_true, decide_eq_true_eq] at h
    exact ⟨d, hd, h.1, h.2.1, h.2.2⟩
  · cases h
end
section
/-! ENGINE, part 2: arithmetic of plain integers, and one row an instruction over HW -/
theorem zi_toInt (a : Int) : (Int32.ofInt a).toInt = (a + 2147483648) % 4294967296 - 2147483648 := by
  rw [Int32.toInt_ofInt, show Int32.size = 4294967296 from rfl, Int.bmod_def]
  split <;> omega
theorem zi_eq (a b : Int) : Int32.ofInt a = Int32.ofInt b ↔ a % 4294967296 = b % 4294967296 := by
  rw [← Int32.toInt_inj, zi_toInt, zi_toInt]
  omega
theorem zi_lt (a b : Int) : Int32.ofInt a < Int32.ofInt b ↔ (a + 2147483648) % 4294967296 < (b + 2147483648) % 4294967296 := by
  rw [Int32.lt_iff_toInt_lt, zi_toInt, zi_toInt]
  omega
theorem zi_le (a b : Int) : Int32.ofInt a ≤ Int32.ofInt b ↔ (a + 2147483648) % 4294967296 ≤ (b + 2147483648) % 4294967296 := by
  rw [Int32.le_iff_toInt_le, zi_toInt, zi_toInt]
  omega
theorem zi_0 : (0 : Int32) = Int32.ofInt 0 := rfl
theorem zi_add (a b : Int) : Int32.ofInt a + Int32.ofInt b = Int32.ofInt (a + b) := by
  rw [← Int32.toInt_inj, Int32.toInt_add, zi_toInt, zi_toInt, zi_toInt, Int.bmod_def]
  split <;> omega
theorem zi_sub (a b : Int) : Int32.ofInt a - Int32.ofInt b = Int32.ofInt (a - b) := by
  rw [← Int32.toInt_inj, Int32.toInt_sub, zi_toInt, zi_toInt, zi_toInt, Int.bmod_def]
  split <;> omega
theorem zi_neg (a : Int) : -Int32.ofInt a = Int32.ofInt (-a) := by
  rw [← Int32.toInt_inj, Int32.toInt_neg, zi_toInt, zi_toInt, Int.bmod_def]
  split <;> omega
theorem zi_mul (a b : Int) : Int32.ofInt a * Int32.ofInt b = Int32.ofInt (a * b) := by
  rw [← Int32.toInt_inj, Int32.toInt_mul, Int32.toInt_ofInt, Int32.toInt_ofInt, Int32.toInt_ofInt, show Int32.size = 2 ^ 32 from rfl]
  rw [Int.bmod_mul_bmod, Int.mul_comm, Int.bmod_mul_bmod, Int.mul_comm]
def zb (x : Int64) : Nat := x.toBitVec.toNat
theorem zb_of (x : Int64) : Int64.ofNat (zb x) = x := by
  unfold zb
  rw [Int64.ofNat_bitVecToNat, Int64.ofBitVec_toBitVec]
def zand (a b : Int) : Int := (Int32.ofInt a &&& Int32.ofInt b).toInt
def zor (a b : Int) : Int := (Int32.ofInt a ||| Int32.ofInt b).toInt
def zxor (a b : Int) : Int := (Int32.ofInt a ^^^ Int32.ofInt b).toInt
def zshl (a b : Int) : Int := (Int32.ofInt a <<< (Int32.ofInt b &&& 31)).toInt
def zshr (a b : Int) : Int := (Int32.ofInt a >>> (Int32.ofInt b &&& 31)).toInt
def zush (a b : Int) : Int := (((Int32.ofInt a).toUInt32 >>> ((Int32.ofInt b).toUInt32 &&& Int32.toUInt32 31)).toInt32).toInt
def zdiv (a b : Int) : Int := (Int32.ofInt a / Int32.ofInt b).toInt
def zrem (a b : Int) : Int := (Int32.ofInt a - Int32.ofInt a / Int32.ofInt b * Int32.ofInt b).toInt
def zladd (a b : Nat) : Nat := zb (Int64.ofNat a + Int64.ofNat b)
def zlsub (a b : Nat) : Nat := zb (Int64.ofNat a - Int64.ofNat b)
def zland (a b : Nat) : Nat := zb (Int64.ofNat a &&& Int64.ofNat b)
def zlor (a b : Nat) : Nat := zb (Int64.ofNat a ||| Int64.ofNat b)
def zlxor (a b : Nat) : Nat := zb (Int64.ofNat a ^^^ Int64.ofNat b)
def zlneg (a : Nat) : Nat := zb (-Int64.ofNat a)
def zlshl (a : Nat) (b : Int) : Nat := zb (Int64.ofNat a <<< ((Int32.ofInt b).toInt64 &&& 63))
def zlshr (a : Nat) (b : Int) : Nat := zb (Int64.ofNat a >>> ((Int32.ofInt b).toInt64 &&& 63))
def zlush (a : Nat) (b : Int) : Nat := zb (((Int64.ofNat a).toUInt64 >>> ((Int32.ofInt b).toInt64.toUInt64 &&& Int64.toUInt64 63)).toInt64)
def zi2l (a : Int) : Nat := zb (Int32.ofInt a).toInt64
def zl2i (a : Nat) : Int := (Int64.ofNat a).toInt32.toInt
def zcmp (a b : Nat) : Int := (lg_cmp (Int64.ofNat a) (Int64.ofNat b)).toInt
/-- a store into the locals: what it covers is forgotten -/
def zkill (ls : List (Option zV)) : Nat → List (Option zV)
  | 0 => ls
  | j + 1 => match ls[j]? with
    | some (some (.inr (.inl _))) => ls.set j none
    | _ => ls
def zst1 (ls : List (Option zV)) (i : Nat) (v : zV) : List (Option zV) := (zkill ls i).set i (some v)
def zst2 (ls : List (Option zV)) (i : Nat) (v : zV) : List (Option zV) := ((zkill ls i).set i (some v)).set (i + 1) none
theorem zkill_len (ls : List (Option zV)) (i : Nat) : (zkill ls i).length = ls.length := by
  cases i with
  | zero => rfl
  | succ j => simp only [zkill]; split <;> simp
theorem zkill_get {ls : List (Option zV)} {i j : Nat} {v : zV} (h : (zkill ls i)[j]? = some (some v)) : ls[j]? = some (some v) ∧ (j + 1 = i → ∀ n, v ≠ .inr (.inl n)) := by
  cases i with
  | zero => exact ⟨h, fun e => by omega⟩
  | succ k =>
    simp only [zkill] at h
    split at h
    · rename_i n hn
      by_cases e : k = j
      · subst e
        rw [List.getElem?_set_self (List.getElem?_eq_some_iff.mp hn).1] at h
        cases h
      · rw [List.getElem?_set_ne e] at h
        exact ⟨h, fun e2 => by omega⟩
    · rename_i hn
      refine ⟨h, fun e n e2 => ?_⟩
      have : j = k := by omega
      subst this
      subst e2
      exact hn n h
theorem zv_cat (ad : Nat → Nat) (v : zV) (h : (zv ad v).category = 2) : ∃ n, v = .inr (.inl n) := by
  rcases v with a | n | x
  · cases h
  · exact ⟨n, rfl⟩
  · cases x <;> cases h
/-- the list that the kit's rows ask for -/
def zla (ad : Nat → Nat) (ls : List (Option zV)) : List (Nat × Value) := (List.range ls.length).filterMap (fun i => match ls[i]? with
  | some (some v) => some (i, zv ad v)
  | _ => none)
theorem zla_mem {ad : Nat → Nat} {ls : List (Option zV)} {q : Nat × Value} : q ∈ zla ad ls ↔ ∃ v, ls[q.1]? = some (some v) ∧ q.2 = zv ad v := by
  obtain ⟨i, w⟩ := q
  unfold zla
  rw [List.mem_filterMap]
  constructor
  · rintro ⟨j, -, h⟩
    split at h
    · rename_i v hv
      cases h
      exact ⟨v, hv, rfl⟩
    · cases h
  · rintro ⟨v, hv, e⟩
    dsimp only at hv e
    refine ⟨i, List.mem_range.mpr (List.getElem?_eq_some_iff.mp hv).1, ?_⟩
    rw [hv, e]
theorem zL.has {ad : Nat → Nat} {nL : Nat} {ls : List (Option zV)} {LS : Array Slot} (h : zL ad nL ls LS) : lv_has LS nL (zla ad ls) := by
  refine ⟨h.1, h.2.2.1, fun q hq => ?_⟩
  obtain ⟨v, h1, h2⟩ := zla_mem.mp hq
  rw [h2]
  exact h.2.2.2 q.1 v h1
theorem zL.st1 {ad : Nat → Nat} {nL : Nat} {ls : List (Option zV)} {LS LS' : Array Slot} {i : Nat} {v : zV} (h : zL ad nL ls LS) (h' : lv_has LS' nL ((i, zv ad v) :: (zla ad ls).filter (fun q => !(q.1 == i) && !(q.1 + 1 == i && q.2.category == 2)))) (hi : i < ls.length) : zL ad nL (zst1 ls i v) LS' := by
  refine ⟨h'.1, by unfold zst1; rw [List.length_set, zkill_len]; exact h.2.1, h'.2.1, fun j w hj => ?_⟩
  unfold zst1 at hj
  by_cases e : i = j
  · subst e
    rw [List.getElem?_set_self (by rw [zkill_len]; exact hi)] at hj
    cases hj
    exact h'.2.2 (i, zv ad v) List.mem_cons_self
  · rw [List.getElem?_set_ne e] at hj
    obtain ⟨h1, h2⟩ := zkill_get hj
    refine h'.2.2 (j, zv ad w) (List.mem_cons_of_mem _ (List.mem_filter.mpr ⟨zla_mem.mpr ⟨w, h1, rfl⟩, ?_⟩))
    simp only [Bool.and_eq_true, Bool.not_eq_true', beq_eq_false_iff_ne, ne_eq, Bool.and_eq_false_iff]
    refine ⟨fun e2 => e e2.symm, ?_⟩
    by_cases e3 : j + 1 = i
    · refine Or.inr fun e4 => ?_
      obtain ⟨n, hn⟩ := zv_cat ad w e4
      exact h2 e3 n hn
    · exact Or.inl e3
theorem zL.st2 {ad : Nat → Nat} {nL : Nat} {ls : List (Option zV)} {LS LS' : Array Slot} {i : Nat} {v : zV} (h : zL ad nL ls LS) (h' : lv_has LS' nL ((i, zv ad v) :: (zla ad ls).filter (fun q => !(q.1 == i) && (!(q.1 == i + 1) && !(q.1 + 1 == i && q.2.category == 2))))) (hi : i < ls.length) : zL ad nL (zst2 ls i v) LS' := by
  refine ⟨h'.1, by unfold zst2; rw [List.length_set, List.length_set, zkill_len]; exact h.2.1, h'.2.1, fun j w hj => ?_⟩
  unfold zst2 at hj
  by_cases e1 : i + 1 = j
  · subst e1
    rw [List.getElem?_set] at hj
    simp only [List.length_set, if_true] at hj
    split at hj <;> cases hj
  rw [List.getElem?_set_ne e1] at hj
  by_cases e : i = j
  · subst e
    rw [List.getElem?_set_self (by rw [zkill_len]; exact hi)] at hj
    cases hj
    exact h'.2.2 (i, zv ad v) List.mem_cons_self
  · rw [List.getElem?_set_ne e] at hj
    obtain ⟨h1, h2⟩ := zkill_get hj
    refine h'.2.2 (j, zv ad w) (List.mem_cons_of_mem _ (List.mem_filter.mpr ⟨zla_mem.mpr ⟨w, h1, rfl⟩, ?_⟩))
    simp only [Bool.and_eq_true, Bool.not_eq_true', beq_eq_false_iff_ne, ne_eq, Bool.and_eq_false_iff]
    refine ⟨fun e2 => e e2.symm, fun e2 => e1 e2.symm, ?_⟩
    by_cases e3 : j + 1 = i
    · refine Or.inr fun e4 => ?_
      obtain ⟨n, hn⟩ := zv_cat ad w e4
      exact h2 e3 n hn
    · exact Or.inl e3
section ZOPS
variable {X : zX} {M : zM} {pc n aux : Nat} {ls : List (Option zV)} {st : List zV} {F I : zFi} {J : zJi}
theorem zrow {i : Instr} (hX : ZF X M) (hr : (pc, i, n, aux) ∈ M.2.1) : ∃ d, zorig pc i n aux = some d ∧ decode M.1 pc = .ok (d, n) ∧ zlen i n = true ∧ zside M i n aux = true := zok_spec (hX.2.2.2.2.2.2.2 _ hr)
theorem hw_iconst {v : Int} (hX : ZF X M) (hr : (pc, .iconst v, n, aux) ∈ M.2.1) (k : HW X (pc + n) ls (.inl v :: st) F I J) : HW X pc ls st F I J := by
  obtain ⟨d, h1, h2, -, h4⟩ := zrow hX hr
  obtain ⟨hx, hb, hown, hts, -⟩ := hX
  intro H locs LS hW hS hL
  have kk := k H locs LS hW hS hL
  unfold zorig at h1
  dsimp only at h1
  split at h1
  · cases h1
    exact lv_iconst hx hb h2 rfl kk
  · split at h1
    · rename_i hv
      cases h1
      exact lv_bipush hx hb h2 (Int8.toInt32_ofInt (show (-128 : Int) ≤ v by omega) (show v ≤ (127 : Int) by omega)) kk
    · cases h1
  · split at h1
    · rename_i hv
      cases h1
      exact lv_sipush hx hb h2 (Int16.toInt32_ofInt (show (-32768 : Int) ≤ v by omega) (show v ≤ (32767 : Int) by omega)) kk
    · cases h1
  · cases h1
    exact lv_ldc hx hb hown (hts _ (of_decide_eq_true h4)) h2 kk
  · cases h1
    exact lv_ldcw hx hb hown (hts _ (of_decide_eq_true h4)) h2 kk
  · cases h1
theorem hw_lconst {v : Fin 2} (hX : ZF X M) (hr : (pc, .lconst v, n, aux) ∈ M.2.1) (k : HW X (pc + n) ls (.inr (.inl v.val) :: st) F I J) : HW X pc ls st F I J := by
  obtain ⟨d, h1, h2, h3, -⟩ := zrow hX hr
  cases h1
  cases (beq_iff_eq.mp h3 : n = 1)
  intro H locs LS hW hS hL
  exact lv_lconst hX.1 hX.2.1 h2 rfl (k H locs LS hW hS hL)
theorem hw_ldc2 {v : Nat} (hX : ZF X M) (hr : (pc, .ldc2_w v, n, aux) ∈ M.2.1) (k : HW X (pc + n) ls (.inr (.inl v) :: st) F I J) : HW X pc ls st F I J := by
  obtain ⟨d, h1, h2, h3, h4⟩ := zrow hX hr
  cases h1
  cases (beq_iff_eq.mp h3 : n = 3)
  intro H locs LS hW hS hL
  exact lv_ldc2 hX.1 hX.2.1 hX.2.2.1 (hX.2.2.2.1 _ (of_decide_eq_true h4)) h2 (k H locs LS hW hS hL)
theorem hw_iload {i : Nat} {x : Int} (hX : ZF X M) (hr : (pc, .iload i, n, aux) ∈ M.2.1) (hl : ls[i]? = some (some (.inl x))) (k : HW X (pc + n) ls (.inl x :: st) F I J) : HW X pc ls st F I J := by
  obtain ⟨d, h1, h2, h3, -⟩ := zrow hX hr
  obtain ⟨hx, hb, -⟩ := hX
  intro H locs LS hW hS hL
  have kk := k H locs LS hW hS hL
  have hl' := hL.2.2.2 i _ hl
  unfold zorig at h1
  dsimp only at h1
  split at h1
  · split at h1
    · cases h1
      exact lv_iload_n hx hb h2 rfl hl' kk
    · cases h1
  · cases h1
    rename_i hn
    have : n = 2 := by
      simp only [zlen, Bool.or_eq_true, beq_iff_eq] at h3
      exact h3.resolve_left hn
    subst this
    exact lv_iload hx hb h2 hl' kk
theorem hw_lload {i : Nat} {x : Nat} (hX : ZF X M) (hr : (pc, .lload i, n, aux) ∈ M.2.1) (hl : ls[i]? = some (some (.inr (.inl x)))) (k : HW X (pc + n) ls (.inr (.inl x) :: st) F I J) : HW X pc ls st F I J := by
  obtain ⟨d, h1, h2, h3, -⟩ := zrow hX hr
  obtain ⟨hx, hb, -⟩ := hX
  intro H locs LS hW hS hL
  have kk := k H locs LS hW hS hL
  have hl' := hL.2.2.2 i _ hl
  unfold zorig at h1
  dsimp only at h1
  split at h1
  · split at h1
    · cases h1
      exact lv_lload_n hx hb h2 rfl hl' kk
    · cases h1
  · cases h1
    rename_i hn
    have : n = 2 := by
      simp only [zlen, Bool.or_eq_true, beq_iff_eq] at h3
      exact h3.resolve_left hn
    subst this
    exact lv_lload hx hb h2 hl' kk
theorem hw_aload {i : Nat} {x : Option Nat} (hX : ZF X M) (hr : (pc, .aload i, n, aux) ∈ M.2.1) (hl : ls[i]? = some (some (.inr (.inr x)))) (k : HW X (pc + n) ls (.inr (.inr x) :: st) F I J) : HW X pc ls st F I J := by
  obtain ⟨d, h1, h2, h3, -⟩ := zrow hX hr
  obtain ⟨hx, hb, -⟩ := hX
  intro H locs LS hW hS hL
  have kk := k H locs LS hW hS hL
  have hl' := hL.2.2.2 i _ hl
  unfold zorig at h1
  dsimp only at h1
  split at h1
  · split at h1
    · cases h1
      cases x with
      | none => exact lv_aload_nN hx hb h2 rfl hl' kk
      | some x => exact lv_aload_n hx hb h2 rfl hl' kk
    · cases h1
  · cases h1
    rename_i hn
    have : n = 2 := by
      simp only [zlen, Bool.or_eq_true, beq_iff_eq] at h3
      exact h3.resolve_left hn
    subst this
    cases x with
    | none => exact lv_aloadN hx hb h2 hl' kk
    | some x => exact lv_aload hx hb h2 hl' kk
theorem hw_istore {i : Nat} {x : Int} (hX : ZF X M) (hr : (pc, .istore i, n, aux) ∈ M.2.1) (hi : i < ls.length) (k : HW X (pc + n) (zst1 ls i (.inl x)) st F I J) : HW X pc ls (.inl x :: st) F I J := by
  obtain ⟨d, h1, h2, h3, -⟩ := zrow hX hr
  obtain ⟨hx, hb, -⟩ := hX
  intro H locs LS hW hS hL
  unfold zorig at h1
  dsimp only at h1
  split at h1
  · split at h1
    · cases h1
      exact lv_istore_n hx hb h2 rfl hL.has (Nat.lt_of_lt_of_le hi hL.2.1) rfl fun LS' h' => k H locs LS' hW hS (hL.st1 (v := .inl x) h' hi)
    · cases h1
  · cases h1
    rename_i hn
    have : n = 2 := by
      simp only [zlen, Bool.or_eq_true, beq_iff_eq] at h3
      exact h3.resolve_left hn
    subst this
    exact lv_istore hx hb h2 hL.has (Nat.lt_of_lt_of_le hi hL.2.1) rfl fun LS' h' => k H locs LS' hW hS (hL.st1 (v := .inl x) h' hi)
theorem hw_astore {i : Nat} {x : Option Nat} (hX : ZF X M) (hr : (pc, .astore i, n, aux) ∈ M.2.1) (hi : i < ls.length) (k : HW X (pc + n) (zst1 ls i (.inr (.inr x))) st F I J) : HW X pc ls (.inr (.inr x) :: st) F I J := by
  obtain ⟨d, h1, h2, h3, -⟩ := zrow hX hr
  obtain ⟨hx, hb, -⟩ := hX
  intro H locs LS hW hS hL
  unfold zorig at h1
  dsimp only at h1
  split at h1
  · split at h1
    · cases h1
      cases x with
      | none => exact lv_astore_nN hx hb h2 rfl hL.has (Nat.lt_of_lt_of_le hi hL.2.1) rfl fun LS' h' => k H locs LS' hW hS (hL.st1 (v := .inr (.inr none)) h' hi)
      | some x => exact lv_astore_n hx hb h2 rfl hL.has (Nat.lt_of_lt_of_le hi hL.2.1) rfl fun LS' h' => k H locs LS' hW hS (hL.st1 (v := .inr (.inr (some x))) h' hi)
    · cases h1
  · cases h1
    rename_i hn
    have : n = 2 := by
      simp only [zlen, Bool.or_eq_true, beq_iff_eq] at h3
      exact h3.resolve_left hn
    subst this
    cases x with
    | none => exact lv_astoreN hx hb h2 hL.has (Nat.lt_of_lt_of_le hi hL.2.1) rfl fun LS' h' => k H locs LS' hW hS (hL.st1 (v := .inr (.inr none)) h' hi)
    | some x => exact lv_astore hx hb h2 hL.has (Nat.lt_of_lt_of_le hi hL.2.1) rfl fun LS' h' => k H locs LS' hW hS (hL.st1 (v := .inr (.inr (some x))) h' hi)
theorem hw_lstore {i : Nat} {x : Nat} (hX : ZF X M) (hr : (pc, .lstore i, n, aux) ∈ M.2.1) (hi : i + 1 < ls.length) (k : HW X (pc + n) (zst2 ls i (.inr (.inl x))) st F I J) : HW X pc ls (.inr (.inl x) :: st) F I J := by
  obtain ⟨d, h1, h2, h3, -⟩ := zrow hX hr
  obtain ⟨hx, hb, -⟩ := hX
  intro H locs LS hW hS hL
  unfold zorig at h1
  dsimp only at h1
  split at h1
  · split at h1
    · cases h1
      exact lv_lstore_n hx hb h2 rfl hL.has (Nat.lt_of_lt_of_le hi hL.2.1) rfl fun LS' h' => k H locs LS' hW hS (hL.st2 (v := .inr (.inl x)) h' (by omega))
    · cases h1
  · cases h1
    rename_i hn
    have : n = 2 := by
      simp only [zlen, Bool.or_eq_true, beq_iff_eq] at h3
      exact h3.resolve_left hn
    subst this
    exact lv_lstore hx hb h2 hL.has (Nat.lt_of_lt_of_le hi hL.2.1) rfl fun LS' h' => k H locs LS' hW hS (hL.st2 (v := .inr (.inl x)) h' (by omega))
theorem hw_iinc {i : Nat} {x w : Int} (hX : ZF X M) (hr : (pc, .iinc i w, n, aux) ∈ M.2.1) (hl : ls[i]? = some (some (.inl x))) (k : HW X (pc + n) (zst1 ls i (.inl (x + w))) st F I J) : HW X pc ls st F I J := by
  obtain ⟨d, h1, h2, h3, -⟩ := zrow hX hr
  cases h1
  cases (beq_iff_eq.mp h3 : n = 3)
  obtain ⟨hx, hb, -⟩ := hX
  intro H locs LS hW hS hL
  have hi : i < ls.length := (List.getElem?_eq_some_iff.mp hl).1
  obtain ⟨k0, hk0⟩ := List.getElem?_of_mem (zla_mem (ad := xad X) (q := (i, .int (Int32.ofInt x))).mpr ⟨_, hl, rfl⟩)
  exact lv_iinc (v := Int32.ofInt (x + w)) hx hb h2 hL.has hk0 (zi_add x w) (Nat.lt_of_lt_of_le hi hL.2.1) rfl fun LS' h' => k H locs LS' hW hS (hL.st1 (v := .inl (x + w)) h' hi)
end ZOPS
end
section
/-! ENGINE, part 3: arithmetic, branches, fields, arrays -/
section ZOPT
variable {X : zX} {M : zM} {pc n aux : Nat} {ls : List (Option zV)} {st : List zV} {F I : zFi} {J : zJi}
theorem hw_iadd {a b : Int} (hX : ZF X M) (hr : (pc, .iadd, n, aux) ∈ M.2.1) (k : HW X (pc + n) ls (.inl (a + b) :: st) F I J) : HW X pc ls (.inl b :: .inl a :: st) F I J := by
  obtain ⟨d, h1, h2, h3, -⟩ := zrow hX hr
  cases h1
  cases (beq_iff_eq.mp h3 : n = 1)
  intro H locs LS hW hS hL
  have kk := k H locs LS hW hS hL
  refine lv_iadd hX.1 hX.2.1 h2 ?_
  rw [zi_add]
  exact kk
theorem hw_isub {a b : Int} (hX : ZF X M) (hr : (pc, .isub, n, aux) ∈ M.2.1) (k : HW X (pc + n) ls (.inl (a - b) :: st) F I J) : HW X pc ls (.inl b :: .inl a :: st) F I J := by
  obtain ⟨d, h1, h2, h3, -⟩ := zrow hX hr
  cases h1
  cases (beq_iff_eq.mp h3 : n = 1)
  intro H locs LS hW hS hL
  have kk := k H locs LS hW hS hL
  refine lv_isub hX.1 hX.2.1 h2 ?_
  rw [zi_sub]
  exact kk
theorem hw_imul {a b : Int} (hX : ZF X M) (hr : (pc, .imul, n, aux) ∈ M.2.1) (k : HW X (pc + n) ls (.inl (a * b) :: st) F I J) : HW X pc ls (.inl b :: .inl a :: st) F I J := by
  obtain ⟨d, h1, h2, h3, -⟩ := zrow hX hr
  cases h1
  cases (beq_iff_eq.mp h3 : n = 1)
  intro H locs LS hW hS hL
  have kk := k H locs LS hW hS hL
  refine lv_imul hX.1 hX.2.1 h2 ?_
  rw [zi_mul]
  exact kk
theorem hw_iand {a b : Int} (hX : ZF X M) (hr : (pc, .iand, n, aux) ∈ M.2.1) (k : HW X (pc + n) ls (.inl (zand a b) :: st) F I J) : HW X pc ls (.inl b :: .inl a :: st) F I J := by
  obtain ⟨d, h1, h2, h3, -⟩ := zrow hX hr
  cases h1
  cases (beq_iff_eq.mp h3 : n = 1)
  intro H locs LS hW hS hL
  have kk := k H locs LS hW hS hL
  refine lv_iand hX.1 hX.2.1 h2 ?_
  rw [show List.map (zv (xad X)) (.inl (zand a b) :: st) = .int (Int32.ofInt (zand a b)) :: st.map (zv (xad X)) from rfl, zand, Int32.ofInt_toInt] at kk
  exact kk
theorem hw_ior {a b : Int} (hX : ZF X M) (hr : (pc, .ior, n, aux) ∈ M.2.1) (k : HW X (pc + n) ls (.inl (zor a b) :: st) F I J) : HW X pc ls (.inl b :: .inl a :: st) F I J := by
  obtain ⟨d, h1, h2, h3, -⟩ := zrow hX hr
  cases h1
  cases (beq_iff_eq.mp h3 : n = 1)
  intro H locs LS hW hS hL
  have kk := k H locs LS hW hS hL
  refine lv_ior hX.1 hX.2.1 h2 ?_
  rw [show List.map (zv (xad X)) (.inl (zor a b) :: st) = .int (Int32.ofInt (zor a b)) :: st.map (zv (xad X)) from rfl, zor, Int32.ofInt_toInt] at kk
  exact kk
theorem hw_ixor {a b : Int} (hX : ZF X M) (hr : (pc, .ixor, n, aux) ∈ M.2.1) (k : HW X (pc + n) ls (.inl (zxor a b) :: st) F I J) : HW X pc ls (.inl b :: .inl a :: st) F I J := by
  obtain ⟨d, h1, h2, h3, -⟩ := zrow hX hr
  cases h1
  cases (beq_iff_eq.mp h3 : n = 1)
  intro H locs LS hW hS hL
  have kk := k H locs LS hW hS hL
  refine lv_ixor hX.1 hX.2.1 h2 ?_
  rw [show List.map (zv (xad X)) (.inl (zxor a b) :: st) = .int (Int32.ofInt (zxor a b)) :: st.map (zv (xad X)) from rfl, zxor, Int32.ofInt_toInt] at kk
  exact kk
theorem hw_ishl {a b : Int} (hX : ZF X M) (hr : (pc, .ishl, n, aux) ∈ M.2.1) (k : HW X (pc + n) ls (.inl (zshl a b) :: st) F I J) : HW X pc ls (.inl b :: .inl a :: st) F I J := by
  obtain ⟨d, h1, h2, h3, -⟩ := zrow hX hr
  cases h1
  cases (beq_iff_eq.mp h3 : n = 1)
  intro H locs LS hW hS hL
  have kk := k H locs LS hW hS hL
  refine lv_ishl hX.1 hX.2.1 h2 ?_
  rw [show List.map (zv (xad X)) (.inl (zshl a b) :: st) = .int (Int32.ofInt (zshl a b)) :: st.map (zv (xad X)) from rfl, zshl, Int32.ofInt_toInt] at kk
  exact kk
theorem hw_ishr {a b : Int} (hX : ZF X M) (hr : (pc, .ishr, n, aux) ∈ M.2.1) (k : HW X (pc + n) ls (.inl (zshr a b) :: st) F I J) : HW X pc ls (.inl b :: .inl a :: st) F I J := by
  obtain ⟨d, h1, h2, h3, -⟩ := zrow hX hr
  cases h1
  cases (beq_iff_eq.mp h3 : n = 1)
  intro H locs LS hW hS hL
  have kk := k H locs LS hW hS hL
  refine lv_ishr hX.1 hX.2.1 h2 ?_
  rw [show List.map (zv (xad X)) (.inl (zshr a b) :: st) = .int (Int32.ofInt (zshr a b)) :: st.map (zv (xad X)) from rfl, zshr, Int32.ofInt_toInt] at kk
  exact kk
theorem hw_iushr {a b : Int} (hX : ZF X M) (hr : (pc, .iushr, n, aux) ∈ M.2.1) (k : HW X (pc + n) ls (.inl (zush a b) :: st) F I J) : HW X pc ls (.inl b :: .inl a :: st) F I J := by
  obtain ⟨d, h1, h2, h3, -⟩ := zrow hX hr
  cases h1
  cases (beq_iff_eq.mp h3 : n = 1)
  intro H locs LS hW hS hL
  have kk := k H locs LS hW hS hL
  refine lv_iushr hX.1 hX.2.1 h2 rfl ?_
  rw [show List.map (zv (xad X)) (.inl (zush a b) :: st) = .int (Int32.ofInt (zush a b)) :: st.map (zv (xad X)) from rfl, zush, Int32.ofInt_toInt] at kk
  exact kk
theorem hw_idiv {a b : Int} (hX : ZF X M) (hr : (pc, .idiv, n, aux) ∈ M.2.1) (hne : ¬ b % 4294967296 = 0) (k : HW X (pc + n) ls (.inl (zdiv a b) :: st) F I J) : HW X pc ls (.inl b :: .inl a :: st) F I J := by
  obtain ⟨d, h1, h2, h3, -⟩ := zrow hX hr
  cases h1
  cases (beq_iff_eq.mp h3 : n = 1)
  intro H locs LS hW hS hL
  have kk := k H locs LS hW hS hL
  refine lv_idiv hX.1 hX.2.1 h2 (fun e => hne ((zi_eq b 0).mp e)) ?_
  rw [show List.map (zv (xad X)) (.inl (zdiv a b) :: st) = .int (Int32.ofInt (zdiv a b)) :: st.map (zv (xad X)) from rfl, zdiv, Int32.ofInt_toInt] at kk
  exact kk
theorem hw_irem {a b : Int} (hX : ZF X M) (hr : (pc, .irem, n, aux) ∈ M.2.1) (hne : ¬ b % 4294967296 = 0) (k : HW X (pc + n) ls (.inl (zrem a b) :: st) F I J) : HW X pc ls (.inl b :: .inl a :: st) F I J := by
  obtain ⟨d, h1, h2, h3, -⟩ := zrow hX hr
  cases h1
  cases (beq_iff_eq.mp h3 : n = 1)
  intro H locs LS hW hS hL
  have kk := k H locs LS hW hS hL
  refine lv_irem hX.1 hX.2.1 h2 (fun e => hne ((zi_eq b 0).mp e)) ?_
  rw [show List.map (zv (xad X)) (.inl (zrem a b) :: st) = .int (Int32.ofInt (zrem a b)) :: st.map (zv (xad X)) from rfl, zrem, Int32.ofInt_toInt] at kk
  exact kk
theorem hw_ineg {a : Int} (hX : ZF X M) (hr : (pc, .ineg, n, aux) ∈ M.2.1) (k : HW X (pc + n) ls (.inl (-a) :: st) F I J) : HW X pc ls (.inl a :: st) F I J := by
  obtain ⟨d, h1, h2, h3, -⟩ := zrow hX hr
  cases h1
  cases (beq_iff_eq.mp h3 : n = 1)
  intro H locs LS hW hS hL
  have kk := k H locs LS hW hS hL
  refine lv_ineg hX.1 hX.2.1 h2 ?_
  rw [zi_neg]
  exact kk
theorem hw_ladd {a b : Nat} (hX : ZF X M) (hr : (pc, .ladd, n, aux) ∈ M.2.1) (k : HW X (pc + n) ls (.inr (.inl (zladd a b)) :: st) F I J) : HW X pc ls (.inr (.inl b) :: .inr (.inl a) :: st) F I J := by
  obtain ⟨d, h1, h2, h3, -⟩ := zrow hX hr
  cases h1
  cases (beq_iff_eq.mp h3 : n = 1)
  intro H locs LS hW hS hL
  have kk := k H locs LS hW hS hL
  refine lv_ladd hX.1 hX.2.1 h2 ?_
  rw [show List.map (zv (xad X)) (.inr (.inl (zladd a b)) :: st) = .long (Int64.ofNat (zladd a b)) :: st.map (zv (xad X)) from rfl, zladd, zb_of] at kk
  exact kk
theorem hw_lsub {a b : Nat} (hX : ZF X M) (hr : (pc, .lsub, n, aux) ∈ M.2.1) (k : HW X (pc + n) ls (.inr (.inl (zlsub a b)) :: st) F I J) : HW X pc ls (.inr (.inl b) :: .inr (.inl a) :: st) F I J := by
  obtain ⟨d, h1, h2, h3, -⟩ := zrow hX hr
  cases h1
  cases (beq_iff_eq.mp h3 : n = 1)
  intro H locs LS hW hS hL
  have kk := k H locs LS hW hS hL
  refine lv_lsub hX.1 hX.2.1 h2 ?_
  rw [show List.map (zv (xad X)) (.inr (.inl (zlsub a b)) :: st) = .long (Int64.ofNat (zlsub a b)) :: st.map (zv (xad X)) from rfl, zlsub, zb_of] at kk
  exact kk
theorem hw_land {a b : Nat} (hX : ZF X M) (hr : (pc, .land, n, aux) ∈ M.2.1) (k : HW X (pc + n) ls (.inr (.inl (zland a b)) :: st) F I J) : HW X pc ls (.inr (.inl b) :: .inr (.inl a) :: st) F I J := by
  obtain ⟨d, h1, h2, h3, -⟩ := zrow hX hr
  cases h1
  cases (beq_iff_eq.mp h3 : n = 1)
  intro H locs LS hW hS hL
  have kk := k H locs LS hW hS hL
  refine lv_land hX.1 hX.2.1 h2 ?_
  rw [show List.map (zv (xad X)) (.inr (.inl (zland a b)) :: st) = .long (Int64.ofNat (zland a b)) :: st.map (zv (xad X)) from rfl, zland, zb_of] at kk
  exact kk
theorem hw_lor {a b : Nat} (hX : ZF X M) (hr : (pc, .lor, n, aux) ∈ M.2.1) (k : HW X (pc + n) ls (.inr (.inl (zlor a b)) :: st) F I J) : HW X pc ls (.inr (.inl b) :: .inr (.inl a) :: st) F I J := by
  obtain ⟨d, h1, h2, h3, -⟩ := zrow hX hr
  cases h1
  cases (beq_iff_eq.mp h3 : n = 1)
  intro H locs LS hW hS hL
  have kk := k H locs LS hW hS hL
  refine lv_lor hX.1 hX.2.1 h2 ?_
  rw [show List.map (zv (xad X)) (.inr (.inl (zlor a b)) :: st) = .long (Int64.ofNat (zlor a b)) :: st.map (zv (xad X)) from rfl, zlor, zb_of] at kk
  exact kk
theorem hw_lxor {a b : Nat} (hX : ZF X M) (hr : (pc, .lxor, n, aux) ∈ M.2.1) (k : HW X (pc + n) ls (.inr (.inl (zlxor a b)) :: st) F I J) : HW X pc ls (.inr (.inl b) :: .inr (.inl a) :: st) F I J := by
  obtain ⟨d, h1, h2, h3, -⟩ := zrow hX hr
  cases h1
  cases (beq_iff_eq.mp h3 : n = 1)
  intro H locs LS hW hS hL
  have kk := k H locs LS hW hS hL
  refine lv_lxor hX.1 hX.2.1 h2 ?_
  rw [show List.map (zv (xad X)) (.inr (.inl (zlxor a b)) :: st) = .long (Int64.ofNat (zlxor a b)) :: st.map (zv (xad X)) from rfl, zlxor, zb_of] at kk
  exact kk
theorem hw_lneg {a : Nat} (hX : ZF X M) (hr : (pc, .lneg, n, aux) ∈ M.2.1) (k : HW X (pc + n) ls (.inr (.inl (zlneg a)) :: st) F I J) : HW X pc ls (.inr (.inl a) :: st) F I J := by
  obtain ⟨d, h1, h2, h3, -⟩ := zrow hX hr
  cases h1
  cases (beq_iff_eq.mp h3 : n = 1)
  intro H locs LS hW hS hL
  have kk := k H locs LS hW hS hL
  refine lv_lneg hX.1 hX.2.1 h2 ?_
  rw [show List.map (zv (xad X)) (.inr (.inl (zlneg a)) :: st) = .long (Int64.ofNat (zlneg a)) :: st.map (zv (xad X)) from rfl, zlneg, zb_of] at kk
  exact kk
theorem hw_lshl {a : Nat} {b : Int} (hX : ZF X M) (hr : (pc, .lshl, n, aux) ∈ M.2.1) (k : HW X (pc + n) ls (.inr (.inl (zlshl a b)) :: st) F I J) : HW X pc ls (.inl b :: .inr (.inl a) :: st) F I J := by
  obtain ⟨d, h1, h2, h3, -⟩ := zrow hX hr
  cases h1
  cases (beq_iff_eq.mp h3 : n = 1)
  intro H locs LS hW hS hL
  have kk := k H locs LS hW hS hL
  refine lv_lshl hX.1 hX.2.1 h2 rfl ?_
  rw [show List.map (zv (xad X)) (.inr (.inl (zlshl a b)) :: st) = .long (Int64.ofNat (zlshl a b)) :: st.map (zv (xad X)) from rfl, zlshl, zb_of] at kk
  exact kk
theorem hw_lshr {a : Nat} {b : Int} (hX : ZF X M) (hr : (pc, .lshr, n, aux) ∈ M.2.1) (k : HW X (pc + n) ls (.inr (.inl (zlshr a b)) :: st) F I J) : HW X pc ls (.inl b :: .inr (.inl a) :: st) F I J := by
  obtain ⟨d, h1, h2, h3, -⟩ := zrow hX hr
  cases h1
  cases (beq_iff_eq.mp h3 : n = 1)
  intro H locs LS hW hS hL
  have kk := k H locs LS hW hS hL
  refine lv_lshr hX.1 hX.2.1 h2 rfl ?_
  rw [show List.map (zv (xad X)) (.inr (.inl (zlshr a b)) :: st) = .long (Int64.ofNat (zlshr a b)) :: st.map (zv (xad X)) from rfl, zlshr, zb_of] at kk
  exact kk
theorem hw_lushr {a : Nat} {b : Int} (hX : ZF X M) (hr : (pc, .lushr, n, aux) ∈ M.2.1) (k : HW X (pc + n) ls (.inr (.inl (zlush a b)) :: st) F I J) : HW X pc ls (.inl b :: .inr (.inl a) :: st) F I J := by
  obtain ⟨d, h1, h2, h3, -⟩ := zrow hX hr
  cases h1
  cases (beq_iff_eq.mp h3 : n = 1)
  intro H locs LS hW hS hL
  have kk := k H locs LS hW hS hL
  refine lv_lushr hX.1 hX.2.1 h2 rfl ?_
  rw [show List.map (zv (xad X)) (.inr (.inl (zlush a b)) :: st) = .long (Int64.ofNat (zlush a b)) :: st.map (zv (xad X)) from rfl, zlush, zb_of] at kk
  exact kk
theorem hw_i2l {a : Int} (hX : ZF X M) (hr : (pc, .i2l, n, aux) ∈ M.2.1) (k : HW X (pc + n) ls (.inr (.inl (zi2l a)) :: st) F I J) : HW X pc ls (.inl a :: st) F I J := by
  obtain ⟨d, h1, h2, h3, -⟩ := zrow hX hr
  cases h1
  cases (beq_iff_eq.mp h3 : n = 1)
  intro H locs LS hW hS hL
  have kk := k H locs LS hW hS hL
  refine lv_i2l hX.1 hX.2.1 h2 rfl ?_
  rw [show List.map (zv (xad X)) (.inr (.inl (zi2l a)) :: st) = .long (Int64.ofNat (zi2l a)) :: st.map (zv (xad X)) from rfl, zi2l, zb_of] at kk
  exact kk
theorem hw_l2i {a : Nat} (hX : ZF X M) (hr : (pc, .l2i, n, aux) ∈ M.2.1) (k : HW X (pc + n) ls (.inl (zl2i a) :: st) F I J) : HW X pc ls (.inr (.inl a) :: st) F I J := by
  obtain ⟨d, h1, h2, h3, -⟩ := zrow hX hr
  cases h1
  cases (beq_iff_eq.mp h3 : n = 1)
  intro H locs LS hW hS hL
  have kk := k H locs LS hW hS hL
  refine lv_l2i hX.1 hX.2.1 h2 rfl ?_
  rw [show List.map (zv (xad X)) (.inl (zl2i a) :: st) = .int (Int32.ofInt (zl2i a)) :: st.map (zv (xad X)) from rfl, zl2i, Int32.ofInt_toInt] at kk
  exact kk
theorem hw_lcmp {a b : Nat} (hX : ZF X M) (hr : (pc, .lcmp, n, aux) ∈ M.2.1) (k : HW X (pc + n) ls (.inl (zcmp a b) :: st) F I J) : HW X pc ls (.inr (.inl b) :: .inr (.inl a) :: st) F I J := by
  obtain ⟨d, h1, h2, h3, -⟩ := zrow hX hr
  cases h1
  cases (beq_iff_eq.mp h3 : n = 1)
  intro H locs LS hW hS hL
  have kk := k H locs LS hW hS hL
  refine W.lcmp hX.1 hX.2.1 h2 ?_
  rw [show List.map (zv (xad X)) (.inl (zcmp a b) :: st) = .int (Int32.ofInt (zcmp a b)) :: st.map (zv (xad X)) from rfl, zcmp, Int32.ofInt_toInt] at kk
  exact kk
/-- of one word -/
def z1 : zV → Bool
  | .inr (.inl _) => false
  | _ => true
theorem z1_cat (ad : Nat → Nat) {v : zV} (h : z1 v = true) : (zv ad v).category = 1 := by
  rcases v with a | m | x
  · rfl
  · cases h
  · cases x <;> rfl
theorem hw_dup {v : zV} (hX : ZF X M) (hr : (pc, .dup, n, aux) ∈ M.2.1) (h1v : z1 v = true) (k : HW X (pc + n) ls (v :: v :: st) F I J) : HW X pc ls (v :: st) F I J := by
  obtain ⟨d, h1, h2, h3, -⟩ := zrow hX hr
  cases h1
  cases (beq_iff_eq.mp h3 : n = 1)
  intro H locs LS hW hS hL
  have kk := k H locs LS hW hS hL
  exact lv_dup hX.1 hX.2.1 h2 (z1_cat _ h1v) kk
theorem hw_pop {v : zV} (hX : ZF X M) (hr : (pc, .pop, n, aux) ∈ M.2.1) (h1v : z1 v = true) (k : HW X (pc + n) ls (st) F I J) : HW X pc ls (v :: st) F I J := by
  obtain ⟨d, h1, h2, h3, -⟩ := zrow hX hr
  cases h1
  cases (beq_iff_eq.mp h3 : n = 1)
  intro H locs LS hW hS hL
  have kk := k H locs LS hW hS hL
  exact lv_pop hX.1 hX.2.1 h2 (z1_cat _ h1v) kk
theorem hw_dup2 {v w : zV} (hX : ZF X M) (hr : (pc, .dup2, n, aux) ∈ M.2.1) (h1v : z1 v = true) (h1w : z1 w = true) (k : HW X (pc + n) ls (v :: w :: v :: w :: st) F I J) : HW X pc ls (v :: w :: st) F I J := by
  obtain ⟨d, h1, h2, h3, -⟩ := zrow hX hr
  cases h1
  cases (beq_iff_eq.mp h3 : n = 1)
  intro H locs LS hW hS hL
  have kk := k H locs LS hW hS hL
  exact lv_dup2_11 hX.1 hX.2.1 h2 (z1_cat _ h1v) (z1_cat _ h1w) kk
theorem hw_dup2l {a : Nat} (hX : ZF X M) (hr : (pc, .dup2, n, aux) ∈ M.2.1) (k : HW X (pc + n) ls (.inr (.inl a) :: .inr (.inl a) :: st) F I J) : HW X pc ls (.inr (.inl a) :: st) F I J := by
  obtain ⟨d, h1, h2, h3, -⟩ := zrow hX hr
  cases h1
  cases (beq_iff_eq.mp h3 : n = 1)
  intro H locs LS hW hS hL
  have kk := k H locs LS hW hS hL
  exact lv_dup2_2 hX.1 hX.2.1 h2 rfl kk
theorem hw_null (hX : ZF X M) (hr : (pc, .aconst_null, n, aux) ∈ M.2.1) (k : HW X (pc + n) ls (.inr (.inr none) :: st) F I J) : HW X pc ls (st) F I J := by
  obtain ⟨d, h1, h2, h3, -⟩ := zrow hX hr
  cases h1
  cases (beq_iff_eq.mp h3 : n = 1)
  intro H locs LS hW hS hL
  have kk := k H locs LS hW hS hL
  exact lv_null hX.1 hX.2.1 h2 kk
theorem hw_icmp_eq {a b : Int} {t : Nat} (hX : ZF X M) (hr : (pc, .if_icmp .eq t, n, aux) ∈ M.2.1) (k : (a % 4294967296 = b % 4294967296 → HW X t ls st F I J) ∧ (¬ (a % 4294967296 = b % 4294967296) → HW X (pc + n) ls st F I J)) : HW X pc ls (.inl b :: .inl a :: st) F I J := by
  obtain ⟨d, h1, h2, h3, h4⟩ := zrow hX hr
  cases h1
  cases (beq_iff_eq.mp h3 : n = 3)
  intro H locs LS hW hS hL
  exact lv_icmp_eq (tgt := t) hX.1 hX.2.1 h2 (by omega) (fun c => k.1 ((zi_eq a b).mp c) H locs LS hW hS hL) (fun c => k.2 (fun z => c ((zi_eq a b).mpr z)) H locs LS hW hS hL)
theorem hw_icmp_ne {a b : Int} {t : Nat} (hX : ZF X M) (hr : (pc, .if_icmp .ne t, n, aux) ∈ M.2.1) (k : (¬ a % 4294967296 = b % 4294967296 → HW X t ls st F I J) ∧ (a % 4294967296 = b % 4294967296 → HW X (pc + n) ls st F I J)) : HW X pc ls (.inl b :: .inl a :: st) F I J := by
  obtain ⟨d, h1, h2, h3, h4⟩ := zrow hX hr
  cases h1
  cases (beq_iff_eq.mp h3 : n = 3)
  intro H locs LS hW hS hL
  exact lv_icmp_ne (tgt := t) hX.1 hX.2.1 h2 (by omega) (fun c => k.1 ((not_congr (zi_eq a b)).mp c) H locs LS hW hS hL) (fun c => k.2 ((zi_eq a b).mp c) H locs LS hW hS hL)
theorem hw_icmp_lt {a b : Int} {t : Nat} (hX : ZF X M) (hr : (pc, .if_icmp .lt t, n, aux) ∈ M.2.1) (k : ((a + 2147483648) % 4294967296 < (b + 2147483648) % 4294967296 → HW X t ls st F I J) ∧ (¬ ((a + 2147483648) % 4294967296 < (b + 2147483648) % 4294967296) → HW X (pc + n) ls st F I J)) : HW X pc ls (.inl b :: .inl a :: st) F I J := by
  obtain ⟨d, h1, h2, h3, h4⟩ := zrow hX hr
  cases h1
  cases (beq_iff_eq.mp h3 : n = 3)
  intro H locs LS hW hS hL
  exact lv_icmp_lt (tgt := t) hX.1 hX.2.1 h2 (by omega) (fun c => k.1 ((zi_lt a b).mp c) H locs LS hW hS hL) (fun c => k.2 (fun z => c ((zi_lt a b).mpr z)) H locs LS hW hS hL)
theorem hw_icmp_ge {a b : Int} {t : Nat} (hX : ZF X M) (hr : (pc, .if_icmp .ge t, n, aux) ∈ M.2.1) (k : ((b + 2147483648) % 4294967296 ≤ (a + 2147483648) % 4294967296 → HW X t ls st F I J) ∧ (¬ ((b + 2147483648) % 4294967296 ≤ (a + 2147483648) % 4294967296) → HW X (pc + n) ls st F I J)) : HW X pc ls (.inl b :: .inl a :: st) F I J := by
  obtain ⟨d, h1, h2, h3, h4⟩ := zrow hX hr
  cases h1
  cases (beq_iff_eq.mp h3 : n = 3)
  intro H locs LS hW hS hL
  exact lv_icmp_ge (tgt := t) hX.1 hX.2.1 h2 (by omega) (fun c => k.1 ((zi_le b a).mp c) H locs LS hW hS hL) (fun c => k.2 (fun z => c ((zi_le b a).mpr z)) H locs LS hW hS hL)
theorem hw_icmp_gt {a b : Int} {t : Nat} (hX : ZF X M) (hr : (pc, .if_icmp .gt t, n, aux) ∈ M.2.1) (k : ((b + 2147483648) % 4294967296 < (a + 2147483648) % 4294967296 → HW X t ls st F I J) ∧ (¬ ((b + 2147483648) % 4294967296 < (a + 2147483648) % 4294967296) → HW X (pc + n) ls st F I J)) : HW X pc ls (.inl b :: .inl a :: st) F I J := by
  obtain ⟨d, h1, h2, h3, h4⟩ := zrow hX hr
  cases h1
  cases (beq_iff_eq.mp h3 : n = 3)
  intro H locs LS hW hS hL
  exact lv_icmp_gt (tgt := t) hX.1 hX.2.1 h2 (by omega) (fun c => k.1 ((zi_lt b a).mp c) H locs LS hW hS hL) (fun c => k.2 (fun z => c ((zi_lt b a).mpr z)) H locs LS hW hS hL)
theorem hw_icmp_le {a b : Int} {t : Nat} (hX : ZF X M) (hr : (pc, .if_icmp .le t, n, aux) ∈ M.2.1) (k : ((a + 2147483648) % 4294967296 ≤ (b + 2147483648) % 4294967296 → HW X t ls st F I J) ∧ (¬ ((a + 2147483648) % 4294967296 ≤ (b + 2147483648) % 4294967296) → HW X (pc + n) ls st F I J)) : HW X pc ls (.inl b :: .inl a :: st) F I J := by
  obtain ⟨d, h1, h2, h3, h4⟩ := zrow hX hr
  cases h1
  cases (beq_iff_eq.mp h3 : n = 3)
  intro H locs LS hW hS hL
  exact lv_icmp_le (tgt := t) hX.1 hX.2.1 h2 (by omega) (fun c => k.1 ((zi_le a b).mp c) H locs LS hW hS hL) (fun c => k.2 (fun z => c ((zi_le a b).mpr z)) H locs LS hW hS hL)
theorem hw_if_eq {a : Int} {t : Nat} (hX : ZF X M) (hr : (pc, .ifCond .eq t, n, aux) ∈ M.2.1) (k : (a % 4294967296 = 0 → HW X t ls st F I J) ∧ (¬ (a % 4294967296 = 0) → HW X (pc + n) ls st F I J)) : HW X pc ls (.inl a :: st) F I J := by
  obtain ⟨d, h1, h2, h3, h4⟩ := zrow hX hr
  cases h1
  cases (beq_iff_eq.mp h3 : n = 3)
  intro H locs LS hW hS hL
  exact lv_if_eq (tgt := t) hX.1 hX.2.1 h2 (by omega) (fun c => k.1 ((zi_eq a 0).mp c) H locs LS hW hS hL) (fun c => k.2 (fun z => c ((zi_eq a 0).mpr z)) H locs LS hW hS hL)
theorem hw_if_ne {a : Int} {t : Nat} (hX : ZF X M) (hr : (pc, .ifCond .ne t, n, aux) ∈ M.2.1) (k : (¬ a % 4294967296 = 0 → HW X t ls st F I J) ∧ (a % 4294967296 = 0 → HW X (pc + n) ls st F I J)) : HW X pc ls (.inl a :: st) F I J := by
  obtain ⟨d, h1, h2, h3, h4⟩ := zrow hX hr
  cases h1
  cases (beq_iff_eq.mp h3 : n = 3)
  intro H locs LS hW hS hL
  exact lv_if_ne (tgt := t) hX.1 hX.2.1 h2 (by omega) (fun c => k.1 ((not_congr (zi_eq a 0)).mp c) H locs LS hW hS hL) (fun c => k.2 ((zi_eq a 0).mp c) H locs LS hW hS hL)
theorem hw_if_lt {a : Int} {t : Nat} (hX : ZF X M) (hr : (pc, .ifCond .lt t, n, aux) ∈ M.2.1) (k : ((a + 2147483648) % 4294967296 < 2147483648 → HW X t ls st F I J) ∧ (¬ ((a + 2147483648) % 4294967296 < 2147483648) → HW X (pc + n) ls st F I J)) : HW X pc ls (.inl a :: st) F I J := by
  obtain ⟨d, h1, h2, h3, h4⟩ := zrow hX hr
  cases h1
  cases (beq_iff_eq.mp h3 : n = 3)
  intro H locs LS hW hS hL
  exact lv_if_lt (tgt := t) hX.1 hX.2.1 h2 (by omega) (fun c => k.1 ((zi_lt a 0).mp c) H locs LS hW hS hL) (fun c => k.2 (fun z => c ((zi_lt a 0).mpr z)) H locs LS hW hS hL)
theorem hw_if_ge {a : Int} {t : Nat} (hX : ZF X M) (hr : (pc, .ifCond .ge t, n, aux) ∈ M.2.1) (k : (2147483648 ≤ (a + 2147483648) % 4294967296 → HW X t ls st F I J) ∧ (¬ (2147483648 ≤ (a + 2147483648) % 4294967296) → HW X (pc + n) ls st F I J)) : HW X pc ls (.inl a :: st) F I J := by
  obtain ⟨d, h1, h2, h3, h4⟩ := zrow hX hr
  cases h1
  cases (beq_iff_eq.mp h3 : n = 3)
  intro H locs LS hW hS hL
  exact lv_if_ge (tgt := t) hX.1 hX.2.1 h2 (by omega) (fun c => k.1 ((zi_le 0 a).mp c) H locs LS hW hS hL) (fun c => k.2 (fun z => c ((zi_le 0 a).mpr z)) H locs LS hW hS hL)
theorem hw_if_gt {a : Int} {t : Nat} (hX : ZF X M) (hr : (pc, .ifCond .gt t, n, aux) ∈ M.2.1) (k : (2147483648 < (a + 2147483648) % 4294967296 → HW X t ls st F I J) ∧ (¬ (2147483648 < (a + 2147483648) % 4294967296) → HW X (pc + n) ls st F I J)) : HW X pc ls (.inl a :: st) F I J := by
  obtain ⟨d, h1, h2, h3, h4⟩ := zrow hX hr
  cases h1
  cases (beq_iff_eq.mp h3 : n = 3)
  intro H locs LS hW hS hL
  exact lv_if_gt (tgt := t) hX.1 hX.2.1 h2 (by omega) (fun c => k.1 ((zi_lt 0 a).mp c) H locs LS hW hS hL) (fun c => k.2 (fun z => c ((zi_lt 0 a).mpr z)) H locs LS hW hS hL)
theorem hw_if_le {a : Int} {t : Nat} (hX : ZF X M) (hr : (pc, .ifCond .le t, n, aux) ∈ M.2.1) (k : ((a + 2147483648) % 4294967296 ≤ 2147483648 → HW X t ls st F I J) ∧ (¬ ((a + 2147483648) % 4294967296 ≤ 2147483648) → HW X (pc + n) ls st F I J)) : HW X pc ls (.inl a :: st) F I J := by
  obtain ⟨d, h1, h2, h3, h4⟩ := zrow hX hr
  cases h1
  cases (beq_iff_eq.mp h3 : n = 3)
  intro H locs LS hW hS hL
  exact lv_if_le (tgt := t) hX.1 hX.2.1 h2 (by omega) (fun c => k.1 ((zi_le a 0).mp c) H locs LS hW hS hL) (fun c => k.2 (fun z => c ((zi_le a 0).mpr z)) H locs LS hW hS hL)
theorem hw_goto {t : Nat} (hX : ZF X M) (hr : (pc, .goto t, n, aux) ∈ M.2.1) (k : HW X t ls st F I J) : HW X pc ls st F I J := by
  obtain ⟨d, h1, h2, h3, h4⟩ := zrow hX hr
  cases h1
  cases (beq_iff_eq.mp h3 : n = 3)
  intro H locs LS hW hS hL
  exact lv_goto (tgt := t) hX.1 hX.2.1 h2 (by omega) (k H locs LS hW hS hL)
theorem hw_ifnull_n {t : Nat} (hX : ZF X M) (hr : (pc, .ifnull t, n, aux) ∈ M.2.1) (k : HW X t ls st F I J) : HW X pc ls (.inr (.inr none) :: st) F I J := by
  obtain ⟨d, h1, h2, h3, h4⟩ := zrow hX hr
  cases h1
  cases (beq_iff_eq.mp h3 : n = 3)
  intro H locs LS hW hS hL
  exact lv_ifnullN (tgt := t) hX.1 hX.2.1 h2 (by omega) (k H locs LS hW hS hL)
theorem hw_ifnull_s {t : Nat} {x : Nat} (hX : ZF X M) (hr : (pc, .ifnull t, n, aux) ∈ M.2.1) (k : HW X (pc + n) ls st F I J) : HW X pc ls (.inr (.inr (some x)) :: st) F I J := by
  obtain ⟨d, h1, h2, h3, h4⟩ := zrow hX hr
  cases h1
  cases (beq_iff_eq.mp h3 : n = 3)
  intro H locs LS hW hS hL
  exact lv_ifnull hX.1 hX.2.1 h2 (k H locs LS hW hS hL)
theorem hw_ifnonnull_n {t : Nat} (hX : ZF X M) (hr : (pc, .ifnonnull t, n, aux) ∈ M.2.1) (k : HW X (pc + n) ls st F I J) : HW X pc ls (.inr (.inr none) :: st) F I J := by
  obtain ⟨d, h1, h2, h3, h4⟩ := zrow hX hr
  cases h1
  cases (beq_iff_eq.mp h3 : n = 3)
  intro H locs LS hW hS hL
  exact lv_ifnonnullN hX.1 hX.2.1 h2 (k H locs LS hW hS hL)
theorem hw_ifnonnull_s {t : Nat} {x : Nat} (hX : ZF X M) (hr : (pc, .ifnonnull t, n, aux) ∈ M.2.1) (k : HW X t ls st F I J) : HW X pc ls (.inr (.inr (some x)) :: st) F I J := by
  obtain ⟨d, h1, h2, h3, h4⟩ := zrow hX hr
  cases h1
  cases (beq_iff_eq.mp h3 : n = 3)
  intro H locs LS hW hS hL
  exact lv_ifnonnull (tgt := t) hX.1 hX.2.1 h2 (by omega) (k H locs LS hW hS hL)
end ZOPT
end
section
/-! ENGINE, part 4: fields and arrays -/
theorem zcl_ok (ci : Nat) (C : String) (T : u_T) (N : Nat) (h : vwCl[ci]? = some (C, T, N)) : (∃ ty0 : Nat → FieldType, ∀ k, k < N → parseFieldDescriptor (T k).2.2.1 = some (ty0 k)) ∧ ∀ a, a < N → ∀ b, b < N → a ≠ b → (T a).2.1 ≠ (T b).2.1 := by
  have key : ∀ q ∈ vwCl, (∃ ty0 : Nat → FieldType, ∀ k, k < q.2.2 → parseFieldDescriptor (q.2.1 k).2.2.1 = some (ty0 k)) ∧ ∀ a, a < q.2.2 → ∀ b, b < q.2.2 → a ≠ b → (q.2.1 a).2.1 ≠ (q.2.1 b).2.1 := by
    refine List.forall_mem_cons.mpr ⟨⟨⟨tyX0, tyX0_ok⟩, nmX0⟩, List.forall_mem_cons.mpr ⟨⟨⟨tyX1, tyX1_ok⟩, nmX1⟩, List.forall_mem_cons.mpr ⟨⟨⟨tyX2, tyX2_ok⟩, nmX2⟩, List.forall_mem_cons.mpr ⟨⟨⟨tyX3, tyX3_ok⟩, nmX3⟩, List.forall_mem_cons.mpr ⟨⟨⟨tyX4, tyX4_ok⟩, nmX4⟩, List.forall_mem_cons.mpr ⟨⟨⟨tyX5, tyX5_ok⟩, nmX5⟩, List.forall_mem_cons.mpr ⟨⟨⟨tyX6, tyX6_ok⟩, nmX6⟩, List.forall_mem_cons.mpr ⟨⟨⟨tyX7, tyX7_ok⟩, nmX7⟩, List.forall_mem_cons.mpr ⟨⟨⟨tyX8, tyX8_ok⟩, nmX8⟩, List.forall_mem_cons.mpr ⟨⟨⟨tyX9, tyX9_ok⟩, nmX9⟩, fun _ h => absurd h List.not_mem_nil⟩⟩⟩⟩⟩⟩⟩⟩⟩⟩
  exact key _ (List.mem_of_getElem? h)
/-- a field, an element, of a cell is changed -/
def zu (F : zFi) (q j : Nat) (x : Int) : zFi := fun a b => if a = q ∧ b = j then x else F a b
def zw (F : zJi) (q j : Nat) (x : Nat) : zJi := fun a b => if a = q ∧ b = j then x else F a b
theorem zu_s (F : zFi) (q j : Nat) (x : Int) : zu F q j x q j = x := by simp [zu]
theorem zu_n {F : zFi} {q j a b : Nat} {x : Int} (h : ¬ (a = q ∧ b = j)) : zu F q j x a b = F a b := by simp only [zu, if_neg h]
theorem zu_r {F : zFi} {q j k : Nat} {x : Int} (h : k ≠ q) : zu F q j x k = F k := funext fun b => zu_n fun e => h e.1
theorem zw_s (F : zJi) (q j : Nat) (x : Nat) : zw F q j x q j = x := by simp [zw]
theorem zw_n {F : zJi} {q j a b : Nat} {x : Nat} (h : ¬ (a = q ∧ b = j)) : zw F q j x a b = F a b := by simp only [zw, if_neg h]
theorem zw_r {F : zJi} {q j k : Nat} {x : Nat} (h : k ≠ q) : zw F q j x k = F k := funext fun b => zw_n fun e => h e.1
def zfv (ad : Nat → Nat) (f : Nat → Int) (j : Nat) : Option (Option Nat) → Value
  | none => .int (Int32.ofInt (f j))
  | some x => va_rf (x.map ad)
theorem zfs_get (ad : Nat → Nat) (f : Nat → Int) (sl : List (Option (Option Nat))) : ∀ (j k : Nat), (zfs ad f j sl)[k]? = (sl[k]?).map (zfv ad f (j + k)) := by
  induction sl with
  | nil => intro j k; rfl
  | cons o r ih =>
    intro j k
    cases k with
    | zero => cases o <;> rfl
    | succ k =>
      have e : j + (k + 1) = j + 1 + k := by omega
      cases o with
      | none => show (zfs ad f (j + 1) r)[k]? = _; rw [ih, e]; rfl
      | some x => show (zfs ad f (j + 1) r)[k]? = _; rw [ih, e]; rfl
theorem zfs_len (ad : Nat → Nat) (f : Nat → Int) (sl : List (Option (Option Nat))) : ∀ (j : Nat), (zfs ad f j sl).length = sl.length := by
  induction sl with
  | nil => intro j; rfl
  | cons o r ih => intro j; cases o with
    | none => simp only [zfs, List.length_cons, ih]
    | some x => simp only [zfs, List.length_cons, ih]
theorem zfs_set (ad : Nat → Nat) (F : zFi) (q : Nat) (sl : List (Option (Option Nat))) (i : Nat) (x : Int) (hs : sl[i]? = some none) : (zfs ad (F q) 0 sl).set i (.int (Int32.ofInt x)) = zfs ad (zu F q i x q) 0 sl := by
  apply List.ext_getElem?
  intro k
  have hl := (List.getElem?_eq_some_iff.mp hs).1
  rw [zfs_get]
  by_cases e : i = k
  · subst e
    rw [List.getElem?_set_self (by rw [zfs_len]; exact hl), hs]
    show _ = some (Value.int (Int32.ofInt (zu F q i x q (0 + i))))
    rw [Nat.zero_add, zu_s]
  · rw [List.getElem?_set_ne e, zfs_get]
    cases h : sl[k]? with
    | none => rfl
    | some o =>
      cases o with
      | none =>
        show some (Value.int (Int32.ofInt (F q (0 + k)))) = some (Value.int (Int32.ofInt (zu F q i x q (0 + k))))
        rw [zu_n (fun z => e (by omega))]
      | some y => rfl
theorem zWd.upd {D : va_G} {sh : Nat → Option zS} {ad : Nat → Nat} {F I F' I' : zFi} {J J' : zJi} {H H1 : Heap} {q : Nat} {t : zS} (hW : zWd D sh ad F I J H) (hinj : ∀ i j, sh i ≠ none → sh j ≠ none → ad i = ad j → i = j) (hq : sh q = some t) (he : va_at D vwCl (ad q, zent ad F' I' J' q t) H1) (oq : ∀ x : Nat, x ≠ ad q → H1[x]? = H[x]?)
    (hF : ∀ k, k ≠ q → ∀ t, zent ad F' I' J' k t = zent ad F I J k t) : zWd D sh ad F' I' J' H1 := by
  intro k t' hk
  by_cases e : k = q
  · subst e
    cases hq.symm.trans hk
    exact he
  · rw [hF k e]
    exact (hW k t' hk).kept (oq _ fun z => e (hinj k q (by rw [hk]; exact fun h => by cases h) (by rw [hq]; exact fun h => by cases h) z))
theorem zent_r {ad : Nat → Nat} {F I F' I' : zFi} {J J' : zJi} {k : Nat} (h1 : F' k = F k) (h2 : I' k = I k) (h3 : J' k = J k) (t : zS) : zent ad F' I' J' k t = zent ad F I J k t := by
  rcases t with ⟨ci, sl⟩ | ⟨cA, m⟩ | ⟨cA, m⟩ | ⟨cA, E, m, r⟩
  · simp only [zent, h1]
  · simp only [zent, h2]
  · simp only [zent, h3]
  · rfl
theorem zP1 {D : va_G} {sh : Nat → Option zS} {ad : Nat → Nat} {F I : zFi} {J : zJi} {H : Heap} {q : Nat} {t : zS} (hW : zWd D sh ad F I J H) (hq : sh q = some t) : va_P D vwCl [(ad q, zent ad F I J q t)] H := by
  intro k x hk
  cases k with
  | zero => cases hk; exact hW q t hq
  | succ k => cases hk
theorem zK1 {D : va_G} {U : State} {cA : ClassId} {ty : FieldType} (hK : va_K D vwCl [] U) (h : ArrOfT U cA ty ∧ va_RA U cA ty) : va_K D vwCl [(cA, ty)] U := by
  refine ⟨hK.1, fun k x hk => ?_⟩
  cases k with
  | zero => cases hk; exact h
  | succ k => cases hk
theorem zix {i : Int} {j m : Nat} (hi : i = (j : Int)) (hj : j < m) (hm : m < 2147483648) : vp_in (Int32.ofInt i) m ∧ (Int32.ofInt i).toNatClampNeg = j := by
  subst hi
  rw [Int32.ofInt_eq_ofNat]
  exact ⟨vp_in_nI hj hm, nI_clamp (Nat.lt_trans hj hm)⟩
theorem zfl_spec {own : String} {Ts : List Cond} {ci j idx mode : Nat} (h : zfl own Ts ci j idx mode = true) : ∃ (C : String) (T : u_T) (N : Nat), vwCl[ci]? = some (C, T, N) ∧ j < N ∧ Cond.fieldLink own idx (T j).1 (T j).2.1 (T j).2.2.1 ∈ Ts ∧ (∀ w ∈ u_ws C T N, w ∈ Ts) ∧
    (mode = 1 → (T j).2.2.2 = false ∧ parseFieldDescriptor (T j).2.2.1 = some .int) ∧ (mode = 2 → (T j).2.2.2 = false ∧ parseFieldDescriptor (T j).2.2.1 = some .boolean) := by
  unfold zfl at h
  split at h
  · rename_i C T N hcl
    simp only [Bool.and_eq_true, decide_eq_true_eq, List.all_eq_true] at h
    obtain ⟨h1, h2, h3, h4⟩ := h
    refine ⟨C, T, N, hcl, h1, h2, h3, fun e => ?_, fun e => ?_⟩
    · subst e
      simpa using h4
    · subst e
      simpa using h4
  · cases h
section ZHEAP
variable {X : zX} {M : zM} {pc n aux : Nat} {ls : List (Option zV)} {st : List zV} {F I : zFi} {J : zJi}
theorem hw_getf {ci j q : Nat} {sl : List (Option (Option Nat))} {o : Option (Option Nat)} (hX : ZF X M) (hr : (pc, .invokeinterface ci j, n, aux) ∈ M.2.1) (hq : xsh X q = some (.inl (ci, sl))) (hs : sl[j]? = some o) (k : ∀ (H : Heap) (locs : List Loc) (LS : Array Slot), zWd (xD X) (xsh X) (xad X) F I J H → va_S (xA X) (xs X).heap H locs → zL (xad X) (xc X).maxLocals ls LS →
    W (xp X) (xl X) (xe X) (xR X) (xs X) (xm X) (xa X) (xb X) (xt X) (xc X) H locs (xk X) (xn X) (xQ X) (F0 (xm X) (pc + n) LS (zfv (xad X) (F q) j o :: st.map (zv (xad X))))) : HW X pc ls (.inr (.inr (some q)) :: st) F I J := by
  obtain ⟨d, h1, h2, h3, h4⟩ := zrow hX hr
  cases h1
  cases (beq_iff_eq.mp h3 : n = 3)
  obtain ⟨C, T, N, g1, g2, g3, g4, -, -⟩ := zfl_spec (own := M.2.2.1) (Ts := M.2.2.2.1) (ci := ci) (j := j) (idx := aux) (mode := 0) h4
  intro H locs LS hW hS hL
  have kk := k H locs LS hW hS hL
  refine va_get (C := C) (T := T) (N := N) (ci := ci) hX.1 hX.2.1 hX.2.2.2.1 g4 hX.2.2.1 hX.2.2.2.2.1.2.1 (zP1 hW hq) 0 rfl g1 j g2 (hX.2.2.2.1 _ g3) (fun _ h9 => h9) ?_ h2 kk
  show (zfs _ _ _ _)[_]? = _
  rw [zfs_get, hs, Nat.zero_add]
  rfl
theorem hw_getfield {ci j q : Nat} {sl : List (Option (Option Nat))} (hX : ZF X M) (hr : (pc, .invokeinterface ci j, n, aux) ∈ M.2.1) (hq : xsh X q = some (.inl (ci, sl))) (hs : sl[j]? = some none) (k : HW X (pc + n) ls (.inl (F q j) :: st) F I J) : HW X pc ls (.inr (.inr (some q)) :: st) F I J := hw_getf hX hr hq hs k
theorem hw_getref {ci j q : Nat} {x : Option Nat} {sl : List (Option (Option Nat))} (hX : ZF X M) (hr : (pc, .invokeinterface ci j, n, aux) ∈ M.2.1) (hq : xsh X q = some (.inl (ci, sl))) (hs : sl[j]? = some (some x)) (k : HW X (pc + n) ls (.inr (.inr x) :: st) F I J) : HW X pc ls (.inr (.inr (some q)) :: st) F I J := by
  refine hw_getf hX hr hq hs fun H locs LS hW hS hL => ?_
  have kk := k H locs LS hW hS hL
  cases x <;> exact kk
theorem hw_put {ci j q mode : Nat} {x : Int} {ty : FieldType} {sl : List (Option (Option Nat))} (hX : ZF X M) (hd : decode M.1 pc = .ok (.putfield aux, 3)) (hf : zfl M.2.2.1 M.2.2.2.1 ci j aux mode = true) (hty : ∀ (T : u_T), (mode = 1 → (T j).2.2.2 = false ∧ parseFieldDescriptor (T j).2.2.1 = some .int) → (mode = 2 → (T j).2.2.2 = false ∧ parseFieldDescriptor (T j).2.2.1 = some .boolean) → (T j).2.2.2 = false ∧ parseFieldDescriptor (T j).2.2.1 = some ty)
    (hn : narrow ty (.int (Int32.ofInt x)) = .int (Int32.ofInt x)) (hfit : fits ty (.int (Int32.ofInt x)) = true) (hq : xsh X q = some (.inl (ci, sl))) (hs : sl[j]? = some none) (k : HW X (pc + 3) ls st (zu F q j x) I J) : HW X pc ls (.inl x :: .inr (.inr (some q)) :: st) F I J := by
  obtain ⟨C, T, N, g1, g2, g3, g4, g5, g6⟩ := zfl_spec hf
  obtain ⟨hfin, hpd⟩ := hty T g5 g6
  obtain ⟨⟨ty0, hty0⟩, hnm⟩ := zcl_ok _ _ _ _ g1
  obtain ⟨hx, hb, hown, hts, hG, ⟨hA, -⟩, -⟩ := hX
  have hap := va_apart (own := M.2.2.1) hts g4 ty0 hty0 hnm hG.2.1 g1
  intro H locs LS hW hS hL
  obtain ⟨r, h1, cell, q1, q2, q3, q4⟩ := hW q _ hq
  have hr : r = (C, T, N) := Option.some.inj (h1.symm.trans g1)
  subst hr
  obtain ⟨hSl, hfc, kC, hkC, hkind⟩ := hG.2.1.1 _ _ g1
  obtain ⟨cf, kf, fi, f, hi, hsl⟩ := hSl _ g2
  have hlay := hts _ (g4 _ (u_in_lay g2))
  unfold u_lay at hlay
  rw [if_neg (by rw [hfin]; decide)] at hlay
  have hst := (u_facts hfc hkC (u_lays hts g4 g2) hi).1
  have h6 := u_store hfc hkC hkind hlay hi hpd hn hfit
  have hne : xsh X q ≠ none := by rw [hq]; exact fun h => by cases h
  refine W.putK hx hb (f := f) ⟨hown, hts _ g3, ⟨_, _, _, hi⟩, hst⟩ (by rw [q2]; exact h6) q1 q3 (by rw [hsl]; exact k2_hasslot (q4 _ g2)) rfl rfl hd fun H' e1 e2 e3 => ?_
  rw [hsl] at e1 ⊢
  refine k H' _ LS (hW.upd hG.1 hq ?_ e3 (fun k hk t => zent_r (zu_r hk) rfl rfl t)) (hS.put e2 e3 (hA q hne)) hL
  refine ⟨_, g1, t_OB.to (V := updV (vp_V (zfs (xad X) (F q) 0 sl)) j (.int (Int32.ofInt x))) ⟨_, e1, q2, q3, t_set q4 hap g2 _⟩ (fun j _ => ?_)⟩
  rw [vp_updV_set (by rw [zfs_len]; exact (List.getElem?_eq_some_iff.mp hs).1), zfs_set _ _ _ _ _ _ hs]
theorem hw_putfield {ci j q : Nat} {x : Int} {sl : List (Option (Option Nat))} (hX : ZF X M) (hr : (pc, .multianewarray ci j, n, aux) ∈ M.2.1) (hq : xsh X q = some (.inl (ci, sl))) (hs : sl[j]? = some none) (k : HW X (pc + n) ls st (zu F q j x) I J) : HW X pc ls (.inl x :: .inr (.inr (some q)) :: st) F I J := by
  obtain ⟨d, h1, h2, h3, h4⟩ := zrow hX hr
  cases h1
  cases (beq_iff_eq.mp h3 : n = 3)
  exact hw_put (mode := 1) hX h2 h4 (fun T a b => a rfl) rfl rfl hq hs k
theorem hw_putbool {e q : Nat} {x : Int} {sl : List (Option (Option Nat))} (hX : ZF X M) (hr : (pc, .putstatic e, n, aux) ∈ M.2.1) (hx : x = 0 ∨ x = 1) (hq : xsh X q = some (.inl (e / 64, sl))) (hs : sl[e % 64]? = some none) (k : HW X (pc + n) ls st (zu F q (e % 64) x) I J) : HW X pc ls (.inl x :: .inr (.inr (some q)) :: st) F I J := by
  obtain ⟨d, h1, h2, h3, h4⟩ := zrow hX hr
  cases h1
  cases (beq_iff_eq.mp h3 : n = 3)
  exact hw_put (mode := 2) hX h2 h4 (fun T a b => b rfl) (by rcases hx with rfl | rfl <;> rfl) (by rcases hx with rfl | rfl <;> rfl) hq hs k
theorem hw_iaload {q j m : Nat} {i : Int} {cA : ClassId} (hX : ZF X M) (hr : (pc, .iaload, n, aux) ∈ M.2.1) (hq : xsh X q = some (.inr (.inl (cA, m)))) (hi : i = (j : Int)) (hj : j < m) (k : HW X (pc + n) ls (.inl (I q j) :: st) F I J) : HW X pc ls (.inl i :: .inr (.inr (some q)) :: st) F I J := by
  obtain ⟨d, h1, h2, h3, -⟩ := zrow hX hr
  cases h1
  cases (beq_iff_eq.mp h3 : n = 1)
  obtain ⟨hx, hb, hown, hts, hG, ⟨hA, -⟩, -⟩ := hX
  intro H locs LS hW hS hL
  have kk := k H locs LS hW hS hL
  obtain ⟨a1, a2⟩ := hG.2.2.1 q cA m hq
  obtain ⟨b1, b2⟩ := zix hi hj a1
  refine va_iald (f := fun j => Int32.ofInt (I q j)) hx hb (zK1 hG.2.1 a2) (zP1 hW hq) 0 0 rfl rfl b1 h2 ?_
  rw [b2]
  exact kk
theorem hw_laload {q j m : Nat} {i : Int} {cA : ClassId} (hX : ZF X M) (hr : (pc, .laload, n, aux) ∈ M.2.1) (hq : xsh X q = some (.inr (.inr (.inl (cA, m))))) (hi : i = (j : Int)) (hj : j < m) (k : HW X (pc + n) ls (.inr (.inl (J q j)) :: st) F I J) : HW X pc ls (.inl i :: .inr (.inr (some q)) :: st) F I J := by
  obtain ⟨d, h1, h2, h3, -⟩ := zrow hX hr
  cases h1
  cases (beq_iff_eq.mp h3 : n = 1)
  obtain ⟨hx, hb, hown, hts, hG, ⟨hA, -⟩, -⟩ := hX
  intro H locs LS hW hS hL
  have kk := k H locs LS hW hS hL
  obtain ⟨a1, a2⟩ := hG.2.2.2.1 q cA m hq
  obtain ⟨b1, b2⟩ := zix hi hj a1
  refine va_lald (f := fun j => Int64.ofNat (J q j)) hx hb (zK1 hG.2.1 a2) (zP1 hW hq) 0 0 rfl rfl b1 h2 ?_
  rw [b2]
  exact kk
theorem hw_aaload {q j m : Nat} {i : Int} {cA : ClassId} {E : String} {r : Nat → Option Nat} (hX : ZF X M) (hr : (pc, .aaload, n, aux) ∈ M.2.1) (hq : xsh X q = some (.inr (.inr (.inr (cA, E, m, r))))) (hi : i = (j : Int)) (hj : j < m) (k : HW X (pc + n) ls (.inr (.inr (r j)) :: st) F I J) : HW X pc ls (.inl i :: .inr (.inr (some q)) :: st) F I J := by
  obtain ⟨d, h1, h2, h3, -⟩ := zrow hX hr
  cases h1
  cases (beq_iff_eq.mp h3 : n = 1)
  obtain ⟨hx, hb, hown, hts, hG, ⟨hA, -⟩, -⟩ := hX
  intro H locs LS hW hS hL
  have kk := k H locs LS hW hS hL
  obtain ⟨a1, a2⟩ := hG.2.2.2.2.1 q cA E m r hq
  obtain ⟨b1, b2⟩ := zix hi hj a1
  refine va_aldq (f := fun j => (r j).map (xad X)) hx hb (zK1 hG.2.1 a2) (zP1 hW hq) 0 0 rfl rfl b1 h2 ?_
  rw [b2]
  cases hrj : r j with
  | none => rw [hrj] at kk; exact kk
  | some z => rw [hrj] at kk; exact kk
theorem hw_ialen {q m : Nat} {cA : ClassId} (hX : ZF X M) (hr : (pc, .arraylength, n, aux) ∈ M.2.1) (hq : xsh X q = some (.inr (.inl (cA, m)))) (k : HW X (pc + n) ls (.inl m :: st) F I J) : HW X pc ls (.inr (.inr (some q)) :: st) F I J := by
  obtain ⟨d, h1, h2, h3, -⟩ := zrow hX hr
  cases h1
  cases (beq_iff_eq.mp h3 : n = 1)
  obtain ⟨hx, hb, hown, hts, hG, ⟨hA, -⟩, -⟩ := hX
  intro H locs LS hW hS hL
  have kk := k H locs LS hW hS hL
  refine va_alen (x := (m, _)) hx hb (zK1 hG.2.1 (hG.2.2.1 q cA m hq).2) (zP1 hW hq) 0 0 rfl rfl (Int32.ofInt_eq_ofNat).symm h2 kk
theorem hw_jalen {q m : Nat} {cA : ClassId} (hX : ZF X M) (hr : (pc, .arraylength, n, aux) ∈ M.2.1) (hq : xsh X q = some (.inr (.inr (.inl (cA, m))))) (k : HW X (pc + n) ls (.inl m :: st) F I J) : HW X pc ls (.inr (.inr (some q)) :: st) F I J := by
  obtain ⟨d, h1, h2, h3, -⟩ := zrow hX hr
  cases h1
  cases (beq_iff_eq.mp h3 : n = 1)
  obtain ⟨hx, hb, hown, hts, hG, ⟨hA, -⟩, -⟩ := hX
  intro H locs LS hW hS hL
  have kk := k H locs LS hW hS hL
  refine va_alen (x := (m, _)) hx hb (zK1 hG.2.1 (hG.2.2.2.1 q cA m hq).2) (zP1 hW hq) 0 0 rfl rfl (Int32.ofInt_eq_ofNat).symm h2 kk
theorem hw_iastore {q j m : Nat} {i x : Int} {cA : ClassId} (hX : ZF X M) (hr : (pc, .iastore, n, aux) ∈ M.2.1) (hq : xsh X q = some (.inr (.inl (cA, m)))) (hi : i = (j : Int)) (hj : j < m) (k : HW X (pc + n) ls st F (zu I q j x) J) : HW X pc ls (.inl x :: .inl i :: .inr (.inr (some q)) :: st) F I J := by
  obtain ⟨d, h1, h2, h3, -⟩ := zrow hX hr
  cases h1
  cases (beq_iff_eq.mp h3 : n = 1)
  obtain ⟨hx, hb, hown, hts, hG, ⟨hA, -⟩, -⟩ := hX
  intro H locs LS hW hS hL
  obtain ⟨a1, a2⟩ := hG.2.2.1 q cA m hq
  obtain ⟨b1, b2⟩ := zix hi hj a1
  have hne : xsh X q ≠ none := by rw [hq]; exact fun h => by cases h
  refine W.iast hx hb (hW q _ hq) (a2.1 m (fun j => .int (Int32.ofInt (I q j)))) (fun q => by cases q) (by show ¬ (_ < 0 ∨ (arrV _ _ _).slots.size ≤ _); rw [arrV_size]; exact b1) rfl rfl h2 fun H1 e z oq => ?_
  refine k H1 _ LS (hW.upd hG.1 hq ?_ oq (fun k hk t => zent_r rfl (zu_r hk) rfl t)) (hS.put z oq (hA q hne)) hL
  show H1[_]? = some (vp_cell _ _)
  rw [e, b2]
  show some ((vp_cell cA (m, .inl fun j => Int32.ofInt (I q j))).setSlot j _) = _
  rw [vp_cell_i, vp_cell_i, arrV_store]
  congr 2
  funext y
  by_cases hy : y = j
  · subst hy
    simp [updV, zu]
  · simp [updV, zu, hy]
theorem hw_lastore {q j m : Nat} {i : Int} {x : Nat} {cA : ClassId} (hX : ZF X M) (hr : (pc, .lastore, n, aux) ∈ M.2.1) (hq : xsh X q = some (.inr (.inr (.inl (cA, m))))) (hi : i = (j : Int)) (hj : j < m) (k : HW X (pc + n) ls st F I (zw J q j x)) : HW X pc ls (.inr (.inl x) :: .inl i :: .inr (.inr (some q)) :: st) F I J := by
  obtain ⟨d, h1, h2, h3, -⟩ := zrow hX hr
  cases h1
  cases (beq_iff_eq.mp h3 : n = 1)
  obtain ⟨hx, hb, hown, hts, hG, ⟨hA, -⟩, -⟩ := hX
  intro H locs LS hW hS hL
  obtain ⟨a1, a2⟩ := hG.2.2.2.1 q cA m hq
  obtain ⟨b1, b2⟩ := zix hi hj a1
  have hne : xsh X q ≠ none := by rw [hq]; exact fun h => by cases h
  refine W.last hx hb (hW q _ hq) (a2.1 m (fun j => .long (Int64.ofNat (J q j)))) (fun q => by cases q) (by show ¬ (_ < 0 ∨ (arrV _ _ _).slots.size ≤ _); rw [arrV_size]; exact b1) rfl rfl h2 fun H1 e z oq => ?_
  refine k H1 _ LS (hW.upd hG.1 hq ?_ oq (fun k hk t => zent_r rfl rfl (zw_r hk) t)) (hS.put z oq (hA q hne)) hL
  show H1[_]? = some (vp_cell _ _)
  rw [e, b2]
  show some ((vp_cell cA (m, .inr (.inl fun j => Int64.ofNat (J q j)))).setSlot j _) = _
  rw [vp_cell_l, vp_cell_l, arrV_store]
  congr 2
  funext y
  by_cases hy : y = j
  · subst hy
    simp [updV, zw]
  · simp [updV, zw, hy]
end ZHEAP
end
section
/-! ENGINE, part 5: contracts of methods that make nothing, their returns and their calls -/
abbrev zP : Type := Option zV → zFi → zFi → zJi → Prop
def Cn (l : Launch) (D : va_G) (y : MethodName) (ws : List Cond) (rm : Room) (sh : Nat → Option zS) (av : List zV) (F I : zFi) (J : zJi) (post : zP) : Prop := ∀ (ad : Nat → Nat) (sz : Nat),
  Met l y ws rm (va_Pc (av.map (zv ad)) (fun U => U.heap.size = sz ∧ zG D sh ad U ∧ zWd D sh ad F I J U.heap))
    (fun _ st oc t => (∃ (v : Option zV) (F' I' : zFi) (J' : zJi), oc = .returned (v.map (zv ad)) ∧ post v F' I' J' ∧ zWd D sh ad F' I' J' t.heap) ∧ va_F (zA sh ad sz) st t) 0 0 (zA sh ad sz)
def zrt (ret : Option FieldType) (i : Instr) : Bool := match i with
  | .ireturn => decide (ret = some .int)
  | .dreturn => decide (ret = some .boolean)
  | .lreturn => decide (ret = some .long)
  | .areturn => match ret with
    | some (.object _) => true
    | _ => false
  | .return_ => decide (ret = none)
  | _ => true
/-- the ends of the method -/
def ZR (X : zX) (M : zM) (RT : zP) : Prop :=
  (∀ pc n aux ls x F I J, (pc, Instr.ireturn, n, aux) ∈ M.2.1 → RT (some (.inl x)) F I J → HW X pc ls [.inl x] F I J) ∧
  (∀ pc n aux ls x F I J, (pc, Instr.dreturn, n, aux) ∈ M.2.1 → (x = 0 ∨ x = 1) → RT (some (.inl x)) F I J → HW X pc ls [.inl x] F I J) ∧
  (∀ pc n aux ls x F I J, (pc, Instr.lreturn, n, aux) ∈ M.2.1 → RT (some (.inr (.inl x))) F I J → HW X pc ls [.inr (.inl x)] F I J) ∧
  (∀ pc n aux ls x F I J, (pc, Instr.areturn, n, aux) ∈ M.2.1 → RT (some (.inr (.inr x))) F I J → HW X pc ls [.inr (.inr x)] F I J) ∧
  (∀ pc n aux ls F I J, (pc, Instr.return_, n, aux) ∈ M.2.1 → RT none F I J → HW X pc ls [] F I J)
def zargs : List zV → List (Option zV)
  | [] => []
  | .inr (.inl x) :: r => some (.inr (.inl x)) :: none :: zargs r
  | .inl x :: r => some (.inl x) :: zargs r
  | .inr (.inr x) :: r => some (.inr (.inr x)) :: zargs r
theorem zcat_i (ad : Nat → Nat) (x : Int) : (zv ad (.inl x)).category = 1 := rfl
theorem zcat_l (ad : Nat → Nat) (x : Nat) : (zv ad (.inr (.inl x))).category = 2 := rfl
theorem zcat_r (ad : Nat → Nat) (x : Option Nat) : (zv ad (.inr (.inr x))).category = 1 := by cases x <;> rfl
theorem zargs_len (ad : Nat → Nat) (av : List zV) : (lg_sl (av.map (zv ad))).length = (zargs av).length := by
  induction av with
  | nil => rfl
  | cons v r ih =>
    have e : lg_sl ((v :: r).map (zv ad)) = (if (zv ad v).category = 2 then [Slot.val (zv ad v), .second] else [.val (zv ad v)]) ++ lg_sl (r.map (zv ad)) := rfl
    rw [e, List.length_append, ih]
    rcases v with x | x | x
    · rw [if_neg (by rw [zcat_i]; decide)]; simp only [List.length_cons, List.length_nil, zargs]; omega
    · rw [if_pos (zcat_l ad x)]; simp only [List.length_cons, List.length_nil, zargs]; omega
    · rw [if_neg (by rw [zcat_r]; decide)]; simp only [List.length_cons, List.length_nil, zargs]; omega
theorem zargs_mem (ad : Nat → Nat) (av : List zV) : ∀ (k i : Nat) (v : zV), (zargs av)[i]? = some (some v) → (k + i, zv ad v) ∈ lv_args k (av.map (zv ad)) := by
  induction av with
  | nil => intro k i v h; cases h
  | cons w r ih =>
    intro k i v h
    have e : lv_args k ((w :: r).map (zv ad)) = (k, zv ad w) :: lv_args (if (zv ad w).category = 2 then k + 2 else k + 1) (r.map (zv ad)) := rfl
    rw [e]
    rcases w with x | x | x
    · rw [zcat_i, if_neg (by decide)]
      cases i with
      | zero => cases h; exact List.mem_cons_self
      | succ i =>
        have := ih (k + 1) i v h
        rw [show k + 1 + i = k + (i + 1) by omega] at this
        exact List.mem_cons_of_mem _ this
    · rw [zcat_l, if_pos rfl]
      cases i with
      | zero => cases h; exact List.mem_cons_self
      | succ i =>
        cases i with
        | zero => cases h
        | succ i =>
          have := ih (k + 2) i v h
          rw [show k + 2 + i = k + (i + 1 + 1) by omega] at this
          exact List.mem_cons_of_mem _ this
    · rw [zcat_r, if_neg (by decide)]
      cases i with
      | zero => cases h; exact List.mem_cons_self
      | succ i =>
        have := ih (k + 1) i v h
        rw [show k + 1 + i = k + (i + 1) by omega] at this
        exact List.mem_cons_of_mem _ this
theorem zL_entry (ad : Nat → Nat) (av : List zV) {nL : Nat} (h : (zargs av).length ≤ nL) : zL ad nL (zargs av ++ List.replicate (nL - (zargs av).length) none) ((lg_sl (av.map (zv ad)) ++ List.replicate (nL - (lg_sl (av.map (zv ad))).length) Slot.unset).toArray) := by
  have h0 := lv_entry (av.map (zv ad)) (n := nL) (by rw [zargs_len]; exact h)
  refine ⟨h0.1, by simp; omega, h0.2.1, fun i v hv => ?_⟩
  by_cases hi : i < (zargs av).length
  · rw [List.getElem?_append_left hi] at hv
    have := h0.2.2 (0 + i, zv ad v) (zargs_mem ad av 0 i v hv)
    simpa using this
  · rw [List.getElem?_append_right (by omega), List.getElem?_replicate] at hv
    split at hv <;> cases hv
theorem zblind {D : va_G} {sh : Nat → Option zS} {ad : Nat → Nat} {av : List zV} {F I : zFi} {J : zJi} {sz : Nat} : FrameBlind (va_Pc (av.map (zv ad)) (fun U => U.heap.size = sz ∧ zG D sh ad U ∧ zWd D sh ad F I J U.heap)) := by
  intro a U g mk h
  obtain ⟨h1, h2, h3, h4⟩ := h
  exact ⟨h1, h2, h3.to (u := U) (U := U.calling g mk a) (Vm.Alike.refl U.vm) (zNest_same (s := U) (U := U.calling g mk a) rfl h3.2.2.2.2.2), h4⟩
abbrev zX0 (p : Program) (l : Launch) (e : Env) (R : Room) (s : State) (m : MethodId) (a : Array Value) (below : List Frame) (meth : Method) (c : Code) (D : va_G) (sh : Nat → Option zS) (ad : Nat → Nat) (A : Nat → Prop) (Q : State → Prop) : zX := ((p, l, e, R, s, m, a, below, meth, c), (D, sh, ad), (A, 0, 0, Q))
abbrev zQc (D : va_G) (sh : Nat → Option zS) (ad : Nat → Nat) (post : zP) (sz : Nat) : Array Value → State → Outcome → State → Prop := fun _ st oc t => (∃ (v : Option zV) (F' I' : zFi) (J' : zJi), oc = .returned (v.map (zv ad)) ∧ post v F' I' J' ∧ zWd D sh ad F' I' J' t.heap) ∧ va_F (zA sh ad sz) st t
theorem zmet {l : Launch} {D : va_G} {y : MethodName} {ws' : List Cond} {M : zM} {sh : Nat → Option zS} {av : List zV} {F I : zFi} {J : zJi} {post : zP} {nL : Nat} {ret : Option FieldType} (hy : plainName y.cls = true) (hw : M.2.2.2.1 = Cond.code y M.1 nL ret :: ws') (hown : M.2.2.1 = y.cls) (htab : M.2.1.all (fun r => zok M r && zrt ret r.2.1) = true) (hlen : (zargs av).length ≤ nL)
    (body : ∀ X, ZF X M → ZR X M post → xl X = l → xD X = D → xsh X = sh → HW X 0 (zargs av ++ List.replicate (nL - (zargs av).length) none) [] F I J) : Cn l D y M.2.2.2.1 M.2.2.2.2 sh av F I J post := by
  intro ad sz
  refine Met.ofW (cc := M.1) (maxL := nL) (ret := ret) hy hw ?_
  intro p e s m args below meth c s₁ B hml hv
  obtain ⟨ha, hsz, hG, hW⟩ := hv
  subst ha
  have hts := atoms_spec (ws := M.2.2.2.1) B.pre
  have hown' : s.vm.findClass M.2.2.1 = some m.cls := by rw [hown]; exact findClass_of_methodNamed B.named
  subst hsz
  rw [lg_entry_eq]
  have htb := List.all_eq_true.mp htab
  have hX : ZF (zX0 p l e (headSpec M.2.2.2.1 M.2.2.2.2).room s m (av.map (zv ad)).toArray below meth c D sh ad (zA sh ad s.heap.size) (MQ below (zQc D sh ad post s.heap.size) (av.map (zv ad)).toArray s 0 0 (zA sh ad s.heap.size))) M := ⟨B.exec, B.bytes, hown', hts, hG, ⟨fun k hk => Or.inl ⟨k, hk, rfl⟩, fun q hq => Or.inr hq⟩, rfl, fun r hr => by
    have := htb r hr
    simp only [Bool.and_eq_true] at this
    exact this.1⟩
  have hrt : ∀ r ∈ M.2.1, zrt ret r.2.1 = true := fun r hr => by
    have := htb r hr
    simp only [Bool.and_eq_true] at this
    exact this.2
  have hz := zL_entry ad av hlen
  refine body _ hX ⟨?_, ?_, ?_, ?_, ?_⟩ rfl rfl rfl _ [] _ hW va_S.rf (show zL ad c.maxLocals _ _ by rw [hml]; exact hz)
  · intro pc n aux ls x F' I' J' hr hp H locs LS hW hS hL
    obtain ⟨d, h1, h2, h3, -⟩ := zrow hX hr
    cases h1
    cases (beq_iff_eq.mp h3 : n = 1)
    have hre : ret = some .int := of_decide_eq_true (hrt _ hr)
    exact W.iret (Qc := zQc D sh ad post s.heap.size) B.exec B.bytes (B.returns.trans hre) (fun t ht hWm => ⟨⟨some (.inl x), F', I', J', rfl, hp, by rw [ht]; exact hW⟩, hS.F ht⟩) hS.2.2 h2 B.notSynchronized
  · intro pc n aux ls x F' I' J' hr hx hp H locs LS hW hS hL
    obtain ⟨d, h1, h2, h3, -⟩ := zrow hX hr
    cases h1
    cases (beq_iff_eq.mp h3 : n = 1)
    have hre : ret = some .boolean := of_decide_eq_true (hrt _ hr)
    exact W.zret (Qc := zQc D sh ad post s.heap.size) B.exec B.bytes (B.returns.trans hre) (by rcases hx with rfl | rfl <;> rfl) (fun t ht hWm => ⟨⟨some (.inl x), F', I', J', rfl, hp, by rw [ht]; exact hW⟩, hS.F ht⟩) hS.2.2 h2 B.notSynchronized
  · intro pc n aux ls x F' I' J' hr hp H locs LS hW hS hL
    obtain ⟨d, h1, h2, h3, -⟩ := zrow hX hr
    cases h1
    cases (beq_iff_eq.mp h3 : n = 1)
    have hre : ret = some .long := of_decide_eq_true (hrt _ hr)
    exact W.lret (Qc := zQc D sh ad post s.heap.size) B.exec B.bytes (B.returns.trans hre) (fun t ht hWm => ⟨⟨some (.inr (.inl x)), F', I', J', rfl, hp, by rw [ht]; exact hW⟩, hS.F ht⟩) hS.2.2 h2 B.notSynchronized
  · intro pc n aux ls x F' I' J' hr hp H locs LS hW hS hL
    obtain ⟨d, h1, h2, h3, -⟩ := zrow hX hr
    cases h1
    cases (beq_iff_eq.mp h3 : n = 1)
    have hre : ∃ C, ret = some (.object C) := by
      have := hrt _ hr
      simp only [zrt] at this
      split at this
      · exact ⟨_, rfl⟩
      · cases this
    obtain ⟨C, hre⟩ := hre
    exact W.aret (Qc := zQc D sh ad post s.heap.size) B.exec B.bytes (B.returns.trans hre) (Or.inl ⟨C, rfl⟩) (by cases x with
      | none => exact Or.inl rfl
      | some x => exact Or.inr ⟨_, rfl⟩) (fun t ht hWm => ⟨⟨some (.inr (.inr x)), F', I', J', rfl, hp, by rw [ht]; exact hW⟩, hS.F ht⟩) hS.2.2 h2 B.notSynchronized
  · intro pc n aux ls F' I' J' hr hp H locs LS hW hS hL
    obtain ⟨d, h1, h2, h3, -⟩ := zrow hX hr
    cases h1
    cases (beq_iff_eq.mp h3 : n = 1)
    have hre : ret = none := of_decide_eq_true (hrt _ hr)
    exact W.vret (Qc := zQc D sh ad post s.heap.size) B.exec B.bytes (B.returns.trans hre) (fun t ht hWm => ⟨⟨none, F', I', J', rfl, hp, by rw [ht]; exact hW⟩, hS.F ht⟩) hS.2.2 h2 B.notSynchronized
def zc1 : zV → Nat
  | .inr (.inl _) => 2
  | _ => 1
theorem zc1_cat (ad : Nat → Nat) (st : List zV) : ((st.map (zv ad)).map fun v => v.category).sum = (st.map zc1).sum := by
  induction st with
  | nil => rfl
  | cons v r ih =>
    simp only [List.map_cons, List.sum_cons, ih]
    rcases v with x | x | x
    · rfl
    · rfl
    · rw [zcat_r]; rfl
section ZCALL
variable {X : zX} {M : zM} {pc n aux : Nat} {ls : List (Option zV)} {st : List zV} {F I : zFi} {J : zJi}
/-- a call's run, and where it goes on -/
theorem hw_run {st0 : List zV} {post : zP} {H : Heap} {locs : List Loc} {LS : Array Slot} (a : Array Value) (hX : ZF X M) (hS : va_S (xA X) (xs X).heap H locs) (hL : zL (xad X) (xc X).maxLocals ls LS)
    (run : va_Run (xp X) (xl X) (xe X) (xR X) (xs X) (xm X) (xa X) (xb X) (xt X) (xc X) H locs (xk X) (xn X) 0 0 (F0 (xm X) pc LS (st0.map (zv (xad X)))) (st.map (zv (xad X))) (zQc (xD X) (xsh X) (xad X) post H.size a) (zA (xsh X) (xad X) H.size))
    (kk : ∀ v F' I' J', post v F' I' J' → HW X (pc + 3) ls (v.toList ++ st) F' I' J') :
    W (xp X) (xl X) (xe X) (xR X) (xs X) (xm X) (xa X) (xb X) (xt X) (xc X) H locs (xk X) (xn X) (xQ X) (F0 (xm X) pc LS (st0.map (zv (xad X)))) := by
  have hA' : ∀ q : Nat, zA (xsh X) (xad X) H.size q → xA X q := by
    intro q hq
    rcases hq with ⟨k, hk, rfl⟩ | hq
    · exact hX.2.2.2.2.2.1.1 k hk
    · exact hX.2.2.2.2.2.1.2 q (Nat.le_trans hS.1 hq)
  intro T hT X'
  obtain ⟨v, st₀, t, T', L, h0, X'', hL', e1, e2, ⟨⟨v', F', I', J', hv, hp, hW'⟩, hz, hk⟩, stp⟩ := run T hT X'
  cases hv
  rw [h0] at hz hk
  have hvl : (v'.map (zv (xad X))).toList ++ st.map (zv (xad X)) = (v'.toList ++ st).map (zv (xad X)) := by cases v' <;> simp
  rw [hvl] at stp
  obtain ⟨t2, a1, b1⟩ := kk v' F' I' J' hp T'.heap (locs ++ L) LS (by rw [e1]; exact hW')
    ⟨Nat.le_trans hS.1 (by rw [e1]; exact hz), fun q h1 h2 => by rw [e1, hk q (Nat.lt_of_lt_of_le h1 hS.1) (fun z => h2 (hA' q z))]; exact hS.2.1 q h1 h2, fun q hq => by
      rcases List.mem_append.mp hq with h | h
      · exact hS.2.2 q h
      · exact hA' _ (hL' q h)⟩ hL T' rfl X''
  exact ⟨t2, stp t2 a1, b1⟩
theorem zrecv {ci q : Nat} {sl : List (Option (Option Nat))} {C : String} {T : u_T} {N : Nat} {H : Heap} (hX : ZF X M) (hW : zWd (xD X) (xsh X) (xad X) F I J H) (hq : xsh X q = some (.inl (ci, sl))) (hci : vwCl[ci]? = some (C, T, N)) : ∃ cell : Cell, H[xad X q]? = some cell ∧ cell.vm.isStatics = false ∧ (xs X).vm.findClass C = some cell.cls :=
  va_recv (q0 := 0) hX.2.2.2.2.1.2.1 (zP1 hW hq) hci rfl
theorem zpre {av : List zV} {H : Heap} (hX : ZF X M) (hW : zWd (xD X) (xsh X) (xad X) F I J H) : ∀ U : State, U.heap = H → (xs X).WarmedH U.vm → va_Pc (av.map (zv (xad X))) (fun U => U.heap.size = H.size ∧ zG (xD X) (xsh X) (xad X) U ∧ zWd (xD X) (xsh X) (xad X) F I J U.heap) (av.map (zv (xad X))).toArray U :=
  fun U hU hWm => ⟨rfl, by rw [hU], hX.2.2.2.2.1.warm hWm, by rw [hU]; exact hW⟩
theorem hw_callV {idx q ci nA maxL : Nat} {sl : List (Option (Option Nat))} {C : String} {T : u_T} {N : Nat} {y : MethodName} {ws ws' : List Cond} {rm : Room} {bytes : ByteArray} {ret : Option FieldType} {As : List zV} {post : zP} (hX : ZF X M) (hr : (pc, .invokevirtual idx, n, aux) ∈ M.2.1)
    (hC : Cn (xl X) (xD X) y ws rm (xsh X) (.inr (.inr (some q)) :: As) F I J post) (hG : GoodIn M.2.2.2.1 (wsV M.2.2.1 idx C y ws)) (hw : ws = Cond.code y bytes maxL ret :: ws') (h0 : rm.cells = 0 ∧ rm.slots = 0)
    (hd : y.cls = C ∧ y.cls ≠ "java/lang/invoke/MethodHandle" ∧ y.cls ≠ "java/lang/invoke/VarHandle" ∧ (parseMethodDescriptor y.desc).map (fun d => d.parameters.length) = some nA) (hnA : As.length = nA)
    (hR : rm.frames + 1 ≤ M.2.2.2.2.frames ∧ 8 + (maxL + 11) + rm.locals ≤ M.2.2.2.2.locals) (hc : xk X ≤ (xR X).cells ∧ xn X ≤ (xR X).slots) (hq : xsh X q = some (.inl (ci, sl))) (hci : vwCl[ci]? = some (C, T, N)) (hst : (st.map zc1).sum ≤ 8)
    (kk : ∀ v F' I' J', post v F' I' J' → HW X (pc + 3) ls (v.toList ++ st) F' I' J') : HW X pc ls (As.reverse ++ .inr (.inr (some q)) :: st) F I J := by
  obtain ⟨d, h1, h2, h3, -⟩ := zrow hX hr
  cases h1
  cases (beq_iff_eq.mp h3 : n = 3)
  intro H locs LS hW hS hL
  refine hw_run (Value.ref (xad X q) :: As.map (zv (xad X))).toArray hX hS hL ?_ kk
  exact va_runV (As := As.map (zv (xad X))) (b := xad X q) (rest := st.map (zv (xad X))) (nL := (xc X).maxLocals) ⟨hX.1, hX.2.1, rfl, hX.2.2.1, hX.2.2.2.1⟩ (hC (xad X) H.size) (cwV nA hX.2.2.2.1 hG hw h0.1 h0.2 hd (by rw [hX.2.2.2.2.2.2.1]; exact hR)) ⟨zblind, zrecv hX hW hq hci, zpre hX hW⟩ rfl (by rw [List.length_map]; exact hnA) hL.1 (by simp [F0, zv]) (lv_room (by rw [zc1_cat]; exact hst)) h2 hc
theorem hw_callS {idx nA maxL : Nat} {y : MethodName} {ws ws' : List Cond} {rm : Room} {bytes : ByteArray} {ret : Option FieldType} {As : List zV} {post : zP} (hX : ZF X M) (hr : (pc, .invokestatic idx, n, aux) ∈ M.2.1)
    (hC : Cn (xl X) (xD X) y ws rm (xsh X) As F I J post) (hG : GoodIn M.2.2.2.1 (va_wsS M.2.2.1 idx y ws)) (hw : ws = Cond.code y bytes maxL ret :: ws') (h0 : rm.cells = 0 ∧ rm.slots = 0)
    (hd : y.cls ≠ "java/lang/invoke/MethodHandle" ∧ y.cls ≠ "java/lang/invoke/VarHandle" ∧ (parseMethodDescriptor y.desc).map (fun d => d.parameters.length) = some nA) (hnA : As.length = nA)
    (hR : rm.frames + 1 ≤ M.2.2.2.2.frames ∧ 8 + (maxL + 11) + rm.locals ≤ M.2.2.2.2.locals) (hc : xk X ≤ (xR X).cells ∧ xn X ≤ (xR X).slots) (hst : (st.map zc1).sum ≤ 8)
    (kk : ∀ v F' I' J', post v F' I' J' → HW X (pc + 3) ls (v.toList ++ st) F' I' J') : HW X pc ls (As.reverse ++ st) F I J := by
  obtain ⟨d, h1, h2, h3, -⟩ := zrow hX hr
  cases h1
  cases (beq_iff_eq.mp h3 : n = 3)
  intro H locs LS hW hS hL
  refine hw_run (As.map (zv (xad X))).toArray hX hS hL ?_ kk
  exact va_runS (As := As.map (zv (xad X))) (rest := st.map (zv (xad X))) (nL := (xc X).maxLocals) ⟨hX.1, hX.2.1, rfl, hX.2.2.1, hX.2.2.2.1⟩ (hC (xad X) H.size) (va_cwS nA hX.2.2.2.1 hG hw h0.1 h0.2 hd (by rw [hX.2.2.2.2.2.2.1]; exact hR)) ⟨zblind, zpre hX hW⟩ rfl (by rw [List.length_map]; exact hnA) hL.1 (by simp [F0]) (lv_room (by rw [zc1_cat]; exact hst)) h2 hc
theorem hw_callN {idx nA maxL : Nat} {host : String} {y : MethodName} {ws ws' : List Cond} {rm : Room} {bytes : ByteArray} {ret : Option FieldType} {As : List zV} {post : zP} (hX : ZF X M) (hr : (pc, .invokestatic idx, n, aux) ∈ M.2.1)
    (hC : Cn (xl X) (xD X) y ws rm (xsh X) As F I J post) (hG : GoodIn M.2.2.2.1 ws) (hw : ws = Cond.code y bytes maxL ret :: ws') (h0 : rm.cells = 0 ∧ rm.slots = 0) (hnest : Cond.methodLinkNest M.2.2.1 idx y host ∈ zNest) (hini : Cond.initialized y.cls ∈ M.2.2.2.1) (hsta : Cond.static y ∈ M.2.2.2.1)
    (hd : y.cls ≠ "java/lang/invoke/MethodHandle" ∧ y.cls ≠ "java/lang/invoke/VarHandle" ∧ (parseMethodDescriptor y.desc).map (fun d => d.parameters.length) = some nA) (hnA : As.length = nA)
    (hR : rm.frames + 1 ≤ M.2.2.2.2.frames ∧ 8 + (maxL + 11) + rm.locals ≤ M.2.2.2.2.locals) (hc : xk X ≤ (xR X).cells ∧ xn X ≤ (xR X).slots) (hst : (st.map zc1).sum ≤ 8)
    (kk : ∀ v F' I' J', post v F' I' J' → HW X (pc + 3) ls (v.toList ++ st) F' I' J') : HW X pc ls (As.reverse ++ st) F I J := by
  obtain ⟨d, h1, h2, h3, -⟩ := zrow hX hr
  cases h1
  cases (beq_iff_eq.mp h3 : n = 3)
  intro H locs LS hW hS hL
  refine hw_run (As.map (zv (xad X))).toArray hX hS hL ?_ kk
  exact va_runSN (As := As.map (zv (xad X))) (rest := st.map (zv (xad X))) (nL := (xc X).maxLocals) ⟨hX.1, hX.2.1, rfl, hX.2.2.1, hX.2.2.2.1⟩ (hC (xad X) H.size) ⟨va_cnB nA hX.2.2.2.1 hG hw h0.1 h0.2 (hX.2.2.2.2.1.2.2.2.2.2 _ hnest) (hX.2.2.2.1 _ hini) hd (by rw [hX.2.2.2.2.2.2.1]; exact hR), hX.2.2.2.1 _ hsta, trivial⟩ ⟨zblind, zpre hX hW⟩ rfl (by rw [List.length_map]; exact hnA) hL.1 (by simp [F0]) (lv_room (by rw [zc1_cat]; exact hst)) h2 hc
end ZCALL
end
section
/-! ENGINE, part 6: the walk as one proposition -/
def zI (st : List zV) (K : Int → List zV → Prop) : Prop := match st with
  | .inl a :: r => K a r
  | _ => False
def zI2 (st : List zV) (K : Int → Int → List zV → Prop) : Prop := match st with
  | .inl b :: .inl a :: r => K a b r
  | _ => False
def zL1 (st : List zV) (K : Nat → List zV → Prop) : Prop := match st with
  | .inr (.inl a) :: r => K a r
  | _ => False
def zL2 (st : List zV) (K : Nat → Nat → List zV → Prop) : Prop := match st with
  | .inr (.inl b) :: .inr (.inl a) :: r => K a b r
  | _ => False
def zLI (st : List zV) (K : Nat → Int → List zV → Prop) : Prop := match st with
  | .inl b :: .inr (.inl a) :: r => K a b r
  | _ => False
def zRf (st : List zV) (K : Nat → List zV → Prop) : Prop := match st with
  | .inr (.inr (some q)) :: r => K q r
  | _ => False
def zRI (st : List zV) (K : Nat → Int → List zV → Prop) : Prop := match st with
  | .inl i :: .inr (.inr (some q)) :: r => K q i r
  | _ => False
def zRII (st : List zV) (K : Nat → Int → Int → List zV → Prop) : Prop := match st with
  | .inl x :: .inl i :: .inr (.inr (some q)) :: r => K q i x r
  | _ => False
def zRIL (st : List zV) (K : Nat → Int → Nat → List zV → Prop) : Prop := match st with
  | .inr (.inl x) :: .inl i :: .inr (.inr (some q)) :: r => K q i x r
  | _ => False
def zgI (ls : List (Option zV)) (i : Nat) (K : Int → Prop) : Prop := match ls[i]? with
  | some (some (.inl x)) => K x
  | _ => False
def zgL (ls : List (Option zV)) (i : Nat) (K : Nat → Prop) : Prop := match ls[i]? with
  | some (some (.inr (.inl x))) => K x
  | _ => False
def zgR (ls : List (Option zV)) (i : Nat) (K : Option Nat → Prop) : Prop := match ls[i]? with
  | some (some (.inr (.inr x))) => K x
  | _ => False
def zif (b : Bool) (K : Prop) : Prop := match b with
  | true => K
  | false => False
theorem zI_inv {st : List zV} {K : Int → List zV → Prop} (h : zI st K) : ∃ a r, st = .inl a :: r ∧ K a r := by
  unfold zI at h; split at h
  · exact ⟨_, _, rfl, h⟩
  · cases h
theorem zI2_inv {st : List zV} {K : Int → Int → List zV → Prop} (h : zI2 st K) : ∃ a b r, st = .inl b :: .inl a :: r ∧ K a b r := by
  unfold zI2 at h; split at h
  · exact ⟨_, _, _, rfl, h⟩
  · cases h
theorem zL1_inv {st : List zV} {K : Nat → List zV → Prop} (h : zL1 st K) : ∃ a r, st = .inr (.inl a) :: r ∧ K a r := by
  unfold zL1 at h; split at h
  · exact ⟨_, _, rfl, h⟩
  · cases h
theorem zL2_inv {st : List zV} {K : Nat → Nat → List zV → Prop} (h : zL2 st K) : ∃ a b r, st = .inr (.inl b) :: .inr (.inl a) :: r ∧ K a b r := by
  unfold zL2 at h; split at h
  · exact ⟨_, _, _, rfl, h⟩
  · cases h
theorem zLI_inv {st : List zV} {K : Nat → Int → List zV → Prop} (h : zLI st K) : ∃ a b r, st = .inl b :: .inr (.inl a) :: r ∧ K a b r := by
  unfold zLI at h; split at h
  · exact ⟨_, _, _, rfl, h⟩
  · cases h
theorem zRf_inv {st : List zV} {K : Nat → List zV → Prop} (h : zRf st K) : ∃ q r, st = .inr (.inr (some q)) :: r ∧ K q r := by
  unfold zRf at h; split at h
  · exact ⟨_, _, rfl, h⟩
  · cases h
theorem zRI_inv {st : List zV} {K : Nat → Int → List zV → Prop} (h : zRI st K) : ∃ q i r, st = .inl i :: .inr (.inr (some q)) :: r ∧ K q i r := by
  unfold zRI at h; split at h
  · exact ⟨_, _, _, rfl, h⟩
  · cases h
theorem zRII_inv {st : List zV} {K : Nat → Int → Int → List zV → Prop} (h : zRII st K) : ∃ q i x r, st = .inl x :: .inl i :: .inr (.inr (some q)) :: r ∧ K q i x r := by
  unfold zRII at h; split at h
  · exact ⟨_, _, _, _, rfl, h⟩
  · cases h
theorem zRIL_inv {st : List zV} {K : Nat → Int → Nat → List zV → Prop} (h : zRIL st K) : ∃ q i x r, st = .inr (.inl x) :: .inl i :: .inr (.inr (some q)) :: r ∧ K q i x r := by
  unfold zRIL at h; split at h
  · exact ⟨_, _, _, _, rfl, h⟩
  · cases h
theorem zgI_inv {ls : List (Option zV)} {i : Nat} {K : Int → Prop} (h : zgI ls i K) : ∃ x, ls[i]? = some (some (.inl x)) ∧ K x := by
  unfold zgI at h; split at h
  · rename_i e; exact ⟨_, e, h⟩
  · cases h
theorem zgL_inv {ls : List (Option zV)} {i : Nat} {K : Nat → Prop} (h : zgL ls i K) : ∃ x, ls[i]? = some (some (.inr (.inl x))) ∧ K x := by
  unfold zgL at h; split at h
  · rename_i e; exact ⟨_, e, h⟩
  · cases h
theorem zgR_inv {ls : List (Option zV)} {i : Nat} {K : Option Nat → Prop} (h : zgR ls i K) : ∃ x, ls[i]? = some (some (.inr (.inr x))) ∧ K x := by
  unfold zgR at h; split at h
  · rename_i e; exact ⟨_, e, h⟩
  · cases h
theorem zif_inv {b : Bool} {K : Prop} (h : zif b K) : b = true ∧ K := by
  cases b with
  | true => exact ⟨rfl, h⟩
  | false => cases h
abbrev zK : Type := Nat → List (Option zV) → List zV → zFi → zFi → zJi → Prop
/-- a call: whatever it may come to leads on -/
def zCall (X : zX) (pc : Nat) (st : List zV) (F I : zFi) (J : zJi) (K : List zV → zFi → zFi → zJi → Prop) : Prop := ∀ ls, (∀ st' F' I' J', K st' F' I' J' → HW X (pc + 3) ls st' F' I' J') → HW X pc ls st F I J
def zstep (X : zX) (RT : zP) (i : Instr) (n pc : Nat) (ls : List (Option zV)) (st : List zV) (F I : zFi) (J : zJi) (k : zK) : Prop := match i with
  | .iconst v => k (pc + n) ls (.inl v :: st) F I J
  | .lconst v => k (pc + n) ls (.inr (.inl v.val) :: st) F I J
  | .ldc2_w v => k (pc + n) ls (.inr (.inl v) :: st) F I J
  | .iload i => zgI ls i fun x => k (pc + n) ls (.inl x :: st) F I J
  | .lload i => zgL ls i fun x => k (pc + n) ls (.inr (.inl x) :: st) F I J
  | .aload i => zgR ls i fun x => k (pc + n) ls (.inr (.inr x) :: st) F I J
  | .istore i => zif (Nat.blt i ls.length) (zI st fun a r => k (pc + n) (zst1 ls i (.inl a)) r F I J)
  | .lstore i => zif (Nat.blt (i + 1) ls.length) (zL1 st fun a r => k (pc + n) (zst2 ls i (.inr (.inl a))) r F I J)
  | .astore i => zif (Nat.blt i ls.length) (match st with
    | .inr (.inr x) :: r => k (pc + n) (zst1 ls i (.inr (.inr x))) r F I J
    | _ => False)
  | .iinc i c => zgI ls i fun x => k (pc + n) (zst1 ls i (.inl (x + c))) st F I J
  | .iadd => zI2 st fun a b r => k (pc + n) ls (.inl (a + b) :: r) F I J
  | .isub => zI2 st fun a b r => k (pc + n) ls (.inl (a - b) :: r) F I J
  | .imul => zI2 st fun a b r => k (pc + n) ls (.inl (a * b) :: r) F I J
  | .iand => zI2 st fun a b r => k (pc + n) ls (.inl (zand a b) :: r) F I J
  | .ior => zI2 st fun a b r => k (pc + n) ls (.inl (zor a b) :: r) F I J
  | .ixor => zI2 st fun a b r => k (pc + n) ls (.inl (zxor a b) :: r) F I J
  | .ishl => zI2 st fun a b r => k (pc + n) ls (.inl (zshl a b) :: r) F I J
  | .ishr => zI2 st fun a b r => k (pc + n) ls (.inl (zshr a b) :: r) F I J
  | .iushr => zI2 st fun a b r => k (pc + n) ls (.inl (zush a b) :: r) F I J
  | .idiv => zI2 st fun a b r => (¬ b % 4294967296 = 0) ∧ k (pc + n) ls (.inl (zdiv a b) :: r) F I J
  | .irem => zI2 st fun a b r => (¬ b % 4294967296 = 0) ∧ k (pc + n) ls (.inl (zrem a b) :: r) F I J
  | .ineg => zI st fun a r => k (pc + n) ls (.inl (-a) :: r) F I J
  | .ladd => zL2 st fun a b r => k (pc + n) ls (.inr (.inl (zladd a b)) :: r) F I J
  | .lsub => zL2 st fun a b r => k (pc + n) ls (.inr (.inl (zlsub a b)) :: r) F I J
  | .land => zL2 st fun a b r => k (pc + n) ls (.inr (.inl (zland a b)) :: r) F I J
  | .lor => zL2 st fun a b r => k (pc + n) ls (.inr (.inl (zlor a b)) :: r) F I J
  | .lxor => zL2 st fun a b r => k (pc + n) ls (.inr (.inl (zlxor a b)) :: r) F I J
  | .lneg => zL1 st fun a r => k (pc + n) ls (.inr (.inl (zlneg a)) :: r) F I J
  | .lshl => zLI st fun a b r => k (pc + n) ls (.inr (.inl (zlshl a b)) :: r) F I J
  | .lshr => zLI st fun a b r => k (pc + n) ls (.inr (.inl (zlshr a b)) :: r) F I J
  | .lushr => zLI st fun a b r => k (pc + n) ls (.inr (.inl (zlush a b)) :: r) F I J
  | .i2l => zI st fun a r => k (pc + n) ls (.inr (.inl (zi2l a)) :: r) F I J
  | .l2i => zL1 st fun a r => k (pc + n) ls (.inl (zl2i a) :: r) F I J
  | .lcmp => zL2 st fun a b r => k (pc + n) ls (.inl (zcmp a b) :: r) F I J
  | .dup => match st with
    | v :: r => zif (z1 v) (k (pc + n) ls (v :: v :: r) F I J)
    | _ => False
  | .pop => match st with
    | v :: r => zif (z1 v) (k (pc + n) ls r F I J)
    | _ => False
  | .dup2 => match st with
    | .inr (.inl a) :: r => k (pc + n) ls (.inr (.inl a) :: .inr (.inl a) :: r) F I J
    | v :: w :: r => zif (z1 v && z1 w) (k (pc + n) ls (v :: w :: v :: w :: r) F I J)
    | _ => False
  | .aconst_null => k (pc + n) ls (.inr (.inr none) :: st) F I J
  | .if_icmp .eq (.ofNat t) => zI2 st fun a b r => (a % 4294967296 = b % 4294967296 → k t ls r F I J) ∧ (¬ (a % 4294967296 = b % 4294967296) → k (pc + n) ls r F I J)
  | .if_icmp .ne (.ofNat t) => zI2 st fun a b r => (¬ a % 4294967296 = b % 4294967296 → k t ls r F I J) ∧ (a % 4294967296 = b % 4294967296 → k (pc + n) ls r F I J)
  | .if_icmp .lt (.ofNat t) => zI2 st fun a b r => ((a + 2147483648) % 4294967296 < (b + 2147483648) % 4294967296 → k t ls r F I J) ∧ (¬ ((a + 2147483648) % 4294967296 < (b + 2147483648) % 4294967296) → k (pc + n) ls r F I J)
  | .if_icmp .ge (.ofNat t) => zI2 st fun a b r => ((b + 2147483648) % 4294967296 ≤ (a + 2147483648) % 4294967296 → k t ls r F I J) ∧ (¬ ((b + 2147483648) % 4294967296 ≤ (a + 2147483648) % 4294967296) → k (pc + n) ls r F I J)
  | .if_icmp .gt (.ofNat t) => zI2 st fun a b r => ((b + 2147483648) % 4294967296 < (a + 2147483648) % 4294967296 → k t ls r F I J) ∧ (¬ ((b + 2147483648) % 4294967296 < (a + 2147483648) % 4294967296) → k (pc + n) ls r F I J)
  | .if_icmp .le (.ofNat t) => zI2 st fun a b r => ((a + 2147483648) % 4294967296 ≤ (b + 2147483648) % 4294967296 → k t ls r F I J) ∧ (¬ ((a + 2147483648) % 4294967296 ≤ (b + 2147483648) % 4294967296) → k (pc + n) ls r F I J)
  | .ifCond .eq (.ofNat t) => zI st fun a r => (a % 4294967296 = 0 → k t ls r F I J) ∧ (¬ (a % 4294967296 = 0) → k (pc + n) ls r F I J)
  | .ifCond .ne (.ofNat t) => zI st fun a r => (¬ a % 4294967296 = 0 → k t ls r F I J) ∧ (a % 4294967296 = 0 → k (pc + n) ls r F I J)
  | .ifCond .lt (.ofNat t) => zI st fun a r => ((a + 2147483648) % 4294967296 < 2147483648 → k t ls r F I J) ∧ (¬ ((a + 2147483648) % 4294967296 < 2147483648) → k (pc + n) ls r F I J)
  | .ifCond .ge (.ofNat t) => zI st fun a r => (2147483648 ≤ (a + 2147483648) % 4294967296 → k t ls r F I J) ∧ (¬ (2147483648 ≤ (a + 2147483648) % 4294967296) → k (pc + n) ls r F I J)
  | .ifCond .gt (.ofNat t) => zI st fun a r => (2147483648 < (a + 2147483648) % 4294967296 → k t ls r F I J) ∧ (¬ (2147483648 < (a + 2147483648) % 4294967296) → k (pc + n) ls r F I J)
  | .ifCond .le (.ofNat t) => zI st fun a r => ((a + 2147483648) % 4294967296 ≤ 2147483648 → k t ls r F I J) ∧ (¬ ((a + 2147483648) % 4294967296 ≤ 2147483648) → k (pc + n) ls r F I J)
  | .goto (.ofNat t) => k t ls st F I J
  | .ifnull (.ofNat t) => match st with
    | .inr (.inr none) :: r => k t ls r F I J
    | .inr (.inr (some _)) :: r => k (pc + n) ls r F I J
    | _ => False
  | .ifnonnull (.ofNat t) => match st with
    | .inr (.inr none) :: r => k (pc + n) ls r F I J
    | .inr (.inr (some _)) :: r => k t ls r F I J
    | _ => False
  | .invokeinterface ci j => zRf st fun q r => ∃ sl, xsh X q = some (.inl (ci, sl)) ∧ (match sl[j]? with
    | some none => k (pc + n) ls (.inl (F q j) :: r) F I J
    | some (some x) => k (pc + n) ls (.inr (.inr x) :: r) F I J
    | none => False)
  | .multianewarray ci j => match st with
    | .inl x :: .inr (.inr (some q)) :: r => ∃ sl, xsh X q = some (.inl (ci, sl)) ∧ (match sl[j]? with
      | some none => k (pc + n) ls r (zu F q j x) I J
      | _ => False)
    | _ => False
  | .putstatic e => match st with
    | .inl x :: .inr (.inr (some q)) :: r => ∃ sl, xsh X q = some (.inl (e / 64, sl)) ∧ (x = 0 ∨ x = 1) ∧ (match sl[e % 64]? with
      | some none => k (pc + n) ls r (zu F q (e % 64) x) I J
      | _ => False)
    | _ => False
  | .iaload => zRI st fun q i r => ∃ (cA : ClassId) (m j : Nat), xsh X q = some (.inr (.inl (cA, m))) ∧ i = (j : Int) ∧ j < m ∧ k (pc + n) ls (.inl (I q j) :: r) F I J
  | .laload => zRI st fun q i r => ∃ (cA : ClassId) (m j : Nat), xsh X q = some (.inr (.inr (.inl (cA, m)))) ∧ i = (j : Int) ∧ j < m ∧ k (pc + n) ls (.inr (.inl (J q j)) :: r) F I J
  | .aaload => zRI st fun q i r => ∃ (cA : ClassId) (E : String) (m : Nat) (f : Nat → Option Nat) (j : Nat), xsh X q = some (.inr (.inr (.inr (cA, E, m, f)))) ∧ i = (j : Int) ∧ j < m ∧ k (pc + n) ls (.inr (.inr (f j)) :: r) F I J
  | .arraylength => zRf st fun q r => ∃ t, xsh X q = some (.inr t) ∧ (match t with
    | .inl (_, m) => k (pc + n) ls (.inl (m : Int) :: r) F I J
    | .inr (.inl (_, m)) => k (pc + n) ls (.inl (m : Int) :: r) F I J
    | _ => False)
  | .iastore => zRII st fun q i x r => ∃ (cA : ClassId) (m j : Nat), xsh X q = some (.inr (.inl (cA, m))) ∧ i = (j : Int) ∧ j < m ∧ k (pc + n) ls r F (zu I q j x) J
  | .lastore => zRIL st fun q i x r => ∃ (cA : ClassId) (m j : Nat), xsh X q = some (.inr (.inr (.inl (cA, m)))) ∧ i = (j : Int) ∧ j < m ∧ k (pc + n) ls r F I (zw J q j x)
  | .invokevirtual _ => zCall X pc st F I J (fun st' F' I' J' => k (pc + 3) ls st' F' I' J')
  | .invokestatic _ => zCall X pc st F I J (fun st' F' I' J' => k (pc + 3) ls st' F' I' J')
  | .invokespecial _ => zCall X pc st F I J (fun st' F' I' J' => k (pc + 3) ls st' F' I' J')
  | .ireturn => match st with
    | [.inl x] => RT (some (.inl x)) F I J
    | _ => False
  | .dreturn => match st with
    | [.inl x] => (x = 0 ∨ x = 1) ∧ RT (some (.inl x)) F I J
    | _ => False
  | .lreturn => match st with
    | [.inr (.inl x)] => RT (some (.inr (.inl x))) F I J
    | _ => False
  | .areturn => match st with
    | [.inr (.inr x)] => RT (some (.inr (.inr x))) F I J
    | _ => False
  | .return_ => match st with
    | [] => RT none F I J
    | _ => False
  | _ => False
set_option maxHeartbeats 4000000 in
theorem zstep_ok {X : zX} {M : zM} {RT : zP} {i : Instr} {n aux pc : Nat} {ls : List (Option zV)} {st : List zV} {F I : zFi} {J : zJi} {k : zK} (hX : ZF X M) (hR : ZR X M RT) (hr : (pc, i, n, aux) ∈ M.2.1) (hk : ∀ pc ls st F I J, k pc ls st F I J → HW X pc ls st F I J) (h : zstep X RT i n pc ls st F I J k) : HW X pc ls st F I J := by
  unfold zstep at h
  split at h
  · exact hw_iconst hX hr (hk _ _ _ _ _ _ h)
  · exact hw_lconst hX hr (hk _ _ _ _ _ _ h)
  · exact hw_ldc2 hX hr (hk _ _ _ _ _ _ h)
  · obtain ⟨x, e, h⟩ := zgI_inv h
    exact hw_iload hX hr e (hk _ _ _ _ _ _ h)
  · obtain ⟨x, e, h⟩ := zgL_inv h
    exact hw_lload hX hr e (hk _ _ _ _ _ _ h)
  · obtain ⟨x, e, h⟩ := zgR_inv h
    exact hw_aload hX hr e (hk _ _ _ _ _ _ h)
  · obtain ⟨hb, h⟩ := zif_inv h
    obtain ⟨a, r, rfl, h⟩ := zI_inv h
    exact hw_istore hX hr (Nat.le_of_ble_eq_true hb) (hk _ _ _ _ _ _ h)
  · obtain ⟨hb, h⟩ := zif_inv h
    obtain ⟨a, r, rfl, h⟩ := zL1_inv h
    exact hw_lstore hX hr (Nat.le_of_ble_eq_true hb) (hk _ _ _ _ _ _ h)
  · obtain ⟨hb, h⟩ := zif_inv h
    split at h
    · exact hw_astore hX hr (Nat.le_of_ble_eq_true hb) (hk _ _ _ _ _ _ h)
    · cases h
  · obtain ⟨x, e, h⟩ := zgI_inv h
    exact hw_iinc hX hr e (hk _ _ _ _ _ _ h)
  · obtain ⟨a, b, r, rfl, h⟩ := zI2_inv h
    exact hw_iadd hX hr (hk _ _ _ _ _ _ h)
  · obtain ⟨a, b, r, rfl, h⟩ := zI2_inv h
    exact hw_isub hX hr (hk _ _ _ _ _ _ h)
  · obtain ⟨a, b, r, rfl, h⟩ := zI2_inv h
    exact hw_imul hX hr (hk _ _ _ _ _ _ h)
  · obtain ⟨a, b, r, rfl, h⟩ := zI2_inv h
    exact hw_iand hX hr (hk _ _ _ _ _ _ h)
  · obtain ⟨a, b, r, rfl, h⟩ := zI2_inv h
    exact hw_ior hX hr (hk _ _ _ _ _ _ h)
  · obtain ⟨a, b, r, rfl, h⟩ := zI2_inv h
    exact hw_ixor hX hr (hk _ _ _ _ _ _ h)
  · obtain ⟨a, b, r, rfl, h⟩ := zI2_inv h
    exact hw_ishl hX hr (hk _ _ _ _ _ _ h)
  · obtain ⟨a, b, r, rfl, h⟩ := zI2_inv h
    exact hw_ishr hX hr (hk _ _ _ _ _ _ h)
  · obtain ⟨a, b, r, rfl, h⟩ := zI2_inv h
    exact hw_iushr hX hr (hk _ _ _ _ _ _ h)
  · obtain ⟨a, b, r, rfl, hb, h⟩ := zI2_inv h
    exact hw_idiv hX hr hb (hk _ _ _ _ _ _ h)
  · obtain ⟨a, b, r, rfl, hb, h⟩ := zI2_inv h
    exact hw_irem hX hr hb (hk _ _ _ _ _ _ h)
  · obtain ⟨a, r, rfl, h⟩ := zI_inv h
    exact hw_ineg hX hr (hk _ _ _ _ _ _ h)
  · obtain ⟨a, b, r, rfl, h⟩ := zL2_inv h
    exact hw_ladd hX hr (hk _ _ _ _ _ _ h)
  · obtain ⟨a, b, r, rfl, h⟩ := zL2_inv h
    exact hw_lsub hX hr (hk _ _ _ _ _ _ h)
  · obtain ⟨a, b, r, rfl, h⟩ := zL2_inv h
    exact hw_land hX hr (hk _ _ _ _ _ _ h)
  · obtain ⟨a, b, r, rfl, h⟩ := zL2_inv h
    exact hw_lor hX hr (hk _ _ _ _ _ _ h)
  · obtain ⟨a, b, r, rfl, h⟩ := zL2_inv h
    exact hw_lxor hX hr (hk _ _ _ _ _ _ h)
  · obtain ⟨a, r, rfl, h⟩ := zL1_inv h
    exact hw_lneg hX hr (hk _ _ _ _ _ _ h)
  · obtain ⟨a, b, r, rfl, h⟩ := zLI_inv h
    exact hw_lshl hX hr (hk _ _ _ _ _ _ h)
  · obtain ⟨a, b, r, rfl, h⟩ := zLI_inv h
    exact hw_lshr hX hr (hk _ _ _ _ _ _ h)
  · obtain ⟨a, b, r, rfl, h⟩ := zLI_inv h
    exact hw_lushr hX hr (hk _ _ _ _ _ _ h)
  · obtain ⟨a, r, rfl, h⟩ := zI_inv h
    exact hw_i2l hX hr (hk _ _ _ _ _ _ h)
  · obtain ⟨a, r, rfl, h⟩ := zL1_inv h
    exact hw_l2i hX hr (hk _ _ _ _ _ _ h)
  · obtain ⟨a, b, r, rfl, h⟩ := zL2_inv h
    exact hw_lcmp hX hr (hk _ _ _ _ _ _ h)
  · split at h
    · obtain ⟨hb, h⟩ := zif_inv h
      exact hw_dup hX hr hb (hk _ _ _ _ _ _ h)
    · cases h
  · split at h
    · obtain ⟨hb, h⟩ := zif_inv h
      exact hw_pop hX hr hb (hk _ _ _ _ _ _ h)
    · cases h
  · split at h
    · exact hw_dup2l hX hr (hk _ _ _ _ _ _ h)
    · obtain ⟨hb, h⟩ := zif_inv h
      simp only [Bool.and_eq_true] at hb
      exact hw_dup2 hX hr hb.1 hb.2 (hk _ _ _ _ _ _ h)
    · cases h
  · exact hw_null hX hr (hk _ _ _ _ _ _ h)
  · obtain ⟨a, b, r, rfl, h⟩ := zI2_inv h
    exact hw_icmp_eq hX hr ⟨fun c => hk _ _ _ _ _ _ (h.1 c), fun c => hk _ _ _ _ _ _ (h.2 c)⟩
  · obtain ⟨a, b, r, rfl, h⟩ := zI2_inv h
    exact hw_icmp_ne hX hr ⟨fun c => hk _ _ _ _ _ _ (h.1 c), fun c => hk _ _ _ _ _ _ (h.2 c)⟩
  · obtain ⟨a, b, r, rfl, h⟩ := zI2_inv h
    exact hw_icmp_lt hX hr ⟨fun c => hk _ _ _ _ _ _ (h.1 c), fun c => hk _ _ _ _ _ _ (h.2 c)⟩
  · obtain ⟨a, b, r, rfl, h⟩ := zI2_inv h
    exact hw_icmp_ge hX hr ⟨fun c => hk _ _ _ _ _ _ (h.1 c), fun c => hk _ _ _ _ _ _ (h.2 c)⟩
  · obtain ⟨a, b, r, rfl, h⟩ := zI2_inv h
    exact hw_icmp_gt hX hr ⟨fun c => hk _ _ _ _ _ _ (h.1 c), fun c => hk _ _ _ _ _ _ (h.2 c)⟩
  · obtain ⟨a, b, r, rfl, h⟩ := zI2_inv h
    exact hw_icmp_le hX hr ⟨fun c => hk _ _ _ _ _ _ (h.1 c), fun c => hk _ _ _ _ _ _ (h.2 c)⟩
  · obtain ⟨a, r, rfl, h⟩ := zI_inv h
    exact hw_if_eq hX hr ⟨fun c => hk _ _ _ _ _ _ (h.1 c), fun c => hk _ _ _ _ _ _ (h.2 c)⟩
  · obtain ⟨a, r, rfl, h⟩ := zI_inv h
    exact hw_if_ne hX hr ⟨fun c => hk _ _ _ _ _ _ (h.1 c), fun c => hk _ _ _ _ _ _ (h.2 c)⟩
  · obtain ⟨a, r, rfl, h⟩ := zI_inv h
    exact hw_if_lt hX hr ⟨fun c => hk _ _ _ _ _ _ (h.1 c), fun c => hk _ _ _ _ _ _ (h.2 c)⟩
  · obtain ⟨a, r, rfl, h⟩ := zI_inv h
    exact hw_if_ge hX hr ⟨fun c => hk _ _ _ _ _ _ (h.1 c), fun c => hk _ _ _ _ _ _ (h.2 c)⟩
  · obtain ⟨a, r, rfl, h⟩ := zI_inv h
    exact hw_if_gt hX hr ⟨fun c => hk _ _ _ _ _ _ (h.1 c), fun c => hk _ _ _ _ _ _ (h.2 c)⟩
  · obtain ⟨a, r, rfl, h⟩ := zI_inv h
    exact hw_if_le hX hr ⟨fun c => hk _ _ _ _ _ _ (h.1 c), fun c => hk _ _ _ _ _ _ (h.2 c)⟩
  · exact hw_goto hX hr (hk _ _ _ _ _ _ h)
  · split at h
    · exact hw_ifnull_n hX hr (hk _ _ _ _ _ _ h)
    · exact hw_ifnull_s hX hr (hk _ _ _ _ _ _ h)
    · cases h
  · split at h
    · exact hw_ifnonnull_n hX hr (hk _ _ _ _ _ _ h)
    · exact hw_ifnonnull_s hX hr (hk _ _ _ _ _ _ h)
    · cases h
  · obtain ⟨q, r, rfl, sl, hq, h⟩ := zRf_inv h
    split at h
    · rename_i hs
      exact hw_getfield hX hr hq hs (hk _ _ _ _ _ _ h)
    · rename_i hs
      exact hw_getref hX hr hq hs (hk _ _ _ _ _ _ h)
    · cases h
  · split at h
    · obtain ⟨sl, hq, h⟩ := h
      split at h
      · rename_i hs
        exact hw_putfield hX hr hq hs (hk _ _ _ _ _ _ h)
      · cases h
    · cases h
  · split at h
    · obtain ⟨sl, hq, hx, h⟩ := h
      split at h
      · rename_i hs
        exact hw_putbool hX hr hx hq hs (hk _ _ _ _ _ _ h)
      · cases h
    · cases h
  · obtain ⟨q, i, r, rfl, cA, m, j, hq, hi, hj, h⟩ := zRI_inv h
    exact hw_iaload hX hr hq hi hj (hk _ _ _ _ _ _ h)
  · obtain ⟨q, i, r, rfl, cA, m, j, hq, hi, hj, h⟩ := zRI_inv h
    exact hw_laload hX hr hq hi hj (hk _ _ _ _ _ _ h)
  · obtain ⟨q, i, r, rfl, cA, E, m, f, j, hq, hi, hj, h⟩ := zRI_inv h
    exact hw_aaload hX hr hq hi hj (hk _ _ _ _ _ _ h)
  · obtain ⟨q, r, rfl, t, hq, h⟩ := zRf_inv h
    split at h
    · exact hw_ialen hX hr hq (hk _ _ _ _ _ _ h)
    · exact hw_jalen hX hr hq (hk _ _ _ _ _ _ h)
    · cases h
  · obtain ⟨q, i, x, r, rfl, cA, m, j, hq, hi, hj, h⟩ := zRII_inv h
    exact hw_iastore hX hr hq hi hj (hk _ _ _ _ _ _ h)
  · obtain ⟨q, i, x, r, rfl, cA, m, j, hq, hi, hj, h⟩ := zRIL_inv h
    exact hw_lastore hX hr hq hi hj (hk _ _ _ _ _ _ h)
  · exact h ls (fun st' F' I' J' z => hk _ _ _ _ _ _ z)
  · exact h ls (fun st' F' I' J' z => hk _ _ _ _ _ _ z)
  · exact h ls (fun st' F' I' J' z => hk _ _ _ _ _ _ z)
  · split at h
    · exact hR.1 _ _ _ _ _ _ _ _ hr h
    · cases h
  · split at h
    · exact hR.2.1 _ _ _ _ _ _ _ _ hr h.1 h.2
    · cases h
  · split at h
    · exact hR.2.2.1 _ _ _ _ _ _ _ _ hr h
    · cases h
  · split at h
    · exact hR.2.2.2.1 _ _ _ _ _ _ _ _ hr h
    · cases h
  · split at h
    · exact hR.2.2.2.2 _ _ _ _ _ _ _ hr h
    · cases h
  · cases h
def zat : List (Nat × Instr × Nat × Nat) → Nat → Option (Instr × Nat × Nat)
  | [], _ => none
  | (q, x) :: r, pc => match Nat.beq q pc with
    | true => some x
    | false => zat r pc
theorem zat_mem {tab : List (Nat × Instr × Nat × Nat)} {pc : Nat} {x : Instr × Nat × Nat} (h : zat tab pc = some x) : (pc, x) ∈ tab := by
  induction tab with
  | nil => cases h
  | cons a r ih =>
    obtain ⟨q, y⟩ := a
    unfold zat at h
    split at h
    · rename_i e
      cases h
      rw [Nat.eq_of_beq_eq_true e]
      exact List.mem_cons_self
    · exact List.mem_cons_of_mem _ (ih h)
/-- the walk, up to the stops; m instructions at most -/
def zwp (X : zX) (tab : List (Nat × Instr × Nat × Nat)) (RT : zP) (stop : Nat → Bool) : Nat → zK
  | 0 => HW X
  | m + 1 => fun pc ls st F I J => match stop pc with
    | true => HW X pc ls st F I J
    | false => match zat tab pc with
      | some (i, n, _) => zstep X RT i n pc ls st F I J (zwp X tab RT stop m)
      | none => False
theorem zwp_ok {X : zX} {M : zM} {RT : zP} {stop : Nat → Bool} (hX : ZF X M) (hR : ZR X M RT) : ∀ (m pc : Nat) (ls : List (Option zV)) (st : List zV) (F I : zFi) (J : zJi), zwp X M.2.1 RT stop m pc ls st F I J → HW X pc ls st F I J := by
  intro m
  induction m with
  | zero => intro pc ls st F I J h; exact h
  | succ m ih =>
    intro pc ls st F I J h
    unfold zwp at h
    split at h
    · exact h
    · split at h
      · rename_i i n aux he
        exact zstep_ok hX hR (zat_mem he) ih h
      · cases h
/-- the first step is taken, whether it is a stop or not -/
theorem zgo {X : zX} {M : zM} {RT : zP} (stop : Nat → Bool) (m : Nat) (hX : ZF X M) (hR : ZR X M RT) {pc : Nat} {ls : List (Option zV)} {st : List zV} {F I : zFi} {J : zJi} {i : Instr} {n aux : Nat} (he : zat M.2.1 pc = some (i, n, aux)) (h : zstep X RT i n pc ls st F I J (zwp X M.2.1 RT stop m)) : HW X pc ls st F I J :=
  zstep_ok hX hR (zat_mem he) (zwp_ok hX hR m) h
end
section
/-! printed by program: the methods' rows in plain form, and that they are the bytes' -/
def tJ13_bitCount_95d88 : List (Nat × Instr × Nat × Nat) := [(0, .lload 0, 1, 0), (1, .lload 0, 1, 0), (2, .iconst (1), 1, 0), (3, .lushr, 1, 0), (4, .ldc2_w 6148914691236517205, 3, 314), (7, .land, 1, 0), (8, .lsub, 1, 0), (9, .lstore 0, 1, 0), (10, .lload 0, 1, 0), (11, .ldc2_w 3689348814741910323, 3, 316), (14, .land, 1, 0), (15, .lload 0, 1, 0), (16, .iconst (2), 1, 0), (17, .lushr, 1, 0), (18, .ldc2_w 3689348814741910323, 3, 316), (21, .land, 1, 0), (22, .ladd, 1, 0), (23, .lstore 0, 1, 0), (24, .lload 0, 1, 0), (25, .lload 0, 1, 0), (26, .iconst (4), 1, 0), (27, .lushr, 1, 0), (28, .ladd, 1, 0), (29, .ldc2_w 1085102592571150095, 3, 318), (32, .land, 1, 0), (33, .lstore 0, 1, 0), (34, .lload 0, 1, 0), (35, .lload 0, 1, 0), (36, .iconst (8), 2, 0), (38, .lushr, 1, 0), (39, .ladd, 1, 0), (40, .lstore 0, 1, 0), (41, .lload 0, 1, 0), (42, .lload 0, 1, 0), (43, .iconst (16), 2, 0), (45, .lushr, 1, 0), (46, .ladd, 1, 0), (47, .lstore 0, 1, 0), (48, .lload 0, 1, 0), (49, .lload 0, 1, 0), (50, .iconst (32), 2, 0), (52, .lushr, 1, 0), (53, .ladd, 1, 0), (54, .lstore 0, 1, 0), (55, .lload 0, 1, 0), (56, .l2i, 1, 0), (57, .iconst (127), 2, 0), (59, .iand, 1, 0), (60, .ireturn, 1, 0)]
def mJ13_bitCount_95d88 : zM := (cJ13_bitCount_95d88, tJ13_bitCount_95d88, RJ13, wsJ13_bitCount_95d88, { frames := 0, cells := 0, slots := 0, locals := 0 })
theorem kJ13_bitCount_95d88 : mJ13_bitCount_95d88.2.1.all (fun r => zok mJ13_bitCount_95d88 r && zrt (some .int) r.2.1) = true := by decide +kernel
def tJ6_bitCount_0f7a4 : List (Nat × Instr × Nat × Nat) := [(0, .iload 0, 1, 0), (1, .iload 0, 1, 0), (2, .iconst (1), 1, 0), (3, .iushr, 1, 0), (4, .iconst (1431655765), 3, 265), (7, .iand, 1, 0), (8, .isub, 1, 0), (9, .istore 0, 1, 0), (10, .iload 0, 1, 0), (11, .iconst (858993459), 3, 266), (14, .iand, 1, 0), (15, .iload 0, 1, 0), (16, .iconst (2), 1, 0), (17, .iushr, 1, 0), (18, .iconst (858993459), 3, 266), (21, .iand, 1, 0), (22, .iadd, 1, 0), (23, .istore 0, 1, 0), (24, .iload 0, 1, 0), (25, .iload 0, 1, 0), (26, .iconst (4), 1, 0), (27, .iushr, 1, 0), (28, .iadd, 1, 0), (29, .iconst (252645135), 3, 267), (32, .iand, 1, 0), (33, .istore 0, 1, 0), (34, .iload 0, 1, 0), (35, .iload 0, 1, 0), (36, .iconst (8), 2, 0), (38, .iushr, 1, 0), (39, .iadd, 1, 0), (40, .istore 0, 1, 0), (41, .iload 0, 1, 0), (42, .iload 0, 1, 0), (43, .iconst (16), 2, 0), (45, .iushr, 1, 0), (46, .iadd, 1, 0), (47, .istore 0, 1, 0), (48, .iload 0, 1, 0), (49, .iconst (63), 2, 0), (51, .iand, 1, 0), (52, .ireturn, 1, 0)]
def mJ6_bitCount_0f7a4 : zM := (cJ6_bitCount_0f7a4, tJ6_bitCount_0f7a4, RJ6, wsJ6_bitCount_0f7a4, { frames := 0, cells := 0, slots := 0, locals := 0 })
theorem kJ6_bitCount_0f7a4 : mJ6_bitCount_0f7a4.2.1.all (fun r => zok mJ6_bitCount_0f7a4 r && zrt (some .int) r.2.1) = true := by decide +kernel
def tJ7_fill_53178 : List (Nat × Instr × Nat × Nat) := [(0, .iconst (0), 1, 0), (1, .istore 2, 1, 0), (2, .aload 0, 1, 0), (3, .arraylength, 1, 0), (4, .istore 3, 1, 0), (5, .iload 2, 1, 0), (6, .iload 3, 1, 0), (7, .if_icmp .ge (.ofNat 20), 3, 0), (10, .aload 0, 1, 0), (11, .iload 2, 1, 0), (12, .iload 1, 1, 0), (13, .iastore, 1, 0), (14, .iinc 2 1, 3, 0), (17, .goto (.ofNat 5), 3, 0), (20, .return_, 1, 0)]
def mJ7_fill_53178 : zM := (cJ7_fill_53178, tJ7_fill_53178, RJ7, wsJ7_fill_53178, { frames := 0, cells := 0, slots := 0, locals := 0 })
theorem kJ7_fill_53178 : mJ7_fill_53178.2.1.all (fun r => zok mJ7_fill_53178 r && zrt none r.2.1) = true := by decide +kernel
def tJ7_fill_fda19 : List (Nat × Instr × Nat × Nat) := [(0, .aload 0, 1, 0), (1, .arraylength, 1, 0), (2, .iload 1, 1, 0), (3, .iload 2, 1, 0), (4, .invokestatic 13, 3, 0), (7, .iload 1, 1, 0), (8, .istore 4, 2, 0), (10, .iload 4, 2, 0), (12, .iload 2, 1, 0), (13, .if_icmp .ge (.ofNat 27), 3, 0), (16, .aload 0, 1, 0), (17, .iload 4, 2, 0), (19, .iload 3, 1, 0), (20, .iastore, 1, 0), (21, .iinc 4 1, 3, 0), (24, .goto (.ofNat 10), 3, 0), (27, .return_, 1, 0)]
def mJ7_fill_fda19 : zM := (cJ7_fill_fda19, tJ7_fill_fda19, RJ7, wsJ7_fill_fda19, { frames := 1, cells := 0, slots := 0, locals := 22 })
theorem kJ7_fill_fda19 : mJ7_fill_fda19.2.1.all (fun r => zok mJ7_fill_fda19 r && zrt none r.2.1) = true := by decide +kernel
def tJ7_rangeCheck_23922 : List (Nat × Instr × Nat × Nat) := [(0, .iload 1, 1, 0), (1, .iload 2, 1, 0), (2, .if_icmp .le (.ofNat 46), 3, 0), (8, .dup, 1, 0), (12, .dup, 1, 0), (13, .invokespecial 47, 3, 0), (18, .invokevirtual 50, 3, 0), (21, .iload 1, 1, 0), (22, .invokevirtual 54, 3, 0), (27, .invokevirtual 50, 3, 0), (30, .iload 2, 1, 0), (31, .invokevirtual 54, 3, 0), (36, .invokevirtual 50, 3, 0), (39, .invokevirtual 61, 3, 0), (42, .invokespecial 65, 3, 0), (46, .iload 1, 1, 0), (47, .ifCond .ge (.ofNat 59), 3, 0), (53, .dup, 1, 0), (54, .iload 1, 1, 0), (55, .invokespecial 70, 3, 0), (59, .iload 2, 1, 0), (60, .iload 0, 1, 0), (61, .if_icmp .le (.ofNat 73), 3, 0), (67, .dup, 1, 0), (68, .iload 2, 1, 0), (69, .invokespecial 70, 3, 0), (73, .return_, 1, 0)]
def mJ7_rangeCheck_23922 : zM := (cJ7_rangeCheck_23922, tJ7_rangeCheck_23922, RJ7, wsJ7_rangeCheck_23922, { frames := 0, cells := 0, slots := 0, locals := 0 })
theorem kJ7_rangeCheck_23922 : mJ7_rangeCheck_23922.2.1.all (fun r => zok mJ7_rangeCheck_23922 r && zrt none r.2.1) = true := by decide +kernel
def tJ9_max_7cf53 : List (Nat × Instr × Nat × Nat) := [(0, .iload 0, 1, 0), (1, .iload 1, 1, 0), (2, .if_icmp .lt (.ofNat 9), 3, 0), (5, .iload 0, 1, 0), (6, .goto (.ofNat 10), 3, 0), (9, .iload 1, 1, 0), (10, .ireturn, 1, 0)]
def mJ9_max_7cf53 : zM := (cJ9_max_7cf53, tJ9_max_7cf53, RJ9, wsJ9_max_7cf53, { frames := 0, cells := 0, slots := 0, locals := 0 })
theorem kJ9_max_7cf53 : mJ9_max_7cf53.2.1.all (fun r => zok mJ9_max_7cf53 r && zrt (some .int) r.2.1) = true := by decide +kernel
def tJ9_min_7cf53 : List (Nat × Instr × Nat × Nat) := [(0, .iload 0, 1, 0), (1, .iload 1, 1, 0), (2, .if_icmp .gt (.ofNat 9), 3, 0), (5, .iload 0, 1, 0), (6, .goto (.ofNat 10), 3, 0), (9, .iload 1, 1, 0), (10, .ireturn, 1, 0)]
def mJ9_min_7cf53 : zM := (cJ9_min_7cf53, tJ9_min_7cf53, RJ9, wsJ9_min_7cf53, { frames := 0, cells := 0, slots := 0, locals := 0 })
theorem kJ9_min_7cf53 : mJ9_min_7cf53.2.1.all (fun r => zok mJ9_min_7cf53 r && zrt (some .int) r.2.1) = true := by decide +kernel
def tX0_bit : List (Nat × Instr × Nat × Nat) := [(0, .iload 2, 1, 0), (1, .aload 0, 1, 0), (2, .iload 1, 1, 0), (3, .invokevirtual 30, 3, 0), (6, .isub, 1, 0), (7, .istore 3, 1, 0), (8, .iload 3, 1, 0), (9, .ifCond .lt (.ofNat 27), 3, 0), (12, .iload 3, 1, 0), (13, .aload 0, 1, 0), (14, .iload 1, 1, 0), (15, .invokevirtual 37, 3, 0), (18, .if_icmp .ge (.ofNat 27), 3, 0), (21, .iconst (1), 1, 0), (22, .iload 3, 1, 0), (23, .ishl, 1, 0), (24, .goto (.ofNat 28), 3, 0), (27, .iconst (0), 1, 0), (28, .ireturn, 1, 0)]
def mX0_bit : zM := (cX0_bit, tX0_bit, RX0, wsX0_bit, { frames := 2, cells := 0, slots := 0, locals := 42 })
theorem kX0_bit : mX0_bit.2.1.all (fun r => zok mX0_bit r && zrt (some .int) r.2.1) = true := by decide +kernel
def tX0_find : List (Nat × Instr × Nat × Nat) := [(0, .aload 0, 1, 0), (1, .iload 1, 1, 0), (2, .invokevirtual 30, 3, 0), (5, .istore 5, 2, 0), (7, .iload 5, 2, 0), (9, .aload 0, 1, 0), (10, .iload 1, 1, 0), (11, .iconst (1), 1, 0), (12, .iadd, 1, 0), (13, .invokevirtual 30, 3, 0), (16, .if_icmp .ge (.ofNat 62), 3, 0), (19, .aload 0, 1, 0), (20, .iload 5, 2, 0), (22, .iconst (0), 1, 0), (23, .invokevirtual 34, 3, 0), (26, .iload 2, 1, 0), (27, .if_icmp .ne (.ofNat 56), 3, 0), (30, .aload 0, 1, 0), (31, .iload 5, 2, 0), (33, .iconst (1), 1, 0), (34, .invokevirtual 34, 3, 0), (37, .iload 3, 1, 0), (38, .if_icmp .ne (.ofNat 56), 3, 0), (41, .aload 0, 1, 0), (42, .iload 5, 2, 0), (44, .iconst (2), 1, 0), (45, .invokevirtual 34, 3, 0), (48, .iload 4, 2, 0), (50, .if_icmp .ne (.ofNat 56), 3, 0), (53, .iload 5, 2, 0), (55, .ireturn, 1, 0), (56, .iinc 5 1, 3, 0), (59, .goto (.ofNat 7), 3, 0), (62, .iconst (-1), 1, 0), (63, .ireturn, 1, 0)]
def mX0_find : zM := (cX0_find, tX0_find, RX0, wsX0_find, { frames := 2, cells := 0, slots := 0, locals := 42 })
theorem kX0_find : mX0_find.2.1.all (fun r => zok mX0_find r && zrt (some .int) r.2.1) = true := by decide +kernel
def tX0_init : List (Nat × Instr × Nat × Nat) := [(0, .aload 0, 1, 0), (1, .invokespecial 3, 3, 0), (4, .aload 0, 1, 0), (5, .iconst (183), 3, 0), (13, .aload 0, 1, 0), (14, .iconst (16), 2, 0), (21, .iconst (0), 1, 0), (22, .istore 4, 2, 0), (24, .iconst (0), 1, 0), (25, .istore 5, 2, 0), (27, .iload 5, 2, 0), (29, .iconst (14), 2, 0), (31, .if_icmp .gt (.ofNat 188), 3, 0), (34, .aload 0, 1, 0), (35, .invokeinterface 0 1, 3, 15), (38, .iload 5, 2, 0), (40, .iload 4, 2, 0), (42, .iastore, 1, 0), (43, .iconst (0), 1, 0), (44, .istore 6, 2, 0), (46, .iload 6, 2, 0), (48, .iload 5, 2, 0), (50, .if_icmp .gt (.ofNat 182), 3, 0), (53, .iconst (0), 1, 0), (54, .istore 7, 2, 0), (56, .iload 6, 2, 0), (58, .iload 1, 1, 0), (59, .iload 7, 2, 0), (61, .imul, 1, 0), (62, .iadd, 1, 0), (63, .iload 5, 2, 0), (65, .if_icmp .gt (.ofNat 176), 3, 0), (68, .iload 5, 2, 0), (70, .iload 6, 2, 0), (72, .isub, 1, 0), (73, .iload 1, 1, 0), (74, .iload 7, 2, 0), (76, .imul, 1, 0), (77, .isub, 1, 0), (78, .iload 2, 1, 0), (79, .invokestatic 18, 3, 0), (82, .istore 8, 2, 0), (84, .iload 8, 2, 0), (86, .ifCond .lt (.ofNat 115), 3, 0), (89, .iload 3, 1, 0), (90, .ifCond .eq (.ofNat 111), 3, 0), (93, .iload 6, 2, 0), (95, .iconst (2), 1, 0), (96, .iload 7, 2, 0), (98, .imul, 1, 0), (99, .if_icmp .lt (.ofNat 115), 3, 0), (102, .iload 7, 2, 0), (104, .iconst (2), 1, 0), (105, .iload 8, 2, 0), (107, .imul, 1, 0), (108, .if_icmp .lt (.ofNat 115), 3, 0), (111, .iconst (1), 1, 0), (112, .goto (.ofNat 116), 3, 0), (115, .iconst (0), 1, 0), (116, .istore 9, 2, 0), (118, .iload 9, 2, 0), (120, .ifCond .eq (.ofNat 170), 3, 0), (123, .iload 4, 2, 0), (125, .iconst (61), 2, 0), (127, .if_icmp .ge (.ofNat 170), 3, 0), (130, .aload 0, 1, 0), (131, .invokeinterface 0 0, 3, 9), (134, .iload 4, 2, 0), (136, .iconst (3), 1, 0), (137, .imul, 1, 0), (138, .iload 6, 2, 0), (140, .iastore, 1, 0), (141, .aload 0, 1, 0), (142, .invokeinterface 0 0, 3, 9), (145, .iload 4, 2, 0), (147, .iconst (3), 1, 0), (148, .imul, 1, 0), (149, .iconst (1), 1, 0), (150, .iadd, 1, 0), (151, .iload 7, 2, 0), (153, .iastore, 1, 0), (154, .aload 0, 1, 0), (155, .invokeinterface 0 0, 3, 9), (158, .iload 4, 2, 0), (160, .iconst (3), 1, 0), (161, .imul, 1, 0), (162, .iconst (2), 1, 0), (163, .iadd, 1, 0), (164, .iload 8, 2, 0), (166, .iastore, 1, 0), (167, .iinc 4 1, 3, 0), (170, .iinc 7 1, 3, 0), (173, .goto (.ofNat 56), 3, 0), (176, .iinc 6 1, 3, 0), (179, .goto (.ofNat 46), 3, 0), (182, .iinc 5 1, 3, 0), (185, .goto (.ofNat 27), 3, 0), (188, .aload 0, 1, 0), (189, .invokeinterface 0 1, 3, 15), (192, .iconst (15), 2, 0), (194, .iload 4, 2, 0), (196, .iastore, 1, 0), (197, .return_, 1, 0)]
def mX0_init : zM := (cX0_init, tX0_init, RX0, wsX0_init, { frames := 1, cells := 0, slots := 0, locals := 21 })
theorem kX0_init : mX0_init.2.1.all (fun r => zok mX0_init r && zrt none r.2.1) = true := by decide +kernel
def tX0_numberAt : List (Nat × Instr × Nat × Nat) := [(0, .iload 1, 1, 0), (1, .ifCond .lt (.ofNat 32), 3, 0), (4, .iload 1, 1, 0), (5, .iconst (61), 2, 0), (7, .if_icmp .ge (.ofNat 32), 3, 0), (10, .iload 2, 1, 0), (11, .ifCond .lt (.ofNat 32), 3, 0), (14, .iload 2, 1, 0), (15, .iconst (3), 1, 0), (16, .if_icmp .ge (.ofNat 32), 3, 0), (19, .aload 0, 1, 0), (20, .invokeinterface 0 0, 3, 9), (23, .iload 1, 1, 0), (24, .iconst (3), 1, 0), (25, .imul, 1, 0), (26, .iload 2, 1, 0), (27, .iadd, 1, 0), (28, .iaload, 1, 0), (29, .goto (.ofNat 33), 3, 0), (32, .iconst (0), 1, 0), (33, .ireturn, 1, 0)]
def mX0_numberAt : zM := (cX0_numberAt, tX0_numberAt, RX0, wsX0_numberAt, { frames := 0, cells := 0, slots := 0, locals := 0 })
theorem kX0_numberAt : mX0_numberAt.2.1.all (fun r => zok mX0_numberAt r && zrt (some .int) r.2.1) = true := by decide +kernel
def tX0_share : List (Nat × Instr × Nat × Nat) := [(0, .iload 1, 1, 0), (1, .ifCond .le (.ofNat 16), 3, 0), (4, .iload 0, 1, 0), (5, .iload 1, 1, 0), (6, .irem, 1, 0), (7, .ifCond .ne (.ofNat 16), 3, 0), (10, .iload 0, 1, 0), (11, .iload 1, 1, 0), (12, .idiv, 1, 0), (13, .goto (.ofNat 17), 3, 0), (16, .iconst (-1), 1, 0), (17, .ireturn, 1, 0)]
def mX0_share : zM := (cX0_share, tX0_share, RX0, wsX0_share, { frames := 0, cells := 0, slots := 0, locals := 0 })
theorem kX0_share : mX0_share.2.1.all (fun r => zok mX0_share r && zrt (some .int) r.2.1) = true := by decide +kernel
def tX0_size : List (Nat × Instr × Nat × Nat) := [(0, .iload 1, 1, 0), (1, .ifCond .lt (.ofNat 10), 3, 0), (4, .iload 1, 1, 0), (5, .iconst (14), 2, 0), (7, .if_icmp .le (.ofNat 14), 3, 0), (10, .iconst (0), 1, 0), (11, .goto (.ofNat 29), 3, 0), (14, .aload 0, 1, 0), (15, .invokeinterface 0 1, 3, 15), (18, .iload 1, 1, 0), (19, .iconst (1), 1, 0), (20, .iadd, 1, 0), (21, .iaload, 1, 0), (22, .aload 0, 1, 0), (23, .invokeinterface 0 1, 3, 15), (26, .iload 1, 1, 0), (27, .iaload, 1, 0), (28, .isub, 1, 0), (29, .ireturn, 1, 0)]
def mX0_size : zM := (cX0_size, tX0_size, RX0, wsX0_size, { frames := 0, cells := 0, slots := 0, locals := 0 })
theorem kX0_size : mX0_size.2.1.all (fun r => zok mX0_size r && zrt (some .int) r.2.1) = true := by decide +kernel
def tX0_start : List (Nat × Instr × Nat × Nat) := [(0, .aload 0, 1, 0), (1, .invokeinterface 0 1, 3, 15), (4, .iconst (0), 1, 0), (5, .iload 1, 1, 0), (6, .iconst (15), 2, 0), (8, .invokestatic 22, 3, 0), (11, .invokestatic 27, 3, 0), (14, .iaload, 1, 0), (15, .ireturn, 1, 0)]
def mX0_start : zM := (cX0_start, tX0_start, RX0, wsX0_start, { frames := 1, cells := 0, slots := 0, locals := 21 })
theorem kX0_start : mX0_start.2.1.all (fun r => zok mX0_start r && zrt (some .int) r.2.1) = true := by decide +kernel
def tX1_add : List (Nat × Instr × Nat × Nat) := [(0, .iload 1, 1, 0), (1, .ifCond .lt (.ofNat 24), 3, 0), (4, .iload 1, 1, 0), (5, .aload 0, 1, 0), (6, .invokeinterface 1 2, 3, 25), (9, .if_icmp .ge (.ofNat 24), 3, 0), (12, .iload 2, 1, 0), (13, .ifCond .lt (.ofNat 24), 3, 0), (16, .iload 2, 1, 0), (17, .aload 0, 1, 0), (18, .invokeinterface 1 2, 3, 25), (21, .if_icmp .lt (.ofNat 25), 3, 0), (24, .return_, 1, 0), (25, .iconst (0), 1, 0), (26, .istore 3, 1, 0), (27, .iload 3, 1, 0), (28, .aload 0, 1, 0), (29, .invokeinterface 1 1, 3, 21), (32, .if_icmp .ge (.ofNat 70), 3, 0), (35, .aload 0, 1, 0), (36, .invokeinterface 1 0, 3, 15), (39, .iload 1, 1, 0), (40, .aload 0, 1, 0), (41, .invokeinterface 1 1, 3, 21), (44, .imul, 1, 0), (45, .iload 3, 1, 0), (46, .iadd, 1, 0), (47, .dup2, 1, 0), (48, .laload, 1, 0), (49, .aload 0, 1, 0), (50, .invokeinterface 1 0, 3, 15), (53, .iload 2, 1, 0), (54, .aload 0, 1, 0), (55, .invokeinterface 1 1, 3, 21), (58, .imul, 1, 0), (59, .iload 3, 1, 0), (60, .iadd, 1, 0), (61, .laload, 1, 0), (62, .lxor, 1, 0), (63, .lastore, 1, 0), (64, .iinc 3 1, 3, 0), (67, .goto (.ofNat 27), 3, 0), (70, .return_, 1, 0)]
def mX1_add : zM := (cX1_add, tX1_add, RX1, wsX1_add, { frames := 0, cells := 0, slots := 0, locals := 0 })
theorem kX1_add : mX1_add.2.1.all (fun r => zok mX1_add r && zrt none r.2.1) = true := by decide +kernel
def tX1_bit : List (Nat × Instr × Nat × Nat) := [(0, .aload 0, 1, 0), (1, .iload 1, 1, 0), (2, .iload 2, 1, 0), (3, .iconst (6), 2, 0), (5, .ishr, 1, 0), (6, .invokevirtual 31, 3, 0), (9, .iload 2, 1, 0), (10, .iconst (63), 2, 0), (12, .iand, 1, 0), (13, .lushr, 1, 0), (14, .lconst 1, 1, 0), (15, .land, 1, 0), (16, .l2i, 1, 0), (17, .ireturn, 1, 0)]
def mX1_bit : zM := (cX1_bit, tX1_bit, RX1, wsX1_bit, { frames := 1, cells := 0, slots := 0, locals := 22 })
theorem kX1_bit : mX1_bit.2.1.all (fun r => zok mX1_bit r && zrt (some .int) r.2.1) = true := by decide +kernel
def tX1_copy : List (Nat × Instr × Nat × Nat) := [(0, .aload 0, 1, 0), (1, .invokevirtual 49, 3, 0), (4, .istore 3, 1, 0), (5, .iconst (0), 1, 0), (6, .istore 4, 2, 0), (8, .iload 4, 2, 0), (10, .aload 0, 1, 0), (11, .invokeinterface 1 1, 3, 21), (14, .if_icmp .ge (.ofNat 37), 3, 0), (17, .aload 0, 1, 0), (18, .iload 3, 1, 0), (19, .iload 4, 2, 0), (21, .aload 1, 1, 0), (22, .iload 2, 1, 0), (23, .iload 4, 2, 0), (25, .invokevirtual 31, 3, 0), (28, .invokevirtual 37, 3, 0), (31, .iinc 4 1, 3, 0), (34, .goto (.ofNat 8), 3, 0), (37, .iload 3, 1, 0), (38, .ireturn, 1, 0)]
def mX1_copy : zM := (cX1_copy, tX1_copy, RX1, wsX1_copy, { frames := 1, cells := 0, slots := 0, locals := 24 })
theorem kX1_copy : mX1_copy.2.1.all (fun r => zok mX1_copy r && zrt (some .int) r.2.1) = true := by decide +kernel
def tX1_dropLast : List (Nat × Instr × Nat × Nat) := [(0, .aload 0, 1, 0), (1, .iconst (0), 1, 0), (2, .aload 0, 1, 0), (3, .invokeinterface 1 2, 3, 25), (6, .iconst (1), 1, 0), (7, .isub, 1, 0), (8, .invokestatic 9, 3, 0), (11, .multianewarray 1 2, 3, 25), (14, .return_, 1, 0)]
def mX1_dropLast : zM := (cX1_dropLast, tX1_dropLast, RX1, wsX1_dropLast, { frames := 1, cells := 0, slots := 0, locals := 21 })
theorem kX1_dropLast : mX1_dropLast.2.1.all (fun r => zok mX1_dropLast r && zrt none r.2.1) = true := by decide +kernel
def tX1_firstBits : List (Nat × Instr × Nat × Nat) := [(0, .aload 0, 1, 0), (1, .iload 1, 1, 0), (2, .iconst (0), 1, 0), (3, .invokevirtual 31, 3, 0), (6, .ldc2_w 2147483647, 3, 35), (9, .land, 1, 0), (10, .l2i, 1, 0), (11, .ireturn, 1, 0)]
def mX1_firstBits : zM := (cX1_firstBits, tX1_firstBits, RX1, wsX1_firstBits, { frames := 1, cells := 0, slots := 0, locals := 22 })
theorem kX1_firstBits : mX1_firstBits.2.1.all (fun r => zok mX1_firstBits r && zrt (some .int) r.2.1) = true := by decide +kernel
def tX1_flip : List (Nat × Instr × Nat × Nat) := [(0, .iload 2, 1, 0), (1, .iconst (63), 2, 0), (3, .iand, 1, 0), (4, .istore 4, 2, 0), (6, .aload 0, 1, 0), (7, .iload 1, 1, 0), (8, .iload 2, 1, 0), (9, .iconst (6), 2, 0), (11, .ishr, 1, 0), (12, .iload 3, 1, 0), (13, .i2l, 1, 0), (14, .iload 4, 2, 0), (16, .lshl, 1, 0), (17, .invokevirtual 37, 3, 0), (20, .iload 4, 2, 0), (22, .iconst (32), 2, 0), (24, .if_icmp .le (.ofNat 46), 3, 0), (27, .aload 0, 1, 0), (28, .iload 1, 1, 0), (29, .iload 2, 1, 0), (30, .iconst (6), 2, 0), (32, .ishr, 1, 0), (33, .iconst (1), 1, 0), (34, .iadd, 1, 0), (35, .iload 3, 1, 0), (36, .i2l, 1, 0), (37, .iconst (64), 2, 0), (39, .iload 4, 2, 0), (41, .isub, 1, 0), (42, .lushr, 1, 0), (43, .invokevirtual 37, 3, 0), (46, .return_, 1, 0)]
def mX1_flip : zM := (cX1_flip, tX1_flip, RX1, wsX1_flip, { frames := 1, cells := 0, slots := 0, locals := 24 })
theorem kX1_flip : mX1_flip.2.1.all (fun r => zok mX1_flip r && zrt none r.2.1) = true := by decide +kernel
def tX1_flipWord : List (Nat × Instr × Nat × Nat) := [(0, .iload 1, 1, 0), (1, .ifCond .lt (.ofNat 41), 3, 0), (4, .iload 1, 1, 0), (5, .aload 0, 1, 0), (6, .invokeinterface 1 2, 3, 25), (9, .if_icmp .ge (.ofNat 41), 3, 0), (12, .iload 2, 1, 0), (13, .ifCond .lt (.ofNat 41), 3, 0), (16, .iload 2, 1, 0), (17, .aload 0, 1, 0), (18, .invokeinterface 1 1, 3, 21), (21, .if_icmp .ge (.ofNat 41), 3, 0), (24, .aload 0, 1, 0), (25, .invokeinterface 1 0, 3, 15), (28, .iload 1, 1, 0), (29, .aload 0, 1, 0), (30, .invokeinterface 1 1, 3, 21), (33, .imul, 1, 0), (34, .iload 2, 1, 0), (35, .iadd, 1, 0), (36, .dup2, 1, 0), (37, .laload, 1, 0), (38, .lload 3, 1, 0), (39, .lxor, 1, 0), (40, .lastore, 1, 0), (41, .return_, 1, 0)]
def mX1_flipWord : zM := (cX1_flipWord, tX1_flipWord, RX1, wsX1_flipWord, { frames := 0, cells := 0, slots := 0, locals := 0 })
theorem kX1_flipWord : mX1_flipWord.2.1.all (fun r => zok mX1_flipWord r && zrt none r.2.1) = true := by decide +kernel
def tX1_height : List (Nat × Instr × Nat × Nat) := [(0, .aload 0, 1, 0), (1, .invokeinterface 1 2, 3, 25), (4, .ireturn, 1, 0)]
def mX1_height : zM := (cX1_height, tX1_height, RX1, wsX1_height, { frames := 0, cells := 0, slots := 0, locals := 0 })
theorem kX1_height : mX1_height.2.1.all (fun r => zok mX1_height r && zrt (some .int) r.2.1) = true := by decide +kernel
def tX1_init : List (Nat × Instr × Nat × Nat) := [(0, .aload 0, 1, 0), (1, .invokespecial 3, 3, 0), (4, .aload 0, 1, 0), (5, .iconst (0), 1, 0), (6, .iload 1, 1, 0), (7, .invokestatic 9, 3, 0), (10, .iconst (5), 1, 0), (11, .imul, 1, 0), (17, .aload 0, 1, 0), (18, .iconst (5), 1, 0), (19, .multianewarray 1 1, 3, 21), (22, .aload 0, 1, 0), (23, .iconst (0), 1, 0), (24, .multianewarray 1 2, 3, 25), (27, .return_, 1, 0)]
def mX1_init : zM := (cX1_init, tX1_init, RX1, wsX1_init, { frames := 1, cells := 0, slots := 0, locals := 21 })
theorem kX1_init : mX1_init.2.1.all (fun r => zok mX1_init r && zrt none r.2.1) = true := by decide +kernel
def tX1_next : List (Nat × Instr × Nat × Nat) := [(0, .iload 1, 1, 0), (1, .ifCond .lt (.ofNat 16), 3, 0), (4, .iload 1, 1, 0), (5, .aload 0, 1, 0), (6, .invokeinterface 1 2, 3, 25), (9, .if_icmp .ge (.ofNat 16), 3, 0), (12, .iload 2, 1, 0), (13, .ifCond .ge (.ofNat 18), 3, 0), (16, .iconst (-1), 1, 0), (17, .ireturn, 1, 0), (18, .ldc2_w 18446744073709551615, 3, 41), (21, .iload 2, 1, 0), (22, .iconst (63), 2, 0), (24, .iand, 1, 0), (25, .lshl, 1, 0), (26, .lstore 3, 1, 0), (27, .iload 2, 1, 0), (28, .iconst (6), 2, 0), (30, .ishr, 1, 0), (31, .istore 5, 2, 0), (33, .iload 5, 2, 0), (35, .aload 0, 1, 0), (36, .invokeinterface 1 1, 3, 21), (39, .if_icmp .ge (.ofNat 95), 3, 0), (42, .aload 0, 1, 0), (43, .invokeinterface 1 0, 3, 15), (46, .iload 1, 1, 0), (47, .aload 0, 1, 0), (48, .invokeinterface 1 1, 3, 21), (51, .imul, 1, 0), (52, .iload 5, 2, 0), (54, .iadd, 1, 0), (55, .laload, 1, 0), (56, .lload 3, 1, 0), (57, .land, 1, 0), (58, .lstore 6, 2, 0), (60, .lload 6, 2, 0), (62, .lconst 0, 1, 0), (63, .lcmp, 1, 0), (64, .ifCond .eq (.ofNat 85), 3, 0), (67, .iload 5, 2, 0), (69, .iconst (64), 2, 0), (71, .imul, 1, 0), (72, .lload 6, 2, 0), (74, .lload 6, 2, 0), (76, .lneg, 1, 0), (77, .land, 1, 0), (78, .lconst 1, 1, 0), (79, .lsub, 1, 0), (80, .invokestatic 43, 3, 0), (83, .iadd, 1, 0), (84, .ireturn, 1, 0), (85, .ldc2_w 18446744073709551615, 3, 41), (88, .lstore 3, 1, 0), (89, .iinc 5 1, 3, 0), (92, .goto (.ofNat 33), 3, 0), (95, .iconst (-1), 1, 0), (96, .ireturn, 1, 0)]
def mX1_next : zM := (cX1_next, tX1_next, RX1, wsX1_next, { frames := 1, cells := 0, slots := 0, locals := 21 })
theorem kX1_next : mX1_next.2.1.all (fun r => zok mX1_next r && zrt (some .int) r.2.1) = true := by decide +kernel
def tX1_open : List (Nat × Instr × Nat × Nat) := [(0, .aload 0, 1, 0), (1, .invokeinterface 1 2, 3, 25), (4, .iconst (1), 1, 0), (5, .iadd, 1, 0), (6, .aload 0, 1, 0), (7, .invokeinterface 1 1, 3, 21), (10, .imul, 1, 0), (11, .aload 0, 1, 0), (12, .invokeinterface 1 0, 3, 15), (15, .arraylength, 1, 0), (16, .if_icmp .le (.ofNat 21), 3, 0), (19, .iconst (-1), 1, 0), (20, .ireturn, 1, 0), (21, .iconst (0), 1, 0), (22, .istore 1, 1, 0), (23, .iload 1, 1, 0), (24, .aload 0, 1, 0), (25, .invokeinterface 1 1, 3, 21), (28, .if_icmp .ge (.ofNat 54), 3, 0), (31, .aload 0, 1, 0), (32, .invokeinterface 1 0, 3, 15), (35, .aload 0, 1, 0), (36, .invokeinterface 1 2, 3, 25), (39, .aload 0, 1, 0), (40, .invokeinterface 1 1, 3, 21), (43, .imul, 1, 0), (44, .iload 1, 1, 0), (45, .iadd, 1, 0), (46, .lconst 0, 1, 0), (47, .lastore, 1, 0), (48, .iinc 1 1, 3, 0), (51, .goto (.ofNat 23), 3, 0), (54, .aload 0, 1, 0), (55, .dup, 1, 0), (56, .invokeinterface 1 2, 3, 25), (59, .iconst (1), 1, 0), (60, .iadd, 1, 0), (61, .multianewarray 1 2, 3, 25), (64, .aload 0, 1, 0), (65, .invokeinterface 1 2, 3, 25), (68, .iconst (1), 1, 0), (69, .isub, 1, 0), (70, .ireturn, 1, 0)]
def mX1_open : zM := (cX1_open, tX1_open, RX1, wsX1_open, { frames := 0, cells := 0, slots := 0, locals := 0 })
theorem kX1_open : mX1_open.2.1.all (fun r => zok mX1_open r && zrt (some .int) r.2.1) = true := by decide +kernel
def tX1_restart : List (Nat × Instr × Nat × Nat) := [(0, .aload 0, 1, 0), (1, .iconst (1), 1, 0), (2, .iconst (5), 1, 0), (3, .iload 1, 1, 0), (4, .iconst (63), 2, 0), (6, .iadd, 1, 0), (7, .iconst (64), 2, 0), (9, .idiv, 1, 0), (10, .invokestatic 28, 3, 0), (13, .invokestatic 9, 3, 0), (16, .multianewarray 1 1, 3, 21), (19, .aload 0, 1, 0), (20, .iconst (0), 1, 0), (21, .multianewarray 1 2, 3, 25), (24, .return_, 1, 0)]
def mX1_restart : zM := (cX1_restart, tX1_restart, RX1, wsX1_restart, { frames := 1, cells := 0, slots := 0, locals := 21 })
theorem kX1_restart : mX1_restart.2.1.all (fun r => zok mX1_restart r && zrt none r.2.1) = true := by decide +kernel
def tX1_word : List (Nat × Instr × Nat × Nat) := [(0, .iload 1, 1, 0), (1, .ifCond .lt (.ofNat 40), 3, 0), (4, .iload 1, 1, 0), (5, .aload 0, 1, 0), (6, .invokeinterface 1 2, 3, 25), (9, .if_icmp .ge (.ofNat 40), 3, 0), (12, .iload 2, 1, 0), (13, .ifCond .lt (.ofNat 40), 3, 0), (16, .iload 2, 1, 0), (17, .aload 0, 1, 0), (18, .invokeinterface 1 1, 3, 21), (21, .if_icmp .ge (.ofNat 40), 3, 0), (24, .aload 0, 1, 0), (25, .invokeinterface 1 0, 3, 15), (28, .iload 1, 1, 0), (29, .aload 0, 1, 0), (30, .invokeinterface 1 1, 3, 21), (33, .imul, 1, 0), (34, .iload 2, 1, 0), (35, .iadd, 1, 0), (36, .laload, 1, 0), (37, .goto (.ofNat 41), 3, 0), (40, .lconst 0, 1, 0), (41, .lreturn, 1, 0)]
def mX1_word : zM := (cX1_word, tX1_word, RX1, wsX1_word, { frames := 0, cells := 0, slots := 0, locals := 0 })
theorem kX1_word : mX1_word.2.1.all (fun r => zok mX1_word r && zrt (some .long) r.2.1) = true := by decide +kernel
def tX2_index : List (Nat × Instr × Nat × Nat) := [(0, .iload 0, 1, 0), (1, .iconst (2), 1, 0), (2, .if_icmp .lt (.ofNat 18), 3, 0), (5, .iload 0, 1, 0), (6, .iconst (4), 1, 0), (7, .if_icmp .gt (.ofNat 18), 3, 0), (10, .iload 1, 1, 0), (11, .iload 2, 1, 0), (12, .invokestatic 15, 3, 0), (15, .ifCond .ne (.ofNat 20), 3, 0), (18, .iconst (-1), 1, 0), (19, .ireturn, 1, 0), (20, .iload 0, 1, 0), (21, .iconst (2), 1, 0), (22, .isub, 1, 0), (23, .iconst (6), 2, 0), (25, .imul, 1, 0), (26, .iload 1, 1, 0), (27, .iadd, 1, 0), (28, .iconst (15), 2, 0), (30, .imul, 1, 0), (31, .iload 2, 1, 0), (32, .iadd, 1, 0), (33, .ireturn, 1, 0)]
def mX2_index : zM := (cX2_index, tX2_index, RX2, wsX2_index, { frames := 1, cells := 0, slots := 0, locals := 21 })
theorem kX2_index : mX2_index.2.1.all (fun r => zok mX2_index r && zrt (some .int) r.2.1) = true := by decide +kernel
def tX2_init : List (Nat × Instr × Nat × Nat) := [(0, .aload 0, 1, 0), (1, .invokespecial 3, 3, 0), (4, .aload 0, 1, 0), (5, .iconst (270), 3, 0), (13, .return_, 1, 0)]
def mX2_init : zM := (cX2_init, tX2_init, RX2, wsX2_init, { frames := 1, cells := 0, slots := 0, locals := 12 })
theorem kX2_init : mX2_init.2.1.all (fun r => zok mX2_init r && zrt none r.2.1) = true := by decide +kernel
def tX2_isLongerTold : List (Nat × Instr × Nat × Nat) := [(0, .iload 1, 1, 0), (1, .iconst (4), 1, 0), (2, .if_icmp .ge (.ofNat 28), 3, 0), (5, .aload 0, 1, 0), (6, .iconst (0), 1, 0), (7, .iload 1, 1, 0), (8, .iconst (1), 1, 0), (9, .iadd, 1, 0), (10, .iconst (0), 1, 0), (11, .iconst (0), 1, 0), (12, .invokestatic 25, 3, 0), (15, .invokestatic 36, 3, 0), (18, .invokevirtual 32, 3, 0), (21, .ifCond .le (.ofNat 28), 3, 0), (24, .iconst (1), 1, 0), (25, .goto (.ofNat 29), 3, 0), (28, .iconst (0), 1, 0), (29, .dreturn, 1, 0)]
def mX2_isLongerTold : zM := (cX2_isLongerTold, tX2_isLongerTold, RX2, wsX2_isLongerTold, { frames := 2, cells := 0, slots := 0, locals := 44 })
theorem kX2_isLongerTold : mX2_isLongerTold.2.1.all (fun r => zok mX2_isLongerTold r && zrt (some .boolean) r.2.1) = true := by decide +kernel
def tX2_rankOf : List (Nat × Instr × Nat × Nat) := [(0, .iload 1, 1, 0), (1, .iload 2, 1, 0), (2, .iload 3, 1, 0), (3, .invokestatic 25, 3, 0), (6, .istore 4, 2, 0), (8, .iload 4, 2, 0), (10, .ifCond .lt (.ofNat 33), 3, 0), (13, .iload 4, 2, 0), (15, .aload 0, 1, 0), (16, .invokeinterface 2 0, 3, 9), (19, .arraylength, 1, 0), (20, .if_icmp .ge (.ofNat 33), 3, 0), (23, .aload 0, 1, 0), (24, .invokeinterface 2 0, 3, 9), (27, .iload 4, 2, 0), (29, .iaload, 1, 0), (30, .goto (.ofNat 34), 3, 0), (33, .iconst (0), 1, 0), (34, .ireturn, 1, 0)]
def mX2_rankOf : zM := (cX2_rankOf, tX2_rankOf, RX2, wsX2_rankOf, { frames := 2, cells := 0, slots := 0, locals := 43 })
theorem kX2_rankOf : mX2_rankOf.2.1.all (fun r => zok mX2_rankOf r && zrt (some .int) r.2.1) = true := by decide +kernel
def tX2_spent : List (Nat × Instr × Nat × Nat) := [(0, .aload 0, 1, 0), (1, .iload 1, 1, 0), (2, .iload 2, 1, 0), (3, .iload 3, 1, 0), (4, .invokevirtual 29, 3, 0), (7, .aload 0, 1, 0), (8, .iload 1, 1, 0), (9, .iload 2, 1, 0), (10, .iload 1, 1, 0), (11, .isub, 1, 0), (12, .iload 3, 1, 0), (13, .iload 1, 1, 0), (14, .isub, 1, 0), (15, .iconst (1), 1, 0), (16, .iadd, 1, 0), (17, .invokevirtual 29, 3, 0), (20, .iadd, 1, 0), (21, .ireturn, 1, 0)]
def mX2_spent : zM := (cX2_spent, tX2_spent, RX2, wsX2_spent, { frames := 3, cells := 0, slots := 0, locals := 67 })
theorem kX2_spent : mX2_spent.2.1.all (fun r => zok mX2_spent r && zrt (some .int) r.2.1) = true := by decide +kernel
def tX2_tell : List (Nat × Instr × Nat × Nat) := [(0, .iload 1, 1, 0), (1, .iload 2, 1, 0), (2, .iload 3, 1, 0), (3, .invokestatic 25, 3, 0), (6, .istore 5, 2, 0), (8, .iload 5, 2, 0), (10, .ifCond .lt (.ofNat 32), 3, 0), (13, .iload 5, 2, 0), (15, .aload 0, 1, 0), (16, .invokeinterface 2 0, 3, 9), (19, .arraylength, 1, 0), (20, .if_icmp .ge (.ofNat 32), 3, 0), (23, .aload 0, 1, 0), (24, .invokeinterface 2 0, 3, 9), (27, .iload 5, 2, 0), (29, .iload 4, 2, 0), (31, .iastore, 1, 0), (32, .return_, 1, 0)]
def mX2_tell : zM := (cX2_tell, tX2_tell, RX2, wsX2_tell, { frames := 2, cells := 0, slots := 0, locals := 43 })
theorem kX2_tell : mX2_tell.2.1.all (fun r => zok mX2_tell r && zrt none r.2.1) = true := by decide +kernel
def tX2_told : List (Nat × Instr × Nat × Nat) := [(0, .aload 0, 1, 0), (1, .iconst (0), 1, 0), (2, .invokevirtual 32, 3, 0), (5, .ireturn, 1, 0)]
def mX2_told : zM := (cX2_told, tX2_told, RX2, wsX2_told, { frames := 2, cells := 0, slots := 0, locals := 44 })
theorem kX2_told : mX2_told.2.1.all (fun r => zok mX2_told r && zrt (some .int) r.2.1) = true := by decide +kernel
def tX2_toldFrom : List (Nat × Instr × Nat × Nat) := [(0, .iconst (0), 1, 0), (1, .istore 2, 1, 0), (2, .iconst (0), 1, 0), (3, .iload 1, 1, 0), (4, .invokestatic 36, 3, 0), (7, .istore 3, 1, 0), (8, .iload 3, 1, 0), (9, .aload 0, 1, 0), (10, .invokeinterface 2 0, 3, 9), (13, .arraylength, 1, 0), (14, .if_icmp .ge (.ofNat 35), 3, 0), (17, .aload 0, 1, 0), (18, .invokeinterface 2 0, 3, 9), (21, .iload 3, 1, 0), (22, .iaload, 1, 0), (23, .ifCond .le (.ofNat 29), 3, 0), (26, .iinc 2 1, 3, 0), (29, .iinc 3 1, 3, 0), (32, .goto (.ofNat 8), 3, 0), (35, .iload 2, 1, 0), (36, .ireturn, 1, 0)]
def mX2_toldFrom : zM := (cX2_toldFrom, tX2_toldFrom, RX2, wsX2_toldFrom, { frames := 1, cells := 0, slots := 0, locals := 21 })
theorem kX2_toldFrom : mX2_toldFrom.2.1.all (fun r => zok mX2_toldFrom r && zrt (some .int) r.2.1) = true := by decide +kernel
def tX2_wipe : List (Nat × Instr × Nat × Nat) := [(0, .aload 0, 1, 0), (1, .invokeinterface 2 0, 3, 9), (4, .iconst (0), 1, 0), (5, .invokestatic 19, 3, 0), (8, .return_, 1, 0)]
def mX2_wipe : zM := (cX2_wipe, tX2_wipe, RX2, wsX2_wipe, { frames := 1, cells := 0, slots := 0, locals := 23 })
theorem kX2_wipe : mX2_wipe.2.1.all (fun r => zok mX2_wipe r && zrt none r.2.1) = true := by decide +kernel
def tX3_add : List (Nat × Instr × Nat × Nat) := [(0, .aload 0, 1, 0), (1, .invokeinterface 3 3, 3, 28), (4, .iconst (72), 2, 0), (6, .if_icmp .ge (.ofNat 45), 3, 0), (9, .aload 0, 1, 0), (10, .invokeinterface 3 2, 3, 20), (13, .aload 2, 1, 0), (14, .iload 3, 1, 0), (15, .invokevirtual 35, 3, 0), (18, .aload 0, 1, 0), (19, .invokeinterface 3 3, 3, 28), (22, .if_icmp .ne (.ofNat 45), 3, 0), (25, .aload 0, 1, 0), (26, .invokeinterface 3 1, 3, 9), (29, .aload 0, 1, 0), (30, .invokeinterface 3 3, 3, 28), (33, .iload 1, 1, 0), (34, .iastore, 1, 0), (35, .aload 0, 1, 0), (36, .dup, 1, 0), (37, .invokeinterface 3 3, 3, 28), (40, .iconst (1), 1, 0), (41, .iadd, 1, 0), (42, .multianewarray 3 3, 3, 28), (45, .return_, 1, 0)]
def mX3_add : zM := (cX3_add, tX3_add, RX3, wsX3_add, { frames := 2, cells := 0, slots := 0, locals := 48 })
theorem kX3_add : mX3_add.2.1.all (fun r => zok mX3_add r && zrt none r.2.1) = true := by decide +kernel
def tX3_degreeOf : List (Nat × Instr × Nat × Nat) := [(0, .iload 1, 1, 0), (1, .ifCond .lt (.ofNat 19), 3, 0), (4, .iload 1, 1, 0), (5, .iconst (72), 2, 0), (7, .if_icmp .ge (.ofNat 19), 3, 0), (10, .aload 0, 1, 0), (11, .invokeinterface 3 1, 3, 9), (14, .iload 1, 1, 0), (15, .iaload, 1, 0), (16, .goto (.ofNat 20), 3, 0), (19, .iconst (0), 1, 0), (20, .ireturn, 1, 0)]
def mX3_degreeOf : zM := (cX3_degreeOf, tX3_degreeOf, RX3, wsX3_degreeOf, { frames := 0, cells := 0, slots := 0, locals := 0 })
theorem kX3_degreeOf : mX3_degreeOf.2.1.all (fun r => zok mX3_degreeOf r && zrt (some .int) r.2.1) = true := by decide +kernel
def tX3_generators : List (Nat × Instr × Nat × Nat) := [(0, .aload 0, 1, 0), (1, .invokeinterface 3 3, 3, 28), (4, .ireturn, 1, 0)]
def mX3_generators : zM := (cX3_generators, tX3_generators, RX3, wsX3_generators, { frames := 0, cells := 0, slots := 0, locals := 0 })
theorem kX3_generators : mX3_generators.2.1.all (fun r => zok mX3_generators r && zrt (some .int) r.2.1) = true := by decide +kernel
def tX3_generatorsOf : List (Nat × Instr × Nat × Nat) := [(0, .iconst (0), 1, 0), (1, .istore 2, 1, 0), (2, .iconst (0), 1, 0), (3, .istore 3, 1, 0), (4, .iload 3, 1, 0), (5, .aload 0, 1, 0), (6, .invokeinterface 3 3, 3, 28), (9, .if_icmp .ge (.ofNat 30), 3, 0), (12, .aload 0, 1, 0), (13, .iload 3, 1, 0), (14, .invokevirtual 39, 3, 0), (17, .iload 1, 1, 0), (18, .if_icmp .ne (.ofNat 24), 3, 0), (21, .iinc 2 1, 3, 0), (24, .iinc 3 1, 3, 0), (27, .goto (.ofNat 4), 3, 0), (30, .iload 2, 1, 0), (31, .ireturn, 1, 0)]
def mX3_generatorsOf : zM := (cX3_generatorsOf, tX3_generatorsOf, RX3, wsX3_generatorsOf, { frames := 1, cells := 0, slots := 0, locals := 21 })
theorem kX3_generatorsOf : mX3_generatorsOf.2.1.all (fun r => zok mX3_generatorsOf r && zrt (some .int) r.2.1) = true := by decide +kernel
def tX3_goals : List (Nat × Instr × Nat × Nat) := [(0, .aload 0, 1, 0), (1, .invokeinterface 3 2, 3, 20), (4, .areturn, 1, 0)]
def mX3_goals : zM := (cX3_goals, tX3_goals, RX3, wsX3_goals, { frames := 0, cells := 0, slots := 0, locals := 0 })
theorem kX3_goals : mX3_goals.2.1.all (fun r => zok mX3_goals r && zrt (some (.object "SquareTower$BitRows")) r.2.1) = true := by decide +kernel
def tX3_init : List (Nat × Instr × Nat × Nat) := [(0, .aload 0, 1, 0), (1, .invokespecial 3, 3, 0), (4, .aload 0, 1, 0), (5, .iconst (72), 2, 0), (12, .aload 0, 1, 0), (16, .dup, 1, 0), (17, .iconst (72), 2, 0), (19, .invokespecial 17, 3, 0), (25, .aload 0, 1, 0), (26, .aload 1, 1, 0), (30, .return_, 1, 0)]
def mX3_init : zM := (cX3_init, tX3_init, RX3, wsX3_init, { frames := 2, cells := 0, slots := 0, locals := 42 })
theorem kX3_init : mX3_init.2.1.all (fun r => zok mX3_init r && zrt none r.2.1) = true := by decide +kernel
def tX3_places : List (Nat × Instr × Nat × Nat) := [(0, .iconst (0), 1, 0), (1, .istore 2, 1, 0), (2, .iconst (0), 1, 0), (3, .istore 3, 1, 0), (4, .iload 3, 1, 0), (5, .aload 0, 1, 0), (6, .invokeinterface 3 3, 3, 28), (9, .if_icmp .ge (.ofNat 27), 3, 0), (12, .iload 2, 1, 0), (13, .aload 0, 1, 0), (14, .iload 3, 1, 0), (15, .iload 1, 1, 0), (16, .invokevirtual 48, 3, 0), (19, .iadd, 1, 0), (20, .istore 2, 1, 0), (21, .iinc 3 1, 3, 0), (24, .goto (.ofNat 4), 3, 0), (27, .iload 2, 1, 0), (28, .ireturn, 1, 0)]
def mX3_places : zM := (cX3_places, tX3_places, RX3, wsX3_places, { frames := 2, cells := 0, slots := 0, locals := 43 })
theorem kX3_places : mX3_places.2.1.all (fun r => zok mX3_places r && zrt (some .int) r.2.1) = true := by decide +kernel
def tX3_restart : List (Nat × Instr × Nat × Nat) := [(0, .aload 0, 1, 0), (1, .iconst (0), 1, 0), (2, .multianewarray 3 3, 3, 28), (5, .aload 0, 1, 0), (6, .invokeinterface 3 2, 3, 20), (9, .iconst (300), 3, 0), (12, .invokevirtual 32, 3, 0), (15, .return_, 1, 0)]
def mX3_restart : zM := (cX3_restart, tX3_restart, RX3, wsX3_restart, { frames := 2, cells := 0, slots := 0, locals := 42 })
theorem kX3_restart : mX3_restart.2.1.all (fun r => zok mX3_restart r && zrt none r.2.1) = true := by decide +kernel
def tX3_width : List (Nat × Instr × Nat × Nat) := [(0, .aload 0, 1, 0), (1, .invokeinterface 3 0, 3, 24), (4, .iload 2, 1, 0), (5, .aload 0, 1, 0), (6, .iload 1, 1, 0), (7, .invokevirtual 39, 3, 0), (10, .isub, 1, 0), (11, .invokevirtual 43, 3, 0), (14, .ireturn, 1, 0)]
def mX3_width : zM := (cX3_width, tX3_width, RX3, wsX3_width, { frames := 1, cells := 0, slots := 0, locals := 21 })
theorem kX3_width : mX3_width.2.1.all (fun r => zok mX3_width r && zrt (some .int) r.2.1) = true := by decide +kernel
def tX4_init : List (Nat × Instr × Nat × Nat) := [(0, .aload 0, 1, 0), (1, .invokespecial 1, 3, 0), (4, .aload 0, 1, 0), (5, .aload 1, 1, 0), (9, .return_, 1, 0)]
def mX4_init : zM := (cX4_init, tX4_init, RX4, wsX4_init, { frames := 1, cells := 0, slots := 0, locals := 12 })
theorem kX4_init : mX4_init.2.1.all (fun r => zok mX4_init r && zrt none r.2.1) = true := by decide +kernel
def tX4_timesRow : List (Nat × Instr × Nat × Nat) := [(0, .aload 0, 1, 0), (1, .invokeinterface 4 0, 3, 7), (4, .iload 2, 1, 0), (5, .iconst (0), 1, 0), (6, .invokevirtual 26, 3, 0), (9, .istore 4, 2, 0), (11, .aload 0, 1, 0), (12, .invokeinterface 4 0, 3, 7), (15, .iload 2, 1, 0), (16, .iconst (1), 1, 0), (17, .invokevirtual 26, 3, 0), (20, .istore 5, 2, 0), (22, .aload 0, 1, 0), (23, .invokeinterface 4 0, 3, 7), (26, .iload 2, 1, 0), (27, .iconst (2), 1, 0), (28, .invokevirtual 26, 3, 0), (31, .istore 6, 2, 0), (33, .iconst (0), 1, 0), (34, .istore 7, 2, 0), (36, .iconst (0), 1, 0), (37, .istore 8, 2, 0), (39, .iload 8, 2, 0), (41, .iload 4, 2, 0), (43, .if_icmp .gt (.ofNat 158), 3, 0), (46, .iconst (0), 1, 0), (47, .istore 9, 2, 0), (49, .iload 9, 2, 0), (51, .iload 5, 2, 0), (53, .if_icmp .gt (.ofNat 152), 3, 0), (56, .iload 1, 1, 0), (57, .iconst (2), 1, 0), (58, .iload 8, 2, 0), (60, .imul, 1, 0), (61, .isub, 1, 0), (62, .iconst (4), 1, 0), (63, .iload 9, 2, 0), (65, .imul, 1, 0), (66, .isub, 1, 0), (67, .istore 10, 2, 0), (69, .iload 10, 2, 0), (71, .ifCond .lt (.ofNat 146), 3, 0), (74, .iload 10, 2, 0), (76, .iload 4, 2, 0), (78, .iload 8, 2, 0), (80, .isub, 1, 0), (81, .iand, 1, 0), (82, .ifCond .ne (.ofNat 146), 3, 0), (85, .iload 8, 2, 0), (87, .iload 5, 2, 0), (89, .iload 9, 2, 0), (91, .isub, 1, 0), (92, .iand, 1, 0), (93, .ifCond .ne (.ofNat 146), 3, 0), (96, .iload 9, 2, 0), (98, .iload 6, 2, 0), (100, .iand, 1, 0), (101, .ifCond .ne (.ofNat 146), 3, 0), (104, .iload 7, 2, 0), (106, .aload 0, 1, 0), (107, .invokeinterface 4 0, 3, 7), (110, .iload 3, 1, 0), (111, .aload 0, 1, 0), (112, .invokeinterface 4 0, 3, 7), (115, .iload 3, 1, 0), (116, .iload 10, 2, 0), (118, .iload 4, 2, 0), (120, .iadd, 1, 0), (121, .iload 8, 2, 0), (123, .isub, 1, 0), (124, .iload 8, 2, 0), (126, .iload 5, 2, 0), (128, .iadd, 1, 0), (129, .iload 9, 2, 0), (131, .isub, 1, 0), (132, .iload 9, 2, 0), (134, .iload 6, 2, 0), (136, .iadd, 1, 0), (137, .invokevirtual 30, 3, 0), (140, .invokevirtual 34, 3, 0), (143, .ixor, 1, 0), (144, .istore 7, 2, 0), (146, .iinc 9 1, 3, 0), (149, .goto (.ofNat 49), 3, 0), (152, .iinc 8 1, 3, 0), (155, .goto (.ofNat 39), 3, 0), (158, .iload 7, 2, 0), (160, .ireturn, 1, 0)]
def mX4_timesRow : zM := (cX4_timesRow, tX4_timesRow, RX4, wsX4_timesRow, { frames := 3, cells := 0, slots := 0, locals := 67 })
theorem kX4_timesRow : mX4_timesRow.2.1.all (fun r => zok mX4_timesRow r && zrt (some .int) r.2.1) = true := by decide +kernel
def tX4_timesSum : List (Nat × Instr × Nat × Nat) := [(0, .iconst (0), 1, 0), (1, .istore 4, 2, 0), (3, .iconst (0), 1, 0), (4, .istore 5, 2, 0), (6, .iload 5, 2, 0), (8, .aload 0, 1, 0), (9, .invokeinterface 4 0, 3, 7), (12, .iload 3, 1, 0), (13, .invokevirtual 13, 3, 0), (16, .if_icmp .ge (.ofNat 58), 3, 0), (19, .iload 2, 1, 0), (20, .iload 5, 2, 0), (22, .ishr, 1, 0), (23, .iconst (1), 1, 0), (24, .iand, 1, 0), (25, .ifCond .eq (.ofNat 52), 3, 0), (28, .iload 4, 2, 0), (30, .aload 0, 1, 0), (31, .iload 1, 1, 0), (32, .aload 0, 1, 0), (33, .invokeinterface 4 0, 3, 7), (36, .iload 3, 1, 0), (37, .invokevirtual 19, 3, 0), (40, .iload 5, 2, 0), (42, .iadd, 1, 0), (43, .iload 3, 1, 0), (44, .iload 1, 1, 0), (45, .iadd, 1, 0), (46, .invokevirtual 22, 3, 0), (49, .ixor, 1, 0), (50, .istore 4, 2, 0), (52, .iinc 5 1, 3, 0), (55, .goto (.ofNat 6), 3, 0), (58, .iload 4, 2, 0), (60, .ireturn, 1, 0)]
def mX4_timesSum : zM := (cX4_timesSum, tX4_timesSum, RX4, wsX4_timesSum, { frames := 4, cells := 0, slots := 0, locals := 97 })
theorem kX4_timesSum : mX4_timesSum.2.1.all (fun r => zok mX4_timesSum r && zrt (some .int) r.2.1) = true := by decide +kernel
def tX5_acted : List (Nat × Instr × Nat × Nat) := [(0, .iload 2, 1, 0), (1, .ifCond .lt (.ofNat 25), 3, 0), (4, .iload 2, 1, 0), (5, .iconst (12), 2, 0), (7, .if_icmp .ge (.ofNat 25), 3, 0), (10, .iload 1, 1, 0), (11, .iconst (1), 1, 0), (12, .if_icmp .lt (.ofNat 25), 3, 0), (15, .iload 1, 1, 0), (16, .iconst (12), 2, 0), (18, .if_icmp .gt (.ofNat 25), 3, 0), (21, .iconst (1), 1, 0), (22, .goto (.ofNat 26), 3, 0), (25, .iconst (0), 1, 0), (26, .istore 3, 1, 0), (27, .iload 3, 1, 0), (28, .ifCond .eq (.ofNat 45), 3, 0), (31, .aload 0, 1, 0), (32, .invokeinterface 5 1, 3, 15), (35, .iload 2, 1, 0), (36, .iconst (13), 2, 0), (38, .imul, 1, 0), (39, .iload 1, 1, 0), (40, .iadd, 1, 0), (41, .iaload, 1, 0), (42, .goto (.ofNat 46), 3, 0), (45, .iconst (0), 1, 0), (46, .ireturn, 1, 0)]
def mX5_acted : zM := (cX5_acted, tX5_acted, RX5, wsX5_acted, { frames := 0, cells := 0, slots := 0, locals := 0 })
theorem kX5_acted : mX5_acted.2.1.all (fun r => zok mX5_acted r && zrt (some .int) r.2.1) = true := by decide +kernel
def tX5_add : List (Nat × Instr × Nat × Nat) := [(0, .aload 0, 1, 0), (1, .invokeinterface 5 3, 3, 21), (4, .iconst (12), 2, 0), (6, .if_icmp .lt (.ofNat 12), 3, 0), (9, .iconst (-3), 2, 0), (11, .ireturn, 1, 0), (12, .aload 0, 1, 0), (13, .invokeinterface 5 0, 3, 9), (16, .aload 0, 1, 0), (17, .invokeinterface 5 3, 3, 21), (20, .iload 1, 1, 0), (21, .iastore, 1, 0), (22, .aload 0, 1, 0), (23, .dup, 1, 0), (24, .invokeinterface 5 3, 3, 21), (27, .iconst (1), 1, 0), (28, .iadd, 1, 0), (29, .multianewarray 5 3, 3, 21), (32, .aload 0, 1, 0), (33, .iconst (0), 1, 0), (34, .putstatic 324, 3, 29), (37, .aload 0, 1, 0), (38, .invokeinterface 5 3, 3, 21), (41, .iconst (1), 1, 0), (42, .isub, 1, 0), (43, .ireturn, 1, 0)]
def mX5_add : zM := (cX5_add, tX5_add, RX5, wsX5_add, { frames := 0, cells := 0, slots := 0, locals := 0 })
theorem kX5_add : mX5_add.2.1.all (fun r => zok mX5_add r && zrt (some .int) r.2.1) = true := by decide +kernel
def tX5_apply : List (Nat × Instr × Nat × Nat) := [(0, .iload 1, 1, 0), (1, .ifCond .ne (.ofNat 6), 3, 0), (4, .iload 2, 1, 0), (5, .ireturn, 1, 0), (6, .iconst (0), 1, 0), (7, .istore 3, 1, 0), (8, .iconst (0), 1, 0), (9, .istore 4, 2, 0), (11, .iload 4, 2, 0), (13, .aload 0, 1, 0), (14, .invokeinterface 5 3, 3, 21), (17, .if_icmp .ge (.ofNat 45), 3, 0), (20, .iload 2, 1, 0), (21, .iload 4, 2, 0), (23, .ishr, 1, 0), (24, .iconst (1), 1, 0), (25, .iand, 1, 0), (26, .ifCond .eq (.ofNat 39), 3, 0), (29, .iload 3, 1, 0), (30, .aload 0, 1, 0), (31, .iload 1, 1, 0), (32, .iload 4, 2, 0), (34, .invokevirtual 57, 3, 0), (37, .ixor, 1, 0), (38, .istore 3, 1, 0), (39, .iinc 4 1, 3, 0), (42, .goto (.ofNat 11), 3, 0), (45, .iload 3, 1, 0), (46, .ireturn, 1, 0)]
def mX5_apply : zM := (cX5_apply, tX5_apply, RX5, wsX5_apply, { frames := 1, cells := 0, slots := 0, locals := 23 })
theorem kX5_apply : mX5_apply.2.1.all (fun r => zok mX5_apply r && zrt (some .int) r.2.1) = true := by decide +kernel
def tX5_byTheRule : List (Nat × Instr × Nat × Nat) := [(0, .iconst (0), 1, 0), (1, .istore 4, 2, 0), (3, .iconst (0), 1, 0), (4, .istore 5, 2, 0), (6, .iload 5, 2, 0), (8, .iload 1, 1, 0), (9, .iconst (2), 1, 0), (10, .idiv, 1, 0), (11, .if_icmp .gt (.ofNat 62), 3, 0), (14, .iload 2, 1, 0), (15, .iconst (1), 1, 0), (16, .isub, 1, 0), (17, .iload 5, 2, 0), (19, .isub, 1, 0), (20, .iload 1, 1, 0), (21, .iconst (2), 1, 0), (22, .iload 5, 2, 0), (24, .imul, 1, 0), (25, .isub, 1, 0), (26, .invokestatic 46, 3, 0), (29, .ifCond .eq (.ofNat 56), 3, 0), (32, .iload 4, 2, 0), (34, .aload 0, 1, 0), (35, .iload 1, 1, 0), (36, .iload 2, 1, 0), (37, .iadd, 1, 0), (38, .iload 5, 2, 0), (40, .isub, 1, 0), (41, .aload 0, 1, 0), (42, .iload 5, 2, 0), (44, .iconst (1), 1, 0), (45, .iload 3, 1, 0), (46, .ishl, 1, 0), (47, .invokevirtual 67, 3, 0), (50, .invokevirtual 67, 3, 0), (53, .ixor, 1, 0), (54, .istore 4, 2, 0), (56, .iinc 5 1, 3, 0), (59, .goto (.ofNat 6), 3, 0), (62, .iload 4, 2, 0), (64, .ireturn, 1, 0)]
def mX5_byTheRule : zM := (cX5_byTheRule, tX5_byTheRule, RX5, wsX5_byTheRule, { frames := 2, cells := 0, slots := 0, locals := 47 })
theorem kX5_byTheRule : mX5_byTheRule.2.1.all (fun r => zok mX5_byTheRule r && zrt (some .int) r.2.1) = true := by decide +kernel
def tX5_degreeOf : List (Nat × Instr × Nat × Nat) := [(0, .aload 0, 1, 0), (1, .iload 1, 1, 0), (2, .invokevirtual 25, 3, 0), (5, .ifCond .eq (.ofNat 17), 3, 0), (8, .aload 0, 1, 0), (9, .invokeinterface 5 0, 3, 9), (12, .iload 1, 1, 0), (13, .iaload, 1, 0), (14, .goto (.ofNat 18), 3, 0), (17, .iconst (0), 1, 0), (18, .ireturn, 1, 0)]
def mX5_degreeOf : zM := (cX5_degreeOf, tX5_degreeOf, RX5, wsX5_degreeOf, { frames := 1, cells := 0, slots := 0, locals := 21 })
theorem kX5_degreeOf : mX5_degreeOf.2.1.all (fun r => zok mX5_degreeOf r && zrt (some .int) r.2.1) = true := by decide +kernel
def tX5_findFault : List (Nat × Instr × Nat × Nat) := [(0, .aload 0, 1, 0), (1, .invokeinterface 5 2, 3, 18), (4, .iconst (-9), 2, 0), (6, .invokestatic 33, 3, 0), (9, .iconst (1), 1, 0), (10, .istore 1, 1, 0), (11, .iload 1, 1, 0), (12, .iconst (12), 2, 0), (14, .if_icmp .gt (.ofNat 102), 3, 0), (17, .iload 1, 1, 0), (18, .iconst (2), 1, 0), (19, .idiv, 1, 0), (20, .iconst (1), 1, 0), (21, .iadd, 1, 0), (22, .istore 2, 1, 0), (23, .iload 1, 1, 0), (24, .iload 2, 1, 0), (25, .iadd, 1, 0), (26, .iconst (12), 2, 0), (28, .if_icmp .gt (.ofNat 96), 3, 0), (31, .iconst (0), 1, 0), (32, .istore 3, 1, 0), (33, .iload 3, 1, 0), (34, .aload 0, 1, 0), (35, .invokeinterface 5 3, 3, 21), (38, .if_icmp .ge (.ofNat 90), 3, 0), (41, .aload 0, 1, 0), (42, .iload 1, 1, 0), (43, .aload 0, 1, 0), (44, .iload 2, 1, 0), (45, .iload 3, 1, 0), (46, .invokevirtual 57, 3, 0), (49, .invokevirtual 67, 3, 0), (52, .aload 0, 1, 0), (53, .iload 1, 1, 0), (54, .iload 2, 1, 0), (55, .iload 3, 1, 0), (56, .invokevirtual 70, 3, 0), (59, .if_icmp .eq (.ofNat 84), 3, 0), (62, .aload 0, 1, 0), (63, .invokeinterface 5 2, 3, 18), (66, .iconst (0), 1, 0), (67, .iload 1, 1, 0), (68, .iastore, 1, 0), (69, .aload 0, 1, 0), (70, .invokeinterface 5 2, 3, 18), (73, .iconst (1), 1, 0), (74, .iload 2, 1, 0), (75, .iastore, 1, 0), (76, .aload 0, 1, 0), (77, .invokeinterface 5 2, 3, 18), (80, .iconst (2), 1, 0), (81, .iload 3, 1, 0), (82, .iastore, 1, 0), (83, .return_, 1, 0), (84, .iinc 3 1, 3, 0), (87, .goto (.ofNat 33), 3, 0), (90, .iinc 2 1, 3, 0), (93, .goto (.ofNat 23), 3, 0), (96, .iinc 1 1, 3, 0), (99, .goto (.ofNat 11), 3, 0), (102, .return_, 1, 0)]
def mX5_findFault : zM := (cX5_findFault, tX5_findFault, RX5, wsX5_findFault, { frames := 3, cells := 0, slots := 0, locals := 72 })
theorem kX5_findFault : mX5_findFault.2.1.all (fun r => zok mX5_findFault r && zrt none r.2.1) = true := by decide +kernel
def tX5_firstFault : List (Nat × Instr × Nat × Nat) := [(0, .aload 0, 1, 0), (1, .invokeinterface 5 4, 3, 29), (4, .ifCond .ne (.ofNat 16), 3, 0), (7, .aload 0, 1, 0), (8, .invokevirtual 64, 3, 0), (11, .aload 0, 1, 0), (12, .iconst (1), 1, 0), (13, .putstatic 324, 3, 29), (16, .iload 1, 1, 0), (17, .ifCond .lt (.ofNat 38), 3, 0), (20, .iload 1, 1, 0), (21, .aload 0, 1, 0), (22, .invokeinterface 5 2, 3, 18), (25, .arraylength, 1, 0), (26, .if_icmp .ge (.ofNat 38), 3, 0), (29, .aload 0, 1, 0), (30, .invokeinterface 5 2, 3, 18), (33, .iload 1, 1, 0), (34, .iaload, 1, 0), (35, .goto (.ofNat 40), 3, 0), (38, .iconst (-9), 2, 0), (40, .ireturn, 1, 0)]
def mX5_firstFault : zM := (cX5_firstFault, tX5_firstFault, RX5, wsX5_firstFault, { frames := 4, cells := 0, slots := 0, locals := 95 })
theorem kX5_firstFault : mX5_firstFault.2.1.all (fun r => zok mX5_firstFault r && zrt (some .int) r.2.1) = true := by decide +kernel
def tX5_has : List (Nat × Instr × Nat × Nat) := [(0, .iload 1, 1, 0), (1, .ifCond .lt (.ofNat 22), 3, 0), (4, .iload 1, 1, 0), (5, .aload 0, 1, 0), (6, .invokeinterface 5 3, 3, 21), (9, .if_icmp .ge (.ofNat 22), 3, 0), (12, .iload 1, 1, 0), (13, .iconst (12), 2, 0), (15, .if_icmp .ge (.ofNat 22), 3, 0), (18, .iconst (1), 1, 0), (19, .goto (.ofNat 23), 3, 0), (22, .iconst (0), 1, 0), (23, .dreturn, 1, 0)]
def mX5_has : zM := (cX5_has, tX5_has, RX5, wsX5_has, { frames := 0, cells := 0, slots := 0, locals := 0 })
theorem kX5_has : mX5_has.2.1.all (fun r => zok mX5_has r && zrt (some .boolean) r.2.1) = true := by decide +kernel
def tX5_init : List (Nat × Instr × Nat × Nat) := [(0, .aload 0, 1, 0), (1, .invokespecial 3, 3, 0), (4, .aload 0, 1, 0), (5, .iconst (12), 2, 0), (12, .aload 0, 1, 0), (13, .iconst (156), 3, 0), (21, .aload 0, 1, 0), (22, .iconst (3), 1, 0), (28, .return_, 1, 0)]
def mX5_init : zM := (cX5_init, tX5_init, RX5, wsX5_init, { frames := 1, cells := 0, slots := 0, locals := 12 })
theorem kX5_init : mX5_init.2.1.all (fun r => zok mX5_init r && zrt none r.2.1) = true := by decide +kernel
def tX5_isSound : List (Nat × Instr × Nat × Nat) := [(0, .aload 0, 1, 0), (1, .iconst (0), 1, 0), (2, .invokevirtual 61, 3, 0), (5, .iconst (-9), 2, 0), (7, .if_icmp .ne (.ofNat 14), 3, 0), (10, .iconst (1), 1, 0), (11, .goto (.ofNat 15), 3, 0), (14, .iconst (0), 1, 0), (15, .dreturn, 1, 0)]
def mX5_isSound : zM := (cX5_isSound, tX5_isSound, RX5, wsX5_isSound, { frames := 5, cells := 0, slots := 0, locals := 116 })
theorem kX5_isSound : mX5_isSound.2.1.all (fun r => zok mX5_isSound r && zrt (some .boolean) r.2.1) = true := by decide +kernel
def tX5_ofDegree : List (Nat × Instr × Nat × Nat) := [(0, .iconst (0), 1, 0), (1, .istore 2, 1, 0), (2, .iconst (0), 1, 0), (3, .istore 3, 1, 0), (4, .iload 3, 1, 0), (5, .aload 0, 1, 0), (6, .invokeinterface 5 3, 3, 21), (9, .if_icmp .ge (.ofNat 33), 3, 0), (12, .aload 0, 1, 0), (13, .iload 3, 1, 0), (14, .invokevirtual 54, 3, 0), (17, .iload 1, 1, 0), (18, .if_icmp .ne (.ofNat 27), 3, 0), (21, .iload 2, 1, 0), (22, .iconst (1), 1, 0), (23, .iload 3, 1, 0), (24, .ishl, 1, 0), (25, .ior, 1, 0), (26, .istore 2, 1, 0), (27, .iinc 3 1, 3, 0), (30, .goto (.ofNat 4), 3, 0), (33, .iload 2, 1, 0), (34, .ireturn, 1, 0)]
def mX5_ofDegree : zM := (cX5_ofDegree, tX5_ofDegree, RX5, wsX5_ofDegree, { frames := 2, cells := 0, slots := 0, locals := 42 })
theorem kX5_ofDegree : mX5_ofDegree.2.1.all (fun r => zok mX5_ofDegree r && zrt (some .int) r.2.1) = true := by decide +kernel
def tX5_restart : List (Nat × Instr × Nat × Nat) := [(0, .aload 0, 1, 0), (1, .iconst (0), 1, 0), (2, .multianewarray 5 3, 3, 21), (5, .aload 0, 1, 0), (6, .iconst (0), 1, 0), (7, .putstatic 324, 3, 29), (10, .aload 0, 1, 0), (11, .invokeinterface 5 1, 3, 15), (14, .iconst (0), 1, 0), (15, .invokestatic 33, 3, 0), (18, .return_, 1, 0)]
def mX5_restart : zM := (cX5_restart, tX5_restart, RX5, wsX5_restart, { frames := 1, cells := 0, slots := 0, locals := 23 })
theorem kX5_restart : mX5_restart.2.1.all (fun r => zok mX5_restart r && zrt none r.2.1) = true := by decide +kernel
def tX5_setAct : List (Nat × Instr × Nat × Nat) := [(0, .aload 0, 1, 0), (1, .iload 2, 1, 0), (2, .invokevirtual 25, 3, 0), (5, .ifCond .eq (.ofNat 36), 3, 0), (8, .iload 1, 1, 0), (9, .iconst (1), 1, 0), (10, .if_icmp .lt (.ofNat 36), 3, 0), (13, .iload 1, 1, 0), (14, .iconst (12), 2, 0), (16, .if_icmp .gt (.ofNat 36), 3, 0), (19, .aload 0, 1, 0), (20, .invokeinterface 5 1, 3, 15), (23, .iload 2, 1, 0), (24, .iconst (13), 2, 0), (26, .imul, 1, 0), (27, .iload 1, 1, 0), (28, .iadd, 1, 0), (29, .iload 3, 1, 0), (30, .iastore, 1, 0), (31, .aload 0, 1, 0), (32, .iconst (0), 1, 0), (33, .putstatic 324, 3, 29), (36, .return_, 1, 0)]
def mX5_setAct : zM := (cX5_setAct, tX5_setAct, RX5, wsX5_setAct, { frames := 1, cells := 0, slots := 0, locals := 21 })
theorem kX5_setAct : mX5_setAct.2.1.all (fun r => zok mX5_setAct r && zrt none r.2.1) = true := by decide +kernel
def tX5_size : List (Nat × Instr × Nat × Nat) := [(0, .aload 0, 1, 0), (1, .invokeinterface 5 3, 3, 21), (4, .ireturn, 1, 0)]
def mX5_size : zM := (cX5_size, tX5_size, RX5, wsX5_size, { frames := 0, cells := 0, slots := 0, locals := 0 })
theorem kX5_size : mX5_size.2.1.all (fun r => zok mX5_size r && zrt (some .int) r.2.1) = true := by decide +kernel
def tX5_spread : List (Nat × Instr × Nat × Nat) := [(0, .aload 0, 1, 0), (1, .invokevirtual 39, 3, 0), (4, .iload 1, 1, 0), (5, .istore 4, 2, 0), (7, .iload 4, 2, 0), (9, .iload 2, 1, 0), (10, .if_icmp .gt (.ofNat 28), 3, 0), (13, .aload 0, 1, 0), (14, .iload 3, 1, 0), (15, .iload 4, 2, 0), (17, .imul, 1, 0), (18, .invokevirtual 42, 3, 0), (21, .pop, 1, 0), (22, .iinc 4 1, 3, 0), (25, .goto (.ofNat 7), 3, 0), (28, .iload 1, 1, 0), (29, .istore 4, 2, 0), (31, .iload 4, 2, 0), (33, .iload 2, 1, 0), (34, .if_icmp .gt (.ofNat 101), 3, 0), (37, .iconst (1), 1, 0), (38, .istore 5, 2, 0), (40, .iload 4, 2, 0), (42, .iload 5, 2, 0), (44, .iadd, 1, 0), (45, .iload 2, 1, 0), (46, .if_icmp .gt (.ofNat 95), 3, 0), (49, .iload 3, 1, 0), (50, .iload 5, 2, 0), (52, .imul, 1, 0), (53, .iconst (12), 2, 0), (55, .if_icmp .gt (.ofNat 95), 3, 0), (58, .iload 4, 2, 0), (60, .iload 5, 2, 0), (62, .invokestatic 46, 3, 0), (65, .ifCond .eq (.ofNat 89), 3, 0), (68, .aload 0, 1, 0), (69, .iload 3, 1, 0), (70, .iload 5, 2, 0), (72, .imul, 1, 0), (73, .iload 4, 2, 0), (75, .iload 1, 1, 0), (76, .isub, 1, 0), (77, .iconst (1), 1, 0), (78, .iload 4, 2, 0), (80, .iload 5, 2, 0), (82, .iadd, 1, 0), (83, .iload 1, 1, 0), (84, .isub, 1, 0), (85, .ishl, 1, 0), (86, .invokevirtual 50, 3, 0), (89, .iinc 5 1, 3, 0), (92, .goto (.ofNat 40), 3, 0), (95, .iinc 4 1, 3, 0), (98, .goto (.ofNat 31), 3, 0), (101, .return_, 1, 0)]
def mX5_spread : zM := (cX5_spread, tX5_spread, RX5, wsX5_spread, { frames := 2, cells := 0, slots := 0, locals := 44 })
theorem kX5_spread : mX5_spread.2.1.all (fun r => zok mX5_spread r && zrt none r.2.1) = true := by decide +kernel
def tX6_fillLonger : List (Nat × Instr × Nat × Nat) := [(0, .iconst (1), 1, 0), (1, .istore 1, 1, 0), (2, .iload 1, 1, 0), (3, .iconst (14), 2, 0), (5, .if_icmp .gt (.ofNat 156), 3, 0), (8, .aload 0, 1, 0), (9, .invokeinterface 6 0, 3, 15), (12, .iload 1, 1, 0), (13, .invokevirtual 28, 3, 0), (16, .istore 2, 1, 0), (17, .iload 2, 1, 0), (18, .aload 0, 1, 0), (19, .iload 1, 1, 0), (20, .invokevirtual 42, 3, 0), (23, .if_icmp .ge (.ofNat 150), 3, 0), (26, .aload 0, 1, 0), (27, .invokeinterface 6 0, 3, 15), (30, .iload 2, 1, 0), (31, .iconst (0), 1, 0), (32, .invokevirtual 49, 3, 0), (35, .istore 3, 1, 0), (36, .aload 0, 1, 0), (37, .invokeinterface 6 0, 3, 15), (40, .iload 1, 1, 0), (41, .iload 3, 1, 0), (42, .isub, 1, 0), (43, .aload 0, 1, 0), (44, .invokeinterface 6 0, 3, 15), (47, .iload 2, 1, 0), (48, .iconst (1), 1, 0), (49, .invokevirtual 49, 3, 0), (52, .aload 0, 1, 0), (53, .invokeinterface 6 0, 3, 15), (56, .iload 2, 1, 0), (57, .iconst (2), 1, 0), (58, .invokevirtual 49, 3, 0), (61, .iconst (0), 1, 0), (62, .invokevirtual 52, 3, 0), (65, .istore 4, 2, 0), (67, .iconst (0), 1, 0), (68, .istore 5, 2, 0), (70, .iload 1, 1, 0), (71, .iload 5, 2, 0), (73, .iadd, 1, 0), (74, .iconst (14), 2, 0), (76, .if_icmp .gt (.ofNat 144), 3, 0), (79, .aload 0, 1, 0), (80, .invokeinterface 6 0, 3, 15), (83, .iload 5, 2, 0), (85, .invokevirtual 28, 3, 0), (88, .istore 6, 2, 0), (90, .iload 6, 2, 0), (92, .aload 0, 1, 0), (93, .invokeinterface 6 0, 3, 15), (96, .iload 5, 2, 0), (98, .iconst (1), 1, 0), (99, .iadd, 1, 0), (100, .invokevirtual 28, 3, 0), (103, .if_icmp .ge (.ofNat 138), 3, 0), (106, .aload 0, 1, 0), (107, .iload 2, 1, 0), (108, .iload 6, 2, 0), (110, .aload 0, 1, 0), (111, .iload 3, 1, 0), (112, .aload 0, 1, 0), (113, .iload 4, 2, 0), (115, .iload 6, 2, 0), (117, .invokevirtual 56, 3, 0), (120, .iload 1, 1, 0), (121, .iload 3, 1, 0), (122, .isub, 1, 0), (123, .iload 5, 2, 0), (125, .iadd, 1, 0), (126, .invokevirtual 59, 3, 0), (129, .invokevirtual 38, 3, 0), (132, .iinc 6 1, 3, 0), (135, .goto (.ofNat 90), 3, 0), (138, .iinc 5 1, 3, 0), (141, .goto (.ofNat 70), 3, 0), (144, .iinc 2 1, 3, 0), (147, .goto (.ofNat 17), 3, 0), (150, .iinc 1 1, 3, 0), (153, .goto (.ofNat 2), 3, 0), (156, .return_, 1, 0)]
def mX6_fillLonger : zM := (cX6_fillLonger, tX6_fillLonger, RX6, wsX6_fillLonger, { frames := 4, cells := 0, slots := 0, locals := 89 })
theorem kX6_fillLonger : mX6_fillLonger.2.1.all (fun r => zok mX6_fillLonger r && zrt none r.2.1) = true := by decide +kernel
def tX6_fillSingles : List (Nat × Instr × Nat × Nat) := [(0, .iconst (1), 1, 0), (1, .istore 1, 1, 0), (2, .iload 1, 1, 0), (3, .iconst (14), 2, 0), (5, .if_icmp .gt (.ofNat 77), 3, 0), (8, .iload 1, 1, 0), (9, .istore 2, 1, 0), (10, .iload 2, 1, 0), (11, .iconst (1), 1, 0), (12, .if_icmp .lt (.ofNat 71), 3, 0), (15, .aload 0, 1, 0), (16, .invokeinterface 6 0, 3, 15), (19, .iload 1, 1, 0), (20, .iload 2, 1, 0), (21, .isub, 1, 0), (22, .invokevirtual 28, 3, 0), (25, .istore 3, 1, 0), (26, .iload 3, 1, 0), (27, .aload 0, 1, 0), (28, .invokeinterface 6 0, 3, 15), (31, .iload 1, 1, 0), (32, .iload 2, 1, 0), (33, .isub, 1, 0), (34, .iconst (1), 1, 0), (35, .iadd, 1, 0), (36, .invokevirtual 28, 3, 0), (39, .if_icmp .ge (.ofNat 65), 3, 0), (42, .aload 0, 1, 0), (43, .aload 0, 1, 0), (44, .iload 2, 1, 0), (45, .invokevirtual 42, 3, 0), (48, .iload 3, 1, 0), (49, .aload 0, 1, 0), (50, .iload 2, 1, 0), (51, .iload 3, 1, 0), (52, .iload 1, 1, 0), (53, .invokevirtual 45, 3, 0), (56, .invokevirtual 38, 3, 0), (59, .iinc 3 1, 3, 0), (62, .goto (.ofNat 26), 3, 0), (65, .iinc 2 (-1), 3, 0), (68, .goto (.ofNat 10), 3, 0), (71, .iinc 1 1, 3, 0), (74, .goto (.ofNat 2), 3, 0), (77, .return_, 1, 0)]
def mX6_fillSingles : zM := (cX6_fillSingles, tX6_fillSingles, RX6, wsX6_fillSingles, { frames := 5, cells := 0, slots := 0, locals := 118 })
theorem kX6_fillSingles : mX6_fillSingles.2.1.all (fun r => zok mX6_fillSingles r && zrt none r.2.1) = true := by decide +kernel
def tX6_fillUnit : List (Nat × Instr × Nat × Nat) := [(0, .iconst (0), 1, 0), (1, .istore 1, 1, 0), (2, .iload 1, 1, 0), (3, .iconst (14), 2, 0), (5, .if_icmp .gt (.ofNat 58), 3, 0), (8, .aload 0, 1, 0), (9, .invokeinterface 6 0, 3, 15), (12, .iload 1, 1, 0), (13, .invokevirtual 28, 3, 0), (16, .istore 2, 1, 0), (17, .iload 2, 1, 0), (18, .aload 0, 1, 0), (19, .invokeinterface 6 0, 3, 15), (22, .iload 1, 1, 0), (23, .iconst (1), 1, 0), (24, .iadd, 1, 0), (25, .invokevirtual 28, 3, 0), (28, .if_icmp .ge (.ofNat 52), 3, 0), (31, .aload 0, 1, 0), (32, .iconst (0), 1, 0), (33, .iload 2, 1, 0), (34, .aload 0, 1, 0), (35, .invokeinterface 6 0, 3, 15), (38, .iload 1, 1, 0), (39, .iload 2, 1, 0), (40, .invokevirtual 34, 3, 0), (43, .invokevirtual 38, 3, 0), (46, .iinc 2 1, 3, 0), (49, .goto (.ofNat 17), 3, 0), (52, .iinc 1 1, 3, 0), (55, .goto (.ofNat 2), 3, 0), (58, .return_, 1, 0)]
def mX6_fillUnit : zM := (cX6_fillUnit, tX6_fillUnit, RX6, wsX6_fillUnit, { frames := 3, cells := 0, slots := 0, locals := 65 })
theorem kX6_fillUnit : mX6_fillUnit.2.1.all (fun r => zok mX6_fillUnit r && zrt none r.2.1) = true := by decide +kernel
def tX6_init : List (Nat × Instr × Nat × Nat) := [(0, .aload 0, 1, 0), (1, .invokespecial 3, 3, 0), (4, .aload 0, 1, 0), (5, .iconst (3721), 3, 0), (13, .aload 0, 1, 0), (14, .aload 1, 1, 0), (18, .aload 0, 1, 0), (19, .invokevirtual 19, 3, 0), (22, .aload 0, 1, 0), (23, .invokevirtual 22, 3, 0), (26, .aload 0, 1, 0), (27, .invokevirtual 25, 3, 0), (30, .return_, 1, 0)]
def mX6_init : zM := (cX6_init, tX6_init, RX6, wsX6_init, { frames := 6, cells := 0, slots := 0, locals := 141 })
theorem kX6_init : mX6_init.2.1.all (fun r => zok mX6_init r && zrt none r.2.1) = true := by decide +kernel
def tX6_product : List (Nat × Instr × Nat × Nat) := [(0, .iload 1, 1, 0), (1, .ifCond .lt (.ofNat 34), 3, 0), (4, .iload 1, 1, 0), (5, .iconst (61), 2, 0), (7, .if_icmp .ge (.ofNat 34), 3, 0), (10, .iload 2, 1, 0), (11, .ifCond .lt (.ofNat 34), 3, 0), (14, .iload 2, 1, 0), (15, .iconst (61), 2, 0), (17, .if_icmp .ge (.ofNat 34), 3, 0), (20, .aload 0, 1, 0), (21, .invokeinterface 6 1, 3, 9), (24, .iload 1, 1, 0), (25, .iconst (61), 2, 0), (27, .imul, 1, 0), (28, .iload 2, 1, 0), (29, .iadd, 1, 0), (30, .iaload, 1, 0), (31, .goto (.ofNat 35), 3, 0), (34, .iconst (0), 1, 0), (35, .ireturn, 1, 0)]
def mX6_product : zM := (cX6_product, tX6_product, RX6, wsX6_product, { frames := 0, cells := 0, slots := 0, locals := 0 })
theorem kX6_product : mX6_product.2.1.all (fun r => zok mX6_product r && zrt (some .int) r.2.1) = true := by decide +kernel
def tX6_put : List (Nat × Instr × Nat × Nat) := [(0, .iload 1, 1, 0), (1, .ifCond .lt (.ofNat 32), 3, 0), (4, .iload 1, 1, 0), (5, .iconst (61), 2, 0), (7, .if_icmp .ge (.ofNat 32), 3, 0), (10, .iload 2, 1, 0), (11, .ifCond .lt (.ofNat 32), 3, 0), (14, .iload 2, 1, 0), (15, .iconst (61), 2, 0), (17, .if_icmp .ge (.ofNat 32), 3, 0), (20, .aload 0, 1, 0), (21, .invokeinterface 6 1, 3, 9), (24, .iload 1, 1, 0), (25, .iconst (61), 2, 0), (27, .imul, 1, 0), (28, .iload 2, 1, 0), (29, .iadd, 1, 0), (30, .iload 3, 1, 0), (31, .iastore, 1, 0), (32, .return_, 1, 0)]
def mX6_put : zM := (cX6_put, tX6_put, RX6, wsX6_put, { frames := 0, cells := 0, slots := 0, locals := 0 })
theorem kX6_put : mX6_put.2.1.all (fun r => zok mX6_put r && zrt none r.2.1) = true := by decide +kernel
def tX6_single : List (Nat × Instr × Nat × Nat) := [(0, .aload 0, 1, 0), (1, .invokeinterface 6 0, 3, 15), (4, .iload 1, 1, 0), (5, .iconst (1), 1, 0), (6, .iadd, 1, 0), (7, .invokevirtual 28, 3, 0), (10, .iconst (1), 1, 0), (11, .isub, 1, 0), (12, .ireturn, 1, 0)]
def mX6_single : zM := (cX6_single, tX6_single, RX6, wsX6_single, { frames := 2, cells := 0, slots := 0, locals := 42 })
theorem kX6_single : mX6_single.2.1.all (fun r => zok mX6_single r && zrt (some .int) r.2.1) = true := by decide +kernel
def tX6_timesSum : List (Nat × Instr × Nat × Nat) := [(0, .iconst (0), 1, 0), (1, .istore 4, 2, 0), (3, .aload 0, 1, 0), (4, .invokeinterface 6 0, 3, 15), (7, .iload 3, 1, 0), (8, .invokevirtual 28, 3, 0), (11, .istore 5, 2, 0), (13, .iconst (0), 1, 0), (14, .istore 6, 2, 0), (16, .iload 6, 2, 0), (18, .aload 0, 1, 0), (19, .invokeinterface 6 0, 3, 15), (22, .iload 3, 1, 0), (23, .invokevirtual 66, 3, 0), (26, .if_icmp .ge (.ofNat 63), 3, 0), (29, .iload 2, 1, 0), (30, .iload 6, 2, 0), (32, .ishr, 1, 0), (33, .iconst (1), 1, 0), (34, .iand, 1, 0), (35, .ifCond .eq (.ofNat 57), 3, 0), (38, .iload 4, 2, 0), (40, .aload 0, 1, 0), (41, .aload 0, 1, 0), (42, .iload 1, 1, 0), (43, .invokevirtual 42, 3, 0), (46, .iload 5, 2, 0), (48, .iload 6, 2, 0), (50, .iadd, 1, 0), (51, .invokevirtual 56, 3, 0), (54, .ixor, 1, 0), (55, .istore 4, 2, 0), (57, .iinc 6 1, 3, 0), (60, .goto (.ofNat 16), 3, 0), (63, .iload 4, 2, 0), (65, .ireturn, 1, 0)]
def mX6_timesSum : zM := (cX6_timesSum, tX6_timesSum, RX6, wsX6_timesSum, { frames := 3, cells := 0, slots := 0, locals := 63 })
theorem kX6_timesSum : mX6_timesSum.2.1.all (fun r => zok mX6_timesSum r && zrt (some .int) r.2.1) = true := by decide +kernel
def tX6_timesTerm : List (Nat × Instr × Nat × Nat) := [(0, .aload 0, 1, 0), (1, .invokeinterface 6 0, 3, 15), (4, .iload 2, 1, 0), (5, .iconst (0), 1, 0), (6, .invokevirtual 49, 3, 0), (9, .istore 4, 2, 0), (11, .aload 0, 1, 0), (12, .invokeinterface 6 0, 3, 15), (15, .iload 2, 1, 0), (16, .iconst (1), 1, 0), (17, .invokevirtual 49, 3, 0), (20, .istore 5, 2, 0), (22, .aload 0, 1, 0), (23, .invokeinterface 6 0, 3, 15), (26, .iload 2, 1, 0), (27, .iconst (2), 1, 0), (28, .invokevirtual 49, 3, 0), (31, .istore 6, 2, 0), (33, .iload 1, 1, 0), (34, .iconst (2), 1, 0), (35, .iload 4, 2, 0), (37, .imul, 1, 0), (38, .if_icmp .lt (.ofNat 63), 3, 0), (41, .aload 0, 1, 0), (42, .invokeinterface 6 0, 3, 15), (45, .iload 3, 1, 0), (46, .aload 0, 1, 0), (47, .invokeinterface 6 0, 3, 15), (50, .iload 3, 1, 0), (51, .iload 1, 1, 0), (52, .iload 4, 2, 0), (54, .iload 5, 2, 0), (56, .invokevirtual 52, 3, 0), (59, .invokevirtual 34, 3, 0), (62, .ireturn, 1, 0), (63, .aload 0, 1, 0), (64, .invokeinterface 6 0, 3, 15), (67, .iload 3, 1, 0), (68, .iload 1, 1, 0), (69, .isub, 1, 0), (70, .iload 4, 2, 0), (72, .isub, 1, 0), (73, .iload 5, 2, 0), (75, .iload 6, 2, 0), (77, .iconst (0), 1, 0), (78, .invokevirtual 52, 3, 0), (81, .istore 7, 2, 0), (83, .iconst (0), 1, 0), (84, .istore 8, 2, 0), (86, .iconst (0), 1, 0), (87, .istore 9, 2, 0), (89, .iload 9, 2, 0), (91, .iload 1, 1, 0), (92, .iconst (2), 1, 0), (93, .idiv, 1, 0), (94, .if_icmp .gt (.ofNat 159), 3, 0), (97, .iload 4, 2, 0), (99, .iconst (1), 1, 0), (100, .isub, 1, 0), (101, .iload 9, 2, 0), (103, .isub, 1, 0), (104, .iload 1, 1, 0), (105, .iconst (2), 1, 0), (106, .iload 9, 2, 0), (108, .imul, 1, 0), (109, .isub, 1, 0), (110, .invokestatic 62, 3, 0), (113, .ifCond .eq (.ofNat 153), 3, 0), (116, .iload 8, 2, 0), (118, .aload 0, 1, 0), (119, .iload 1, 1, 0), (120, .iload 4, 2, 0), (122, .iadd, 1, 0), (123, .iload 9, 2, 0), (125, .isub, 1, 0), (126, .aload 0, 1, 0), (127, .aload 0, 1, 0), (128, .iload 9, 2, 0), (130, .invokevirtual 42, 3, 0), (133, .iload 7, 2, 0), (135, .invokevirtual 56, 3, 0), (138, .iload 3, 1, 0), (139, .iload 1, 1, 0), (140, .iload 4, 2, 0), (142, .iadd, 1, 0), (143, .iload 9, 2, 0), (145, .isub, 1, 0), (146, .isub, 1, 0), (147, .invokevirtual 59, 3, 0), (150, .ixor, 1, 0), (151, .istore 8, 2, 0), (153, .iinc 9 1, 3, 0), (156, .goto (.ofNat 89), 3, 0), (159, .iload 8, 2, 0), (161, .ireturn, 1, 0)]
def mX6_timesTerm : zM := (cX6_timesTerm, tX6_timesTerm, RX6, wsX6_timesTerm, { frames := 4, cells := 0, slots := 0, locals := 89 })
theorem kX6_timesTerm : mX6_timesTerm.2.1.all (fun r => zok mX6_timesTerm r && zrt (some .int) r.2.1) = true := by decide +kernel
end
section
/-! printed by program: the methods' rows in plain form, and that they are the bytes' -/
def tX7_applyChain : List (Nat × Instr × Nat × Nat) := [(0, .iload 2, 1, 0), (1, .istore 3, 1, 0), (2, .iconst (2), 1, 0), (3, .istore 4, 2, 0), (5, .iload 4, 2, 0), (7, .ifCond .lt (.ofNat 35), 3, 0), (10, .aload 0, 1, 0), (11, .invokeinterface 7 2, 3, 54), (14, .aload 0, 1, 0), (15, .invokeinterface 7 0, 3, 46), (18, .iload 1, 1, 0), (19, .iload 4, 2, 0), (21, .invokevirtual 171, 3, 0), (24, .iload 3, 1, 0), (25, .invokevirtual 174, 3, 0), (28, .istore 3, 1, 0), (29, .iinc 4 (-1), 3, 0), (32, .goto (.ofNat 5), 3, 0), (35, .iload 3, 1, 0), (36, .ireturn, 1, 0)]
def mX7_applyChain : zM := (cX7_applyChain, tX7_applyChain, RX7, wsX7_applyChain, { frames := 2, cells := 0, slots := 0, locals := 47 })
theorem kX7_applyChain : mX7_applyChain.2.1.all (fun r => zok mX7_applyChain r && zrt (some .int) r.2.1) = true := by decide +kernel
def tX7_build : List (Nat × Instr × Nat × Nat) := [(0, .aload 0, 1, 0), (1, .invokeinterface 7 11, 3, 61), (4, .ifCond .ne (.ofNat 30), 3, 0), (7, .iconst (0), 1, 0), (8, .istore 2, 1, 0), (9, .iload 2, 1, 0), (10, .iconst (6), 2, 0), (12, .if_icmp .ge (.ofNat 30), 3, 0), (15, .aload 0, 1, 0), (16, .invokeinterface 7 3, 3, 11), (19, .iload 2, 1, 0), (20, .aaload, 1, 0), (21, .invokevirtual 99, 3, 0), (24, .iinc 2 1, 3, 0), (27, .goto (.ofNat 9), 3, 0), (30, .aload 0, 1, 0), (31, .invokeinterface 7 11, 3, 61), (34, .istore 2, 1, 0), (35, .iload 2, 1, 0), (36, .iload 1, 1, 0), (37, .if_icmp .gt (.ofNat 64), 3, 0), (40, .iload 2, 1, 0), (41, .iconst (14), 2, 0), (43, .if_icmp .gt (.ofNat 64), 3, 0), (46, .aload 0, 1, 0), (47, .iload 2, 1, 0), (48, .invokevirtual 102, 3, 0), (51, .aload 0, 1, 0), (52, .iload 2, 1, 0), (53, .iconst (1), 1, 0), (54, .iadd, 1, 0), (55, .multianewarray 7 11, 3, 61), (58, .iinc 2 1, 3, 0), (61, .goto (.ofNat 35), 3, 0), (64, .return_, 1, 0)]
def mX7_build : zM := (cX7_build, tX7_build, RX7, wsX7_build, { frames := 6, cells := 0, slots := 0, locals := 155 })
theorem kX7_build : mX7_build.2.1.all (fun r => zok mX7_build r && zrt none r.2.1) = true := by decide +kernel
def tX7_buildDegree : List (Nat × Instr × Nat × Nat) := [(0, .aload 0, 1, 0), (1, .invokeinterface 7 4, 3, 19), (4, .iconst (1), 1, 0), (5, .aaload, 1, 0), (6, .astore 2, 1, 0), (7, .aload 2, 1, 0), (8, .aload 0, 1, 0), (9, .invokeinterface 7 2, 3, 54), (12, .iload 1, 1, 0), (13, .invokevirtual 105, 3, 0), (16, .invokestatic 110, 3, 0), (19, .aconst_null, 1, 0), (20, .astore 3, 1, 0), (21, .iconst (0), 1, 0), (22, .istore 4, 2, 0), (24, .iload 4, 2, 0), (26, .iconst (6), 2, 0), (28, .if_icmp .ge (.ofNat 149), 3, 0), (31, .aload 0, 1, 0), (32, .invokeinterface 7 3, 3, 11), (35, .iload 4, 2, 0), (37, .aaload, 1, 0), (38, .astore 5, 2, 0), (40, .aload 0, 1, 0), (41, .invokeinterface 7 4, 3, 19), (44, .iload 4, 2, 0), (46, .iconst (2), 1, 0), (47, .irem, 1, 0), (48, .aaload, 1, 0), (49, .astore 6, 2, 0), (51, .aload 3, 1, 0), (52, .ifnonnull (.ofNat 60), 3, 0), (55, .iconst (12), 2, 0), (57, .goto (.ofNat 65), 3, 0), (60, .aload 3, 1, 0), (61, .iload 1, 1, 0), (62, .invokevirtual 69, 3, 0), (65, .istore 7, 2, 0), (67, .aload 5, 2, 0), (69, .iload 1, 1, 0), (70, .invokevirtual 69, 3, 0), (73, .istore 8, 2, 0), (75, .aload 0, 1, 0), (76, .invokeinterface 7 5, 3, 26), (79, .iload 7, 2, 0), (81, .invokevirtual 114, 3, 0), (84, .aload 0, 1, 0), (85, .invokeinterface 7 6, 3, 30), (88, .iload 8, 2, 0), (90, .invokevirtual 114, 3, 0), (93, .aload 6, 2, 0), (95, .iload 8, 2, 0), (97, .invokevirtual 114, 3, 0), (100, .aload 0, 1, 0), (101, .invokeinterface 7 7, 3, 33), (104, .iconst (0), 1, 0), (105, .iload 7, 2, 0), (107, .aload 0, 1, 0), (108, .invokeinterface 7 7, 3, 33), (111, .arraylength, 1, 0), (112, .invokestatic 87, 3, 0), (115, .iconst (-1), 1, 0), (116, .invokestatic 116, 3, 0), (119, .aload 0, 1, 0), (120, .aload 5, 2, 0), (122, .aload 3, 1, 0), (123, .iload 1, 1, 0), (124, .aload 6, 2, 0), (126, .invokevirtual 122, 3, 0), (129, .aload 0, 1, 0), (130, .aload 5, 2, 0), (132, .aload 2, 1, 0), (133, .iload 1, 1, 0), (134, .invokevirtual 126, 3, 0), (137, .aload 5, 2, 0), (139, .astore 3, 1, 0), (140, .aload 6, 2, 0), (142, .astore 2, 1, 0), (143, .iinc 4 1, 3, 0), (146, .goto (.ofNat 24), 3, 0), (149, .return_, 1, 0)]
def mX7_buildDegree : zM := (cX7_buildDegree, tX7_buildDegree, RX7, wsX7_buildDegree, { frames := 5, cells := 0, slots := 0, locals := 127 })
theorem kX7_buildDegree : mX7_buildDegree.2.1.all (fun r => zok mX7_buildDegree r && zrt none r.2.1) = true := by decide +kernel
def tX7_carryOver : List (Nat × Instr × Nat × Nat) := [(0, .iconst (0), 1, 0), (1, .istore 5, 2, 0), (3, .iconst (-1), 1, 0), (4, .istore 6, 2, 0), (6, .iconst (0), 1, 0), (7, .istore 7, 2, 0), (9, .iload 7, 2, 0), (11, .aload 1, 1, 0), (12, .invokevirtual 72, 3, 0), (15, .if_icmp .ge (.ofNat 186), 3, 0), (18, .aload 1, 1, 0), (19, .iload 7, 2, 0), (21, .invokevirtual 76, 3, 0), (24, .istore 8, 2, 0), (26, .aload 2, 1, 0), (27, .ifnull (.ofNat 49), 3, 0), (30, .iload 8, 2, 0), (32, .iload 6, 2, 0), (34, .if_icmp .eq (.ofNat 49), 3, 0), (37, .aload 0, 1, 0), (38, .aload 2, 1, 0), (39, .iload 8, 2, 0), (41, .iload 3, 1, 0), (42, .invokevirtual 137, 3, 0), (45, .iload 8, 2, 0), (47, .istore 6, 2, 0), (49, .aload 0, 1, 0), (50, .invokeinterface 7 0, 3, 46), (53, .iload 3, 1, 0), (54, .iload 8, 2, 0), (56, .isub, 1, 0), (57, .invokevirtual 141, 3, 0), (60, .istore 9, 2, 0), (62, .aload 0, 1, 0), (63, .invokeinterface 7 0, 3, 46), (66, .iload 3, 1, 0), (67, .iload 8, 2, 0), (69, .isub, 1, 0), (70, .invokevirtual 146, 3, 0), (73, .istore 10, 2, 0), (75, .iconst (0), 1, 0), (76, .istore 11, 2, 0), (78, .iload 11, 2, 0), (80, .iload 10, 2, 0), (82, .if_icmp .ge (.ofNat 180), 3, 0), (85, .aload 0, 1, 0), (86, .invokeinterface 7 5, 3, 26), (89, .invokevirtual 130, 3, 0), (92, .istore 12, 2, 0), (94, .aload 0, 1, 0), (95, .invokeinterface 7 6, 3, 30), (98, .aload 0, 1, 0), (99, .invokeinterface 7 6, 3, 30), (102, .invokevirtual 130, 3, 0), (105, .iload 5, 2, 0), (107, .iconst (1), 1, 0), (108, .invokevirtual 133, 3, 0), (111, .aload 2, 1, 0), (112, .ifnull (.ofNat 135), 3, 0), (115, .aload 0, 1, 0), (116, .iload 12, 2, 0), (118, .iload 9, 2, 0), (120, .iload 11, 2, 0), (122, .iadd, 1, 0), (123, .aload 1, 1, 0), (124, .invokevirtual 79, 3, 0), (127, .iload 7, 2, 0), (129, .invokevirtual 149, 3, 0), (132, .goto (.ofNat 163), 3, 0), (135, .aload 0, 1, 0), (136, .invokeinterface 7 5, 3, 26), (139, .iload 12, 2, 0), (141, .iconst (0), 1, 0), (142, .aload 0, 1, 0), (143, .iload 9, 2, 0), (145, .iload 11, 2, 0), (147, .iadd, 1, 0), (148, .aload 1, 1, 0), (149, .invokevirtual 79, 3, 0), (152, .iload 7, 2, 0), (154, .invokevirtual 153, 3, 0), (157, .invokevirtual 156, 3, 0), (160, .invokevirtual 133, 3, 0), (163, .aload 0, 1, 0), (164, .iload 12, 2, 0), (166, .aload 4, 2, 0), (168, .invokevirtual 159, 3, 0), (171, .iinc 5 1, 3, 0), (174, .iinc 11 1, 3, 0), (177, .goto (.ofNat 78), 3, 0), (180, .iinc 7 1, 3, 0), (183, .goto (.ofNat 9), 3, 0), (186, .return_, 1, 0)]
def mX7_carryOver : zM := (cX7_carryOver, tX7_carryOver, RX7, wsX7_carryOver, { frames := 4, cells := 0, slots := 0, locals := 95 })
theorem kX7_carryOver : mX7_carryOver.2.1.all (fun r => zok mX7_carryOver r && zrt none r.2.1) = true := by decide +kernel
def tX7_cover : List (Nat × Instr × Nat × Nat) := [(0, .iconst (0), 1, 0), (1, .istore 4, 2, 0), (3, .iload 4, 2, 0), (5, .aload 2, 1, 0), (6, .invokevirtual 187, 3, 0), (9, .if_icmp .ge (.ofNat 103), 3, 0), (12, .aload 0, 1, 0), (13, .invokeinterface 7 5, 3, 26), (16, .aload 2, 1, 0), (17, .iload 4, 2, 0), (19, .invokevirtual 180, 3, 0), (22, .istore 5, 2, 0), (24, .aload 0, 1, 0), (25, .invokeinterface 7 6, 3, 30), (28, .invokevirtual 130, 3, 0), (31, .pop, 1, 0), (32, .aload 0, 1, 0), (33, .iload 5, 2, 0), (35, .invokevirtual 177, 3, 0), (38, .istore 6, 2, 0), (40, .iload 6, 2, 0), (42, .ifCond .lt (.ofNat 78), 3, 0), (45, .iload 6, 2, 0), (47, .aload 0, 1, 0), (48, .invokeinterface 7 7, 3, 33), (51, .arraylength, 1, 0), (52, .if_icmp .ge (.ofNat 78), 3, 0), (55, .aload 0, 1, 0), (56, .invokeinterface 7 7, 3, 33), (59, .iload 6, 2, 0), (61, .iload 5, 2, 0), (63, .iastore, 1, 0), (64, .aload 1, 1, 0), (65, .iload 3, 1, 0), (66, .aload 0, 1, 0), (67, .invokeinterface 7 5, 3, 26), (70, .iload 5, 2, 0), (72, .invokevirtual 190, 3, 0), (75, .goto (.ofNat 97), 3, 0), (78, .iload 5, 2, 0), (80, .ifCond .lt (.ofNat 97), 3, 0), (83, .aload 0, 1, 0), (84, .invokeinterface 7 5, 3, 26), (87, .invokevirtual 184, 3, 0), (90, .aload 0, 1, 0), (91, .invokeinterface 7 6, 3, 30), (94, .invokevirtual 184, 3, 0), (97, .iinc 4 1, 3, 0), (100, .goto (.ofNat 3), 3, 0), (103, .return_, 1, 0)]
def mX7_cover : zM := (cX7_cover, tX7_cover, RX7, wsX7_cover, { frames := 3, cells := 0, slots := 0, locals := 72 })
theorem kX7_cover : mX7_cover.2.1.all (fun r => zok mX7_cover r && zrt none r.2.1) = true := by decide +kernel
def tX7_generatorsAt : List (Nat × Instr × Nat × Nat) := [(0, .iload 1, 1, 0), (1, .ifCond .lt (.ofNat 23), 3, 0), (4, .iload 1, 1, 0), (5, .iconst (6), 2, 0), (7, .if_icmp .ge (.ofNat 23), 3, 0), (10, .aload 0, 1, 0), (11, .invokeinterface 7 3, 3, 11), (14, .iload 1, 1, 0), (15, .aaload, 1, 0), (16, .iload 2, 1, 0), (17, .invokevirtual 65, 3, 0), (20, .goto (.ofNat 24), 3, 0), (23, .iconst (0), 1, 0), (24, .ireturn, 1, 0)]
def mX7_generatorsAt : zM := (cX7_generatorsAt, tX7_generatorsAt, RX7, wsX7_generatorsAt, { frames := 2, cells := 0, slots := 0, locals := 44 })
theorem kX7_generatorsAt : mX7_generatorsAt.2.1.all (fun r => zok mX7_generatorsAt r && zrt (some .int) r.2.1) = true := by decide +kernel
def tX7_init : List (Nat × Instr × Nat × Nat) := [(0, .aload 0, 1, 0), (1, .invokespecial 3, 3, 0), (4, .aload 0, 1, 0), (5, .iconst (6), 2, 0), (13, .aload 0, 1, 0), (14, .iconst (2), 1, 0), (21, .aload 0, 1, 0), (25, .dup, 1, 0), (26, .iconst (181), 3, 0), (29, .invokespecial 23, 3, 0), (35, .aload 0, 1, 0), (39, .dup, 1, 0), (40, .iconst (181), 3, 0), (43, .invokespecial 23, 3, 0), (49, .aload 0, 1, 0), (50, .iconst (320), 3, 0), (58, .aload 0, 1, 0), (59, .iconst (320), 3, 0), (67, .aload 0, 1, 0), (68, .iconst (320), 3, 0), (76, .aload 0, 1, 0), (77, .iconst (12), 2, 0), (84, .aload 0, 1, 0), (85, .aload 1, 1, 0), (89, .aload 0, 1, 0), (90, .aload 2, 1, 0), (94, .aload 0, 1, 0), (95, .aload 3, 1, 0), (99, .iconst (0), 1, 0), (100, .istore 4, 2, 0), (102, .iload 4, 2, 0), (104, .iconst (6), 2, 0), (106, .if_icmp .ge (.ofNat 130), 3, 0), (109, .aload 0, 1, 0), (110, .invokeinterface 7 3, 3, 11), (113, .iload 4, 2, 0), (118, .dup, 1, 0), (119, .aload 1, 1, 0), (120, .invokespecial 58, 3, 0), (124, .iinc 4 1, 3, 0), (127, .goto (.ofNat 102), 3, 0), (130, .aload 0, 1, 0), (131, .invokeinterface 7 4, 3, 19), (134, .iconst (0), 1, 0), (138, .dup, 1, 0), (139, .iconst (180), 3, 0), (142, .invokespecial 23, 3, 0), (146, .aload 0, 1, 0), (147, .invokeinterface 7 4, 3, 19), (150, .iconst (1), 1, 0), (154, .dup, 1, 0), (155, .iconst (180), 3, 0), (158, .invokespecial 23, 3, 0), (162, .return_, 1, 0)]
def mX7_init : zM := (cX7_init, tX7_init, RX7, wsX7_init, { frames := 3, cells := 0, slots := 0, locals := 63 })
theorem kX7_init : mX7_init.2.1.all (fun r => zok mX7_init r && zrt none r.2.1) = true := by decide +kernel
def tX7_joinsOf : List (Nat × Instr × Nat × Nat) := [(0, .iconst (0), 1, 0), (1, .istore 5, 2, 0), (3, .iconst (0), 1, 0), (4, .istore 6, 2, 0), (6, .iconst (0), 1, 0), (7, .istore 7, 2, 0), (9, .iconst (0), 1, 0), (10, .istore 8, 2, 0), (12, .iload 8, 2, 0), (14, .aload 0, 1, 0), (15, .invokevirtual 72, 3, 0), (18, .if_icmp .ge (.ofNat 70), 3, 0), (21, .iload 6, 2, 0), (23, .aload 0, 1, 0), (24, .iload 8, 2, 0), (26, .iload 4, 2, 0), (28, .invokevirtual 93, 3, 0), (31, .iadd, 1, 0), (32, .istore 6, 2, 0), (34, .aload 0, 1, 0), (35, .iload 8, 2, 0), (37, .invokevirtual 76, 3, 0), (40, .iload 3, 1, 0), (41, .if_icmp .ne (.ofNat 64), 3, 0), (44, .iload 5, 2, 0), (46, .aload 1, 1, 0), (47, .iload 2, 1, 0), (48, .iload 6, 2, 0), (50, .iconst (1), 1, 0), (51, .isub, 1, 0), (52, .invokevirtual 96, 3, 0), (55, .iload 7, 2, 0), (57, .ishl, 1, 0), (58, .ior, 1, 0), (59, .istore 5, 2, 0), (61, .iinc 7 1, 3, 0), (64, .iinc 8 1, 3, 0), (67, .goto (.ofNat 12), 3, 0), (70, .iload 5, 2, 0), (72, .ireturn, 1, 0)]
def mX7_joinsOf : zM := (cX7_joinsOf, tX7_joinsOf, RX7, wsX7_joinsOf, { frames := 2, cells := 0, slots := 0, locals := 44 })
theorem kX7_joinsOf : mX7_joinsOf.2.1.all (fun r => zok mX7_joinsOf r && zrt (some .int) r.2.1) = true := by decide +kernel
def tX7_keepOrDrop : List (Nat × Instr × Nat × Nat) := [(0, .aload 0, 1, 0), (1, .iload 1, 1, 0), (2, .invokevirtual 177, 3, 0), (5, .istore 3, 1, 0), (6, .iload 3, 1, 0), (7, .ifCond .lt (.ofNat 29), 3, 0), (10, .iload 3, 1, 0), (11, .aload 0, 1, 0), (12, .invokeinterface 7 7, 3, 33), (15, .arraylength, 1, 0), (16, .if_icmp .ge (.ofNat 29), 3, 0), (19, .aload 0, 1, 0), (20, .invokeinterface 7 7, 3, 33), (23, .iload 3, 1, 0), (24, .iload 1, 1, 0), (25, .iastore, 1, 0), (26, .goto (.ofNat 57), 3, 0), (29, .iload 1, 1, 0), (30, .ifCond .lt (.ofNat 57), 3, 0), (33, .aload 2, 1, 0), (34, .aload 0, 1, 0), (35, .invokeinterface 7 6, 3, 30), (38, .iload 1, 1, 0), (39, .invokevirtual 180, 3, 0), (42, .pop, 1, 0), (43, .aload 0, 1, 0), (44, .invokeinterface 7 5, 3, 26), (47, .invokevirtual 184, 3, 0), (50, .aload 0, 1, 0), (51, .invokeinterface 7 6, 3, 30), (54, .invokevirtual 184, 3, 0), (57, .return_, 1, 0)]
def mX7_keepOrDrop : zM := (cX7_keepOrDrop, tX7_keepOrDrop, RX7, wsX7_keepOrDrop, { frames := 3, cells := 0, slots := 0, locals := 72 })
theorem kX7_keepOrDrop : mX7_keepOrDrop.2.1.all (fun r => zok mX7_keepOrDrop r && zrt none r.2.1) = true := by decide +kernel
def tX7_listElements : List (Nat × Instr × Nat × Nat) := [(0, .aload 0, 1, 0), (1, .iconst (12), 2, 0), (3, .invokevirtual 114, 3, 0), (6, .iconst (0), 1, 0), (7, .istore 2, 1, 0), (8, .iload 2, 1, 0), (9, .iconst (12), 2, 0), (11, .if_icmp .ge (.ofNat 38), 3, 0), (14, .iload 1, 1, 0), (15, .iload 2, 1, 0), (16, .ishr, 1, 0), (17, .iconst (1), 1, 0), (18, .iand, 1, 0), (19, .ifCond .eq (.ofNat 32), 3, 0), (22, .aload 0, 1, 0), (23, .aload 0, 1, 0), (24, .invokevirtual 130, 3, 0), (27, .iload 2, 1, 0), (28, .iconst (1), 1, 0), (29, .invokevirtual 133, 3, 0), (32, .iinc 2 1, 3, 0), (35, .goto (.ofNat 8), 3, 0), (38, .return_, 1, 0)]
def mX7_listElements : zM := (cX7_listElements, tX7_listElements, RX7, wsX7_listElements, { frames := 2, cells := 0, slots := 0, locals := 48 })
theorem kX7_listElements : mX7_listElements.2.1.all (fun r => zok mX7_listElements r && zrt none r.2.1) = true := by decide +kernel
def tX7_listPlaces : List (Nat × Instr × Nat × Nat) := [(0, .iconst (0), 1, 0), (1, .istore 4, 2, 0), (3, .iconst (0), 1, 0), (4, .istore 5, 2, 0), (6, .iconst (0), 1, 0), (7, .istore 6, 2, 0), (9, .iload 6, 2, 0), (11, .aload 1, 1, 0), (12, .invokevirtual 72, 3, 0), (15, .if_icmp .ge (.ofNat 122), 3, 0), (18, .aload 0, 1, 0), (19, .invokeinterface 7 0, 3, 46), (22, .iload 2, 1, 0), (23, .aload 1, 1, 0), (24, .iload 6, 2, 0), (26, .invokevirtual 76, 3, 0), (29, .isub, 1, 0), (30, .invokevirtual 141, 3, 0), (33, .istore 7, 2, 0), (35, .aload 1, 1, 0), (36, .iload 6, 2, 0), (38, .iload 2, 1, 0), (39, .invokevirtual 93, 3, 0), (42, .istore 8, 2, 0), (44, .iconst (0), 1, 0), (45, .istore 9, 2, 0), (47, .iload 9, 2, 0), (49, .iload 8, 2, 0), (51, .if_icmp .ge (.ofNat 104), 3, 0), (54, .iload 4, 2, 0), (56, .aload 0, 1, 0), (57, .invokeinterface 7 8, 3, 37), (60, .arraylength, 1, 0), (61, .if_icmp .ge (.ofNat 104), 3, 0), (64, .iload 4, 2, 0), (66, .aload 0, 1, 0), (67, .invokeinterface 7 9, 3, 40), (70, .arraylength, 1, 0), (71, .if_icmp .ge (.ofNat 104), 3, 0), (74, .aload 0, 1, 0), (75, .invokeinterface 7 8, 3, 37), (78, .iload 4, 2, 0), (80, .iload 7, 2, 0), (82, .iload 9, 2, 0), (84, .iadd, 1, 0), (85, .iastore, 1, 0), (86, .aload 0, 1, 0), (87, .invokeinterface 7 9, 3, 40), (90, .iload 4, 2, 0), (92, .iload 5, 2, 0), (94, .iastore, 1, 0), (95, .iinc 4 1, 3, 0), (98, .iinc 9 1, 3, 0), (101, .goto (.ofNat 47), 3, 0), (104, .iload 5, 2, 0), (106, .aload 1, 1, 0), (107, .iload 6, 2, 0), (109, .iload 3, 1, 0), (110, .invokevirtual 93, 3, 0), (113, .iadd, 1, 0), (114, .istore 5, 2, 0), (116, .iinc 6 1, 3, 0), (119, .goto (.ofNat 9), 3, 0), (122, .return_, 1, 0)]
def mX7_listPlaces : zM := (cX7_listPlaces, tX7_listPlaces, RX7, wsX7_listPlaces, { frames := 2, cells := 0, slots := 0, locals := 43 })
theorem kX7_listPlaces : mX7_listPlaces.2.1.all (fun r => zok mX7_listPlaces r && zrt none r.2.1) = true := by decide +kernel
def tX7_putProduct : List (Nat × Instr × Nat × Nat) := [(0, .iconst (0), 1, 0), (1, .istore 5, 2, 0), (3, .iload 5, 2, 0), (5, .aload 0, 1, 0), (6, .invokeinterface 7 8, 3, 37), (9, .arraylength, 1, 0), (10, .if_icmp .ge (.ofNat 99), 3, 0), (13, .iload 5, 2, 0), (15, .aload 0, 1, 0), (16, .invokeinterface 7 9, 3, 40), (19, .arraylength, 1, 0), (20, .if_icmp .ge (.ofNat 99), 3, 0), (23, .aload 3, 1, 0), (24, .iload 4, 2, 0), (26, .iload 5, 2, 0), (28, .invokevirtual 163, 3, 0), (31, .istore 6, 2, 0), (33, .iload 6, 2, 0), (35, .ifCond .lt (.ofNat 58), 3, 0), (38, .iload 6, 2, 0), (40, .aload 0, 1, 0), (41, .invokeinterface 7 8, 3, 37), (44, .arraylength, 1, 0), (45, .if_icmp .ge (.ofNat 58), 3, 0), (48, .iload 6, 2, 0), (50, .aload 0, 1, 0), (51, .invokeinterface 7 9, 3, 40), (54, .arraylength, 1, 0), (55, .if_icmp .lt (.ofNat 59), 3, 0), (58, .return_, 1, 0), (59, .aload 0, 1, 0), (60, .invokeinterface 7 5, 3, 26), (63, .iload 1, 1, 0), (64, .aload 0, 1, 0), (65, .invokeinterface 7 9, 3, 40), (68, .iload 6, 2, 0), (70, .iaload, 1, 0), (71, .aload 0, 1, 0), (72, .invokeinterface 7 1, 3, 50), (75, .iload 2, 1, 0), (76, .aload 0, 1, 0), (77, .invokeinterface 7 8, 3, 37), (80, .iload 6, 2, 0), (82, .iaload, 1, 0), (83, .invokevirtual 166, 3, 0), (86, .invokevirtual 133, 3, 0), (89, .iload 6, 2, 0), (91, .istore 5, 2, 0), (93, .iinc 5 1, 3, 0), (96, .goto (.ofNat 3), 3, 0), (99, .return_, 1, 0)]
def mX7_putProduct : zM := (cX7_putProduct, tX7_putProduct, RX7, wsX7_putProduct, { frames := 2, cells := 0, slots := 0, locals := 48 })
theorem kX7_putProduct : mX7_putProduct.2.1.all (fun r => zok mX7_putProduct r && zrt none r.2.1) = true := by decide +kernel
def tX7_rankOfJoins : List (Nat × Instr × Nat × Nat) := [(0, .iload 3, 1, 0), (1, .iconst (1), 1, 0), (2, .iload 1, 1, 0), (3, .ishl, 1, 0), (4, .iadd, 1, 0), (5, .istore 4, 2, 0), (7, .iconst (0), 1, 0), (8, .istore 5, 2, 0), (10, .iload 2, 1, 0), (11, .ifCond .lt (.ofNat 22), 3, 0), (14, .iload 2, 1, 0), (15, .iconst (1), 1, 0), (16, .iadd, 1, 0), (17, .iconst (6), 2, 0), (19, .if_icmp .lt (.ofNat 25), 3, 0), (22, .iload 5, 2, 0), (24, .ireturn, 1, 0), (25, .aload 0, 1, 0), (26, .invokeinterface 7 3, 3, 11), (29, .iload 2, 1, 0), (30, .iconst (1), 1, 0), (31, .iadd, 1, 0), (32, .aaload, 1, 0), (33, .astore 6, 2, 0), (35, .iconst (0), 1, 0), (36, .istore 7, 2, 0), (38, .iload 7, 2, 0), (40, .aload 6, 2, 0), (42, .invokevirtual 72, 3, 0), (45, .if_icmp .ge (.ofNat 147), 3, 0), (48, .aload 6, 2, 0), (50, .iload 7, 2, 0), (52, .invokevirtual 76, 3, 0), (55, .iload 4, 2, 0), (57, .if_icmp .ne (.ofNat 141), 3, 0), (60, .aload 0, 1, 0), (61, .invokeinterface 7 3, 3, 11), (64, .iload 2, 1, 0), (65, .aaload, 1, 0), (66, .aload 6, 2, 0), (68, .invokevirtual 79, 3, 0), (71, .iload 7, 2, 0), (73, .iload 3, 1, 0), (74, .iload 4, 2, 0), (76, .invokestatic 83, 3, 0), (79, .istore 8, 2, 0), (81, .iconst (0), 1, 0), (82, .istore 9, 2, 0), (84, .iload 9, 2, 0), (86, .iload 5, 2, 0), (88, .if_icmp .ge (.ofNat 114), 3, 0), (91, .iload 8, 2, 0), (93, .iload 8, 2, 0), (95, .aload 0, 1, 0), (96, .invokeinterface 7 10, 3, 43), (99, .iload 9, 2, 0), (101, .iaload, 1, 0), (102, .ixor, 1, 0), (103, .invokestatic 87, 3, 0), (106, .istore 8, 2, 0), (108, .iinc 9 1, 3, 0), (111, .goto (.ofNat 84), 3, 0), (114, .iload 8, 2, 0), (116, .ifCond .eq (.ofNat 141), 3, 0), (119, .iload 5, 2, 0), (121, .aload 0, 1, 0), (122, .invokeinterface 7 10, 3, 43), (125, .arraylength, 1, 0), (126, .if_icmp .ge (.ofNat 141), 3, 0), (129, .aload 0, 1, 0), (130, .invokeinterface 7 10, 3, 43), (133, .iload 5, 2, 0), (135, .iload 8, 2, 0), (137, .iastore, 1, 0), (138, .iinc 5 1, 3, 0), (141, .iinc 7 1, 3, 0), (144, .goto (.ofNat 38), 3, 0), (147, .iload 5, 2, 0), (149, .ireturn, 1, 0)]
def mX7_rankOfJoins : zM := (cX7_rankOfJoins, tX7_rankOfJoins, RX7, wsX7_rankOfJoins, { frames := 3, cells := 0, slots := 0, locals := 72 })
theorem kX7_rankOfJoins : mX7_rankOfJoins.2.1.all (fun r => zok mX7_rankOfJoins r && zrt (some .int) r.2.1) = true := by decide +kernel
def tX7_reduce : List (Nat × Instr × Nat × Nat) := [(0, .iconst (0), 1, 0), (1, .istore 2, 1, 0), (2, .iconst (0), 1, 0), (3, .istore 3, 1, 0), (4, .iload 3, 1, 0), (5, .aload 0, 1, 0), (6, .invokeinterface 7 7, 3, 33), (9, .arraylength, 1, 0), (10, .if_icmp .gt (.ofNat 79), 3, 0), (13, .aload 0, 1, 0), (14, .invokeinterface 7 5, 3, 26), (17, .iload 1, 1, 0), (18, .iload 2, 1, 0), (19, .invokevirtual 163, 3, 0), (22, .istore 2, 1, 0), (23, .iload 2, 1, 0), (24, .ifCond .lt (.ofNat 36), 3, 0), (27, .iload 2, 1, 0), (28, .aload 0, 1, 0), (29, .invokeinterface 7 7, 3, 33), (32, .arraylength, 1, 0), (33, .if_icmp .lt (.ofNat 38), 3, 0), (36, .iconst (-1), 1, 0), (37, .ireturn, 1, 0), (38, .aload 0, 1, 0), (39, .invokeinterface 7 7, 3, 33), (42, .iload 2, 1, 0), (43, .iaload, 1, 0), (44, .istore 4, 2, 0), (46, .iload 4, 2, 0), (48, .ifCond .ge (.ofNat 53), 3, 0), (51, .iload 2, 1, 0), (52, .ireturn, 1, 0), (53, .aload 0, 1, 0), (54, .invokeinterface 7 5, 3, 26), (57, .iload 1, 1, 0), (58, .iload 4, 2, 0), (60, .invokevirtual 194, 3, 0), (63, .aload 0, 1, 0), (64, .invokeinterface 7 6, 3, 30), (67, .iload 1, 1, 0), (68, .iload 4, 2, 0), (70, .invokevirtual 194, 3, 0), (73, .iinc 3 1, 3, 0), (76, .goto (.ofNat 4), 3, 0), (79, .iconst (-1), 1, 0), (80, .ireturn, 1, 0)]
def mX7_reduce : zM := (cX7_reduce, tX7_reduce, RX7, wsX7_reduce, { frames := 2, cells := 0, slots := 0, locals := 48 })
theorem kX7_reduce : mX7_reduce.2.1.all (fun r => zok mX7_reduce r && zrt (some .int) r.2.1) = true := by decide +kernel
def tX7_restart : List (Nat × Instr × Nat × Nat) := [(0, .aload 0, 1, 0), (1, .iconst (0), 1, 0), (2, .multianewarray 7 11, 3, 61), (5, .return_, 1, 0)]
def mX7_restart : zM := (cX7_restart, tX7_restart, RX7, wsX7_restart, { frames := 0, cells := 0, slots := 0, locals := 0 })
theorem kX7_restart : mX7_restart.2.1.all (fun r => zok mX7_restart r && zrt none r.2.1) = true := by decide +kernel
def tX7_turnByTurn : List (Nat × Instr × Nat × Nat) := [(0, .iconst (0), 1, 0), (1, .istore 2, 1, 0), (2, .iconst (0), 1, 0), (3, .istore 3, 1, 0), (4, .iload 3, 1, 0), (5, .iconst (6), 2, 0), (7, .if_icmp .ge (.ofNat 49), 3, 0), (10, .iload 2, 1, 0), (11, .iload 3, 1, 0), (12, .iconst (2), 1, 0), (13, .irem, 1, 0), (14, .ifCond .ne (.ofNat 30), 3, 0), (17, .aload 0, 1, 0), (18, .invokeinterface 7 3, 3, 11), (21, .iload 3, 1, 0), (22, .aaload, 1, 0), (23, .iload 1, 1, 0), (24, .invokevirtual 69, 3, 0), (27, .goto (.ofNat 41), 3, 0), (30, .aload 0, 1, 0), (31, .invokeinterface 7 3, 3, 11), (34, .iload 3, 1, 0), (35, .aaload, 1, 0), (36, .iload 1, 1, 0), (37, .invokevirtual 69, 3, 0), (40, .ineg, 1, 0), (41, .iadd, 1, 0), (42, .istore 2, 1, 0), (43, .iinc 3 1, 3, 0), (46, .goto (.ofNat 4), 3, 0), (49, .iload 2, 1, 0), (50, .ireturn, 1, 0)]
def mX7_turnByTurn : zM := (cX7_turnByTurn, tX7_turnByTurn, RX7, wsX7_turnByTurn, { frames := 3, cells := 0, slots := 0, locals := 66 })
theorem kX7_turnByTurn : mX7_turnByTurn.2.1.all (fun r => zok mX7_turnByTurn r && zrt (some .int) r.2.1) = true := by decide +kernel
def tX8_about : List (Nat × Instr × Nat × Nat) := [(0, .aload 0, 1, 0), (1, .invokeinterface 8 4, 3, 40), (4, .iload 1, 1, 0), (5, .invokevirtual 118, 3, 0), (8, .ifCond .eq (.ofNat 21), 3, 0), (11, .iload 2, 1, 0), (12, .ifCond .lt (.ofNat 21), 3, 0), (15, .iload 2, 1, 0), (16, .iconst (12), 2, 0), (18, .if_icmp .le (.ofNat 23), 3, 0), (21, .iconst (-1), 1, 0), (22, .ireturn, 1, 0), (23, .iload 2, 1, 0), (24, .ifCond .ne (.ofNat 38), 3, 0), (27, .aload 0, 1, 0), (28, .invokeinterface 8 4, 3, 40), (31, .iload 1, 1, 0), (32, .invokevirtual 122, 3, 0), (35, .goto (.ofNat 47), 3, 0), (38, .aload 0, 1, 0), (39, .invokeinterface 8 4, 3, 40), (42, .iload 2, 1, 0), (43, .iload 1, 1, 0), (44, .invokevirtual 128, 3, 0), (47, .ireturn, 1, 0)]
def mX8_about : zM := (cX8_about, tX8_about, RX8, wsX8_about, { frames := 2, cells := 0, slots := 0, locals := 42 })
theorem kX8_about : mX8_about.2.1.all (fun r => zok mX8_about r && zrt (some .int) r.2.1) = true := by decide +kernel
def tX8_act : List (Nat × Instr × Nat × Nat) := [(0, .iload 1, 1, 0), (1, .iconst (1), 1, 0), (2, .if_icmp .lt (.ofNat 22), 3, 0), (5, .iload 1, 1, 0), (6, .iconst (12), 2, 0), (8, .if_icmp .gt (.ofNat 22), 3, 0), (11, .aload 0, 1, 0), (12, .invokeinterface 8 4, 3, 40), (15, .iload 2, 1, 0), (16, .invokevirtual 118, 3, 0), (19, .ifCond .ne (.ofNat 24), 3, 0), (22, .iconst (-1), 1, 0), (23, .ireturn, 1, 0), (24, .aload 0, 1, 0), (25, .invokeinterface 8 4, 3, 40), (28, .aload 0, 1, 0), (29, .invokeinterface 8 4, 3, 40), (32, .iload 2, 1, 0), (33, .invokevirtual 122, 3, 0), (36, .iload 1, 1, 0), (37, .iadd, 1, 0), (38, .invokevirtual 125, 3, 0), (41, .istore 4, 2, 0), (43, .iload 3, 1, 0), (44, .iload 4, 2, 0), (46, .iconst (-1), 1, 0), (47, .ixor, 1, 0), (48, .iand, 1, 0), (49, .ifCond .eq (.ofNat 54), 3, 0), (52, .iconst (-1), 1, 0), (53, .ireturn, 1, 0), (54, .aload 0, 1, 0), (55, .invokeinterface 8 4, 3, 40), (58, .iload 1, 1, 0), (59, .iload 2, 1, 0), (60, .invokevirtual 128, 3, 0), (63, .istore 5, 2, 0), (65, .aload 0, 1, 0), (66, .invokeinterface 8 4, 3, 40), (69, .iload 1, 1, 0), (70, .iload 2, 1, 0), (71, .iload 3, 1, 0), (72, .invokevirtual 131, 3, 0), (75, .aload 0, 1, 0), (76, .invokevirtual 112, 3, 0), (79, .iload 5, 2, 0), (81, .ireturn, 1, 0)]
def mX8_act : zM := (cX8_act, tX8_act, RX8, wsX8_act, { frames := 3, cells := 0, slots := 0, locals := 65 })
theorem kX8_act : mX8_act.2.1.all (fun r => zok mX8_act r && zrt (some .int) r.2.1) = true := by decide +kernel
def tX8_balance : List (Nat × Instr × Nat × Nat) := [(0, .iload 1, 1, 0), (1, .ifCond .lt (.ofNat 10), 3, 0), (4, .iload 1, 1, 0), (5, .iconst (14), 2, 0), (7, .if_icmp .le (.ofNat 13), 3, 0), (10, .iconst (-1000000), 2, 170), (12, .ireturn, 1, 0), (13, .aload 0, 1, 0), (14, .invokeinterface 8 4, 3, 40), (17, .invokevirtual 156, 3, 0), (20, .ifCond .ne (.ofNat 26), 3, 0), (23, .iconst (-2000000), 2, 171), (25, .ireturn, 1, 0), (26, .aload 0, 1, 0), (27, .invokeinterface 8 5, 3, 49), (30, .iload 1, 1, 0), (31, .invokevirtual 160, 3, 0), (34, .aload 0, 1, 0), (35, .invokeinterface 8 5, 3, 49), (38, .iload 1, 1, 0), (39, .invokevirtual 172, 3, 0), (42, .aload 0, 1, 0), (43, .invokeinterface 8 4, 3, 40), (46, .iload 1, 1, 0), (47, .invokevirtual 125, 3, 0), (50, .invokestatic 78, 3, 0), (53, .isub, 1, 0), (54, .ireturn, 1, 0)]
def mX8_balance : zM := (cX8_balance, tX8_balance, RX8, wsX8_balance, { frames := 7, cells := 0, slots := 0, locals := 177 })
theorem kX8_balance : mX8_balance.2.1.all (fun r => zok mX8_balance r && zrt (some .int) r.2.1) = true := by decide +kernel
def tX8_clear : List (Nat × Instr × Nat × Nat) := [(0, .aload 0, 1, 0), (1, .invokeinterface 8 8, 3, 64), (4, .istore 1, 1, 0), (5, .aload 0, 1, 0), (6, .iconst (0), 1, 0), (7, .multianewarray 8 8, 3, 64), (10, .aload 0, 1, 0), (11, .iconst (0), 1, 0), (12, .multianewarray 8 9, 3, 68), (15, .iload 1, 1, 0), (16, .ireturn, 1, 0)]
def mX8_clear : zM := (cX8_clear, tX8_clear, RX8, wsX8_clear, { frames := 0, cells := 0, slots := 0, locals := 0 })
theorem kX8_clear : mX8_clear.2.1.all (fun r => zok mX8_clear r && zrt (some .int) r.2.1) = true := by decide +kernel
def tX8_count : List (Nat × Instr × Nat × Nat) := [(0, .iload 1, 1, 0), (1, .ifCond .ne (.ofNat 9), 3, 0), (4, .aload 0, 1, 0), (5, .invokeinterface 8 8, 3, 64), (8, .ireturn, 1, 0), (9, .iload 1, 1, 0), (10, .iconst (1), 1, 0), (11, .if_icmp .ne (.ofNat 19), 3, 0), (14, .aload 0, 1, 0), (15, .invokeinterface 8 9, 3, 68), (18, .ireturn, 1, 0), (19, .iload 1, 1, 0), (20, .iconst (2), 1, 0), (21, .if_icmp .ne (.ofNat 32), 3, 0), (24, .aload 0, 1, 0), (25, .invokeinterface 8 4, 3, 40), (28, .invokevirtual 107, 3, 0), (31, .ireturn, 1, 0), (32, .iload 1, 1, 0), (33, .iconst (3), 1, 0), (34, .if_icmp .ne (.ofNat 47), 3, 0), (37, .aload 0, 1, 0), (38, .invokeinterface 8 6, 3, 56), (41, .invokevirtual 186, 3, 0), (44, .goto (.ofNat 48), 3, 0), (47, .iconst (-1), 1, 0), (48, .ireturn, 1, 0)]
def mX8_count : zM := (cX8_count, tX8_count, RX8, wsX8_count, { frames := 3, cells := 0, slots := 0, locals := 64 })
theorem kX8_count : mX8_count.2.1.all (fun r => zok mX8_count r && zrt (some .int) r.2.1) = true := by decide +kernel
def tX8_differ : List (Nat × Instr × Nat × Nat) := [(0, .iload 1, 1, 0), (1, .iconst (2), 1, 0), (2, .if_icmp .lt (.ofNat 23), 3, 0), (5, .iload 1, 1, 0), (6, .iconst (4), 1, 0), (7, .if_icmp .gt (.ofNat 23), 3, 0), (10, .iload 4, 2, 0), (12, .iconst (1), 1, 0), (13, .if_icmp .lt (.ofNat 23), 3, 0), (16, .iload 4, 2, 0), (18, .iconst (99), 2, 0), (20, .if_icmp .le (.ofNat 25), 3, 0), (23, .iconst (-1), 1, 0), (24, .ireturn, 1, 0), (25, .iload 2, 1, 0), (26, .iload 3, 1, 0), (27, .invokestatic 152, 3, 0), (30, .ifCond .eq (.ofNat 47), 3, 0), (33, .iload 2, 1, 0), (34, .iload 1, 1, 0), (35, .iadd, 1, 0), (36, .iload 3, 1, 0), (37, .iload 1, 1, 0), (38, .iadd, 1, 0), (39, .iconst (1), 1, 0), (40, .isub, 1, 0), (41, .invokestatic 152, 3, 0), (44, .ifCond .ne (.ofNat 49), 3, 0), (47, .iconst (-1), 1, 0), (48, .ireturn, 1, 0), (49, .aload 0, 1, 0), (50, .invokeinterface 8 4, 3, 40), (53, .invokevirtual 156, 3, 0), (56, .ifCond .ne (.ofNat 62), 3, 0), (59, .iconst (-2), 2, 0), (61, .ireturn, 1, 0), (62, .aload 0, 1, 0), (63, .invokeinterface 8 5, 3, 49), (66, .iload 3, 1, 0), (67, .iload 1, 1, 0), (68, .iadd, 1, 0), (69, .iconst (1), 1, 0), (70, .isub, 1, 0), (71, .invokevirtual 160, 3, 0), (74, .aload 0, 1, 0), (75, .iload 1, 1, 0), (76, .iload 2, 1, 0), (77, .iload 3, 1, 0), (78, .iload 4, 2, 0), (80, .invokevirtual 175, 3, 0), (83, .ifCond .ne (.ofNat 89), 3, 0), (86, .iconst (-2), 2, 0), (88, .ireturn, 1, 0), (89, .aload 0, 1, 0), (90, .invokeinterface 8 6, 3, 56), (93, .iload 1, 1, 0), (94, .iload 2, 1, 0), (95, .iload 3, 1, 0), (96, .iload 4, 2, 0), (98, .invokevirtual 179, 3, 0), (101, .iconst (1), 1, 0), (102, .ireturn, 1, 0)]
def mX8_differ : zM := (cX8_differ, tX8_differ, RX8, wsX8_differ, { frames := 7, cells := 0, slots := 0, locals := 177 })
theorem kX8_differ : mX8_differ.2.1.all (fun r => zok mX8_differ r && zrt (some .int) r.2.1) = true := by decide +kernel
def tX8_does : List (Nat × Instr × Nat × Nat) := [(0, .aload 0, 1, 0), (1, .invokeinterface 8 4, 3, 40), (4, .iload 1, 1, 0), (5, .invokevirtual 118, 3, 0), (8, .ifCond .ne (.ofNat 13), 3, 0), (11, .iconst (-1), 1, 0), (12, .ireturn, 1, 0), (13, .iconst (1), 1, 0), (14, .iload 1, 1, 0), (15, .ishl, 1, 0), (16, .istore 2, 1, 0), (17, .aload 0, 1, 0), (18, .invokeinterface 8 8, 3, 64), (21, .aload 0, 1, 0), (22, .invokeinterface 8 7, 3, 60), (25, .arraylength, 1, 0), (26, .invokestatic 97, 3, 0), (29, .iconst (1), 1, 0), (30, .isub, 1, 0), (31, .istore 3, 1, 0), (32, .iload 3, 1, 0), (33, .ifCond .lt (.ofNat 57), 3, 0), (36, .aload 0, 1, 0), (37, .invokeinterface 8 4, 3, 40), (40, .aload 0, 1, 0), (41, .invokeinterface 8 7, 3, 60), (44, .iload 3, 1, 0), (45, .iaload, 1, 0), (46, .iload 2, 1, 0), (47, .invokevirtual 142, 3, 0), (50, .istore 2, 1, 0), (51, .iinc 3 (-1), 3, 0), (54, .goto (.ofNat 32), 3, 0), (57, .iload 2, 1, 0), (58, .ireturn, 1, 0)]
def mX8_does : zM := (cX8_does, tX8_does, RX8, wsX8_does, { frames := 2, cells := 0, slots := 0, locals := 47 })
theorem kX8_does : mX8_does.2.1.all (fun r => zok mX8_does r && zrt (some .int) r.2.1) = true := by decide +kernel
def tX8_element : List (Nat × Instr × Nat × Nat) := [(0, .iload 1, 1, 0), (1, .ifCond .lt (.ofNat 10), 3, 0), (4, .iload 1, 1, 0), (5, .iconst (12), 2, 0), (7, .if_icmp .le (.ofNat 12), 3, 0), (10, .iconst (-1), 1, 0), (11, .ireturn, 1, 0), (12, .aload 0, 1, 0), (13, .invokeinterface 8 4, 3, 40), (16, .invokevirtual 107, 3, 0), (19, .iconst (12), 2, 0), (21, .if_icmp .lt (.ofNat 27), 3, 0), (24, .iconst (-3), 2, 0), (26, .ireturn, 1, 0), (27, .aload 0, 1, 0), (28, .invokevirtual 112, 3, 0), (31, .aload 0, 1, 0), (32, .invokeinterface 8 4, 3, 40), (35, .iload 1, 1, 0), (36, .invokevirtual 115, 3, 0), (39, .ireturn, 1, 0)]
def mX8_element : zM := (cX8_element, tX8_element, RX8, wsX8_element, { frames := 3, cells := 0, slots := 0, locals := 63 })
theorem kX8_element : mX8_element.2.1.all (fun r => zok mX8_element r && zrt (some .int) r.2.1) = true := by decide +kernel
def tX8_empty : List (Nat × Instr × Nat × Nat) := [(0, .aload 0, 1, 0), (1, .invokeinterface 8 4, 3, 40), (4, .invokevirtual 107, 3, 0), (7, .istore 1, 1, 0), (8, .aload 0, 1, 0), (9, .invokeinterface 8 4, 3, 40), (12, .invokevirtual 109, 3, 0), (15, .aload 0, 1, 0), (16, .invokevirtual 112, 3, 0), (19, .iload 1, 1, 0), (20, .ireturn, 1, 0)]
def mX8_empty : zM := (cX8_empty, tX8_empty, RX8, wsX8_empty, { frames := 3, cells := 0, slots := 0, locals := 63 })
theorem kX8_empty : mX8_empty.2.1.all (fun r => zok mX8_empty r && zrt (some .int) r.2.1) = true := by decide +kernel
def tX8_fault : List (Nat × Instr × Nat × Nat) := [(0, .iload 1, 1, 0), (1, .ifCond .lt (.ofNat 9), 3, 0), (4, .iload 1, 1, 0), (5, .iconst (2), 1, 0), (6, .if_icmp .le (.ofNat 11), 3, 0), (9, .iconst (-1), 1, 0), (10, .ireturn, 1, 0), (11, .aload 0, 1, 0), (12, .invokeinterface 8 4, 3, 40), (15, .iload 1, 1, 0), (16, .invokevirtual 145, 3, 0), (19, .ireturn, 1, 0)]
def mX8_fault : zM := (cX8_fault, tX8_fault, RX8, wsX8_fault, { frames := 5, cells := 0, slots := 0, locals := 116 })
theorem kX8_fault : mX8_fault.2.1.all (fun r => zok mX8_fault r && zrt (some .int) r.2.1) = true := by decide +kernel
def tX8_init : List (Nat × Instr × Nat × Nat) := [(0, .aload 0, 1, 0), (1, .invokespecial 3, 3, 0), (7, .dup, 1, 0), (8, .iconst (1), 1, 0), (9, .iconst (1), 1, 0), (10, .iconst (1), 1, 0), (11, .invokespecial 11, 3, 0), (14, .astore 1, 1, 0), (18, .dup, 1, 0), (19, .iconst (3), 1, 0), (20, .iconst (7), 2, 0), (22, .iconst (0), 1, 0), (23, .invokespecial 11, 3, 0), (26, .astore 2, 1, 0), (30, .dup, 1, 0), (31, .aload 1, 1, 0), (32, .invokespecial 16, 3, 0), (35, .astore 3, 1, 0), (39, .dup, 1, 0), (40, .invokespecial 21, 3, 0), (43, .astore 4, 2, 0), (45, .aload 0, 1, 0), (46, .aload 1, 1, 0), (50, .aload 0, 1, 0), (51, .aload 2, 1, 0), (55, .aload 0, 1, 0), (56, .aload 3, 1, 0), (60, .aload 0, 1, 0), (64, .dup, 1, 0), (65, .aload 2, 1, 0), (66, .invokespecial 35, 3, 0), (72, .aload 0, 1, 0), (73, .aload 4, 2, 0), (78, .aload 0, 1, 0), (82, .dup, 1, 0), (83, .aload 1, 1, 0), (84, .aload 3, 1, 0), (85, .aload 4, 2, 0), (87, .invokespecial 46, 3, 0), (93, .aload 0, 1, 0), (97, .dup, 1, 0), (98, .invokespecial 55, 3, 0), (104, .aload 0, 1, 0), (105, .iconst (6), 2, 0), (112, .aload 0, 1, 0), (113, .iconst (0), 1, 0), (114, .multianewarray 8 8, 3, 64), (117, .aload 0, 1, 0), (118, .iconst (0), 1, 0), (119, .multianewarray 8 9, 3, 68), (122, .return_, 1, 0)]
def mX8_init : zM := (cX8_init, tX8_init, RX8, wsX8_init, { frames := 7, cells := 0, slots := 0, locals := 162 })
theorem kX8_init : mX8_init.2.1.all (fun r => zok mX8_init r && zrt none r.2.1) = true := by decide +kernel
def tX8_isInChart : List (Nat × Instr × Nat × Nat) := [(0, .iload 0, 1, 0), (1, .ifCond .lt (.ofNat 23), 3, 0), (4, .iload 0, 1, 0), (5, .iconst (5), 1, 0), (6, .if_icmp .gt (.ofNat 23), 3, 0), (9, .iload 1, 1, 0), (10, .ifCond .lt (.ofNat 23), 3, 0), (13, .iload 1, 1, 0), (14, .iconst (14), 2, 0), (16, .if_icmp .gt (.ofNat 23), 3, 0), (19, .iconst (1), 1, 0), (20, .goto (.ofNat 24), 3, 0), (23, .iconst (0), 1, 0), (24, .dreturn, 1, 0)]
def mX8_isInChart : zM := (cX8_isInChart, tX8_isInChart, RX8, wsX8_isInChart, { frames := 0, cells := 0, slots := 0, locals := 0 })
theorem kX8_isInChart : mX8_isInChart.2.1.all (fun r => zok mX8_isInChart r && zrt (some .boolean) r.2.1) = true := by decide +kernel
def tX8_isName : List (Nat × Instr × Nat × Nat) := [(0, .iload 0, 1, 0), (1, .ifCond .ne (.ofNat 20), 3, 0), (4, .iload 2, 1, 0), (5, .ifCond .lt (.ofNat 18), 3, 0), (8, .iload 2, 1, 0), (9, .iconst (12), 2, 0), (11, .if_icmp .gt (.ofNat 18), 3, 0), (14, .iconst (1), 1, 0), (15, .goto (.ofNat 19), 3, 0), (18, .iconst (0), 1, 0), (19, .dreturn, 1, 0), (20, .iload 0, 1, 0), (21, .iconst (1), 1, 0), (22, .if_icmp .ne (.ofNat 47), 3, 0), (25, .iload 1, 1, 0), (26, .iconst (1), 1, 0), (27, .if_icmp .lt (.ofNat 45), 3, 0), (30, .iload 1, 1, 0), (31, .iload 2, 1, 0), (32, .if_icmp .gt (.ofNat 45), 3, 0), (35, .iload 2, 1, 0), (36, .iconst (12), 2, 0), (38, .if_icmp .gt (.ofNat 45), 3, 0), (41, .iconst (1), 1, 0), (42, .goto (.ofNat 46), 3, 0), (45, .iconst (0), 1, 0), (46, .dreturn, 1, 0), (47, .iload 0, 1, 0), (48, .iconst (2), 1, 0), (49, .if_icmp .ne (.ofNat 71), 3, 0), (52, .iload 1, 1, 0), (53, .ifCond .lt (.ofNat 71), 3, 0), (56, .iload 1, 1, 0), (57, .iload 2, 1, 0), (58, .if_icmp .gt (.ofNat 71), 3, 0), (61, .iload 2, 1, 0), (62, .iconst (6), 2, 0), (64, .if_icmp .gt (.ofNat 71), 3, 0), (67, .iconst (1), 1, 0), (68, .goto (.ofNat 72), 3, 0), (71, .iconst (0), 1, 0), (72, .dreturn, 1, 0)]
def mX8_isName : zM := (cX8_isName, tX8_isName, RX8, wsX8_isName, { frames := 0, cells := 0, slots := 0, locals := 0 })
theorem kX8_isName : mX8_isName.2.1.all (fun r => zok mX8_isName r && zrt (some .boolean) r.2.1) = true := by decide +kernel
def tX8_isOdd : List (Nat × Instr × Nat × Nat) := [(0, .iload 1, 1, 0), (1, .ifCond .lt (.ofNat 19), 3, 0), (4, .iload 0, 1, 0), (5, .ifCond .lt (.ofNat 19), 3, 0), (8, .iload 0, 1, 0), (9, .iload 1, 1, 0), (10, .iand, 1, 0), (11, .iload 1, 1, 0), (12, .if_icmp .ne (.ofNat 19), 3, 0), (15, .iconst (1), 1, 0), (16, .goto (.ofNat 20), 3, 0), (19, .iconst (0), 1, 0), (20, .dreturn, 1, 0)]
def mX8_isOdd : zM := (cX8_isOdd, tX8_isOdd, RX8, wsX8_isOdd, { frames := 0, cells := 0, slots := 0, locals := 0 })
theorem kX8_isOdd : mX8_isOdd.2.1.all (fun r => zok mX8_isOdd r && zrt (some .boolean) r.2.1) = true := by decide +kernel
def tX8_joins : List (Nat × Instr × Nat × Nat) := [(0, .iload 1, 1, 0), (1, .ifCond .lt (.ofNat 32), 3, 0), (4, .iload 1, 1, 0), (5, .iconst (3), 1, 0), (6, .if_icmp .gt (.ofNat 32), 3, 0), (9, .iload 2, 1, 0), (10, .ifCond .lt (.ofNat 32), 3, 0), (13, .iload 2, 1, 0), (14, .iconst (5), 1, 0), (15, .if_icmp .ge (.ofNat 32), 3, 0), (18, .iload 3, 1, 0), (19, .ifCond .lt (.ofNat 32), 3, 0), (22, .iload 3, 1, 0), (23, .iconst (14), 2, 0), (25, .iconst (1), 1, 0), (26, .iload 1, 1, 0), (27, .ishl, 1, 0), (28, .isub, 1, 0), (29, .if_icmp .le (.ofNat 34), 3, 0), (32, .iconst (-1), 1, 0), (33, .ireturn, 1, 0), (34, .aload 0, 1, 0), (35, .invokeinterface 8 4, 3, 40), (38, .invokevirtual 156, 3, 0), (41, .ifCond .ne (.ofNat 47), 3, 0), (44, .iconst (-2), 2, 0), (46, .ireturn, 1, 0), (47, .aload 0, 1, 0), (48, .invokeinterface 8 5, 3, 49), (51, .iload 3, 1, 0), (52, .iconst (1), 1, 0), (53, .iload 1, 1, 0), (54, .ishl, 1, 0), (55, .iadd, 1, 0), (56, .invokevirtual 160, 3, 0), (59, .aload 0, 1, 0), (60, .invokeinterface 8 5, 3, 49), (63, .iload 1, 1, 0), (64, .iload 2, 1, 0), (65, .iload 3, 1, 0), (66, .invokevirtual 167, 3, 0), (69, .ireturn, 1, 0)]
def mX8_joins : zM := (cX8_joins, tX8_joins, RX8, wsX8_joins, { frames := 7, cells := 0, slots := 0, locals := 177 })
theorem kX8_joins : mX8_joins.2.1.all (fun r => zok mX8_joins r && zrt (some .int) r.2.1) = true := by decide +kernel
def tX8_leftOnPage : List (Nat × Instr × Nat × Nat) := [(0, .aload 0, 1, 0), (1, .invokeinterface 8 5, 3, 49), (4, .iload 2, 1, 0), (5, .iload 3, 1, 0), (6, .invokevirtual 164, 3, 0), (9, .istore 4, 2, 0), (11, .iconst (2), 1, 0), (12, .istore 5, 2, 0), (14, .iload 5, 2, 0), (16, .iload 1, 1, 0), (17, .if_icmp .ge (.ofNat 42), 3, 0), (20, .iload 4, 2, 0), (22, .aload 0, 1, 0), (23, .invokeinterface 8 6, 3, 56), (26, .iload 5, 2, 0), (28, .iload 2, 1, 0), (29, .iload 3, 1, 0), (30, .invokevirtual 195, 3, 0), (33, .isub, 1, 0), (34, .istore 4, 2, 0), (36, .iinc 5 1, 3, 0), (39, .goto (.ofNat 14), 3, 0), (42, .iload 4, 2, 0), (44, .ireturn, 1, 0)]
def mX8_leftOnPage : zM := (cX8_leftOnPage, tX8_leftOnPage, RX8, wsX8_leftOnPage, { frames := 4, cells := 0, slots := 0, locals := 90 })
theorem kX8_leftOnPage : mX8_leftOnPage.2.1.all (fun r => zok mX8_leftOnPage r && zrt (some .int) r.2.1) = true := by decide +kernel
def tX8_live : List (Nat × Instr × Nat × Nat) := [(0, .iload 1, 1, 0), (1, .iload 2, 1, 0), (2, .invokestatic 152, 3, 0), (5, .ifCond .ne (.ofNat 10), 3, 0), (8, .iconst (-1), 1, 0), (9, .ireturn, 1, 0), (10, .aload 0, 1, 0), (11, .invokeinterface 8 4, 3, 40), (14, .invokevirtual 156, 3, 0), (17, .ifCond .ne (.ofNat 23), 3, 0), (20, .iconst (-2), 2, 0), (22, .ireturn, 1, 0), (23, .aload 0, 1, 0), (24, .invokeinterface 8 5, 3, 49), (27, .iload 2, 1, 0), (28, .invokevirtual 160, 3, 0), (31, .aload 0, 1, 0), (32, .invokeinterface 8 5, 3, 49), (35, .iload 1, 1, 0), (36, .iload 2, 1, 0), (37, .invokevirtual 164, 3, 0), (40, .ireturn, 1, 0)]
def mX8_live : zM := (cX8_live, tX8_live, RX8, wsX8_live, { frames := 7, cells := 0, slots := 0, locals := 177 })
theorem kX8_live : mX8_live.2.1.all (fun r => zok mX8_live r && zrt (some .int) r.2.1) = true := by decide +kernel
def tX8_many : List (Nat × Instr × Nat × Nat) := [(0, .iload 1, 1, 0), (1, .ifCond .lt (.ofNat 10), 3, 0), (4, .iload 1, 1, 0), (5, .iconst (14), 2, 0), (7, .if_icmp .le (.ofNat 12), 3, 0), (10, .iconst (-1), 1, 0), (11, .ireturn, 1, 0), (12, .aload 0, 1, 0), (13, .invokeinterface 8 0, 3, 22), (16, .iload 1, 1, 0), (17, .invokevirtual 94, 3, 0), (20, .ireturn, 1, 0)]
def mX8_many : zM := (cX8_many, tX8_many, RX8, wsX8_many, { frames := 1, cells := 0, slots := 0, locals := 21 })
theorem kX8_many : mX8_many.2.1.all (fun r => zok mX8_many r && zrt (some .int) r.2.1) = true := by decide +kernel
def tX8_mayBeTold : List (Nat × Instr × Nat × Nat) := [(0, .aload 0, 1, 0), (1, .invokeinterface 8 6, 3, 56), (4, .iload 1, 1, 0), (5, .iload 2, 1, 0), (6, .iload 3, 1, 0), (7, .invokevirtual 189, 3, 0), (10, .ifCond .ne (.ofNat 86), 3, 0), (13, .aload 0, 1, 0), (14, .invokeinterface 8 6, 3, 56), (17, .iload 1, 1, 0), (18, .invokevirtual 192, 3, 0), (21, .ifCond .ne (.ofNat 86), 3, 0), (24, .aload 0, 1, 0), (25, .invokeinterface 8 6, 3, 56), (28, .iload 1, 1, 0), (29, .iload 2, 1, 0), (30, .iload 3, 1, 0), (31, .invokevirtual 195, 3, 0), (34, .iload 4, 2, 0), (36, .iadd, 1, 0), (37, .aload 0, 1, 0), (38, .iload 1, 1, 0), (39, .iload 2, 1, 0), (40, .iload 3, 1, 0), (41, .invokevirtual 183, 3, 0), (44, .if_icmp .gt (.ofNat 86), 3, 0), (47, .aload 0, 1, 0), (48, .invokeinterface 8 6, 3, 56), (51, .iload 1, 1, 0), (52, .iload 2, 1, 0), (53, .iload 1, 1, 0), (54, .iadd, 1, 0), (55, .iload 3, 1, 0), (56, .iload 1, 1, 0), (57, .iadd, 1, 0), (58, .iconst (1), 1, 0), (59, .isub, 1, 0), (60, .invokevirtual 195, 3, 0), (63, .iload 4, 2, 0), (65, .iadd, 1, 0), (66, .aload 0, 1, 0), (67, .iload 1, 1, 0), (68, .iload 2, 1, 0), (69, .iload 1, 1, 0), (70, .iadd, 1, 0), (71, .iload 3, 1, 0), (72, .iload 1, 1, 0), (73, .iadd, 1, 0), (74, .iconst (1), 1, 0), (75, .isub, 1, 0), (76, .invokevirtual 183, 3, 0), (79, .if_icmp .gt (.ofNat 86), 3, 0), (82, .iconst (1), 1, 0), (83, .goto (.ofNat 87), 3, 0), (86, .iconst (0), 1, 0), (87, .dreturn, 1, 0)]
def mX8_mayBeTold : zM := (cX8_mayBeTold, tX8_mayBeTold, RX8, wsX8_mayBeTold, { frames := 5, cells := 0, slots := 0, locals := 115 })
theorem kX8_mayBeTold : mX8_mayBeTold.2.1.all (fun r => zok mX8_mayBeTold r && zrt (some .boolean) r.2.1) = true := by decide +kernel
def tX8_page : List (Nat × Instr × Nat × Nat) := [(0, .iload 1, 1, 0), (1, .iconst (2), 1, 0), (2, .if_icmp .lt (.ofNat 18), 3, 0), (5, .iload 1, 1, 0), (6, .iconst (5), 1, 0), (7, .if_icmp .gt (.ofNat 18), 3, 0), (10, .iload 2, 1, 0), (11, .iload 3, 1, 0), (12, .invokestatic 152, 3, 0), (15, .ifCond .ne (.ofNat 20), 3, 0), (18, .iconst (-1), 1, 0), (19, .ireturn, 1, 0), (20, .aload 0, 1, 0), (21, .invokeinterface 8 4, 3, 40), (24, .invokevirtual 156, 3, 0), (27, .ifCond .ne (.ofNat 33), 3, 0), (30, .iconst (-2), 2, 0), (32, .ireturn, 1, 0), (33, .aload 0, 1, 0), (34, .invokeinterface 8 5, 3, 49), (37, .iload 3, 1, 0), (38, .invokevirtual 160, 3, 0), (41, .aload 0, 1, 0), (42, .iload 1, 1, 0), (43, .iload 2, 1, 0), (44, .iload 3, 1, 0), (45, .invokevirtual 183, 3, 0), (48, .ireturn, 1, 0)]
def mX8_page : zM := (cX8_page, tX8_page, RX8, wsX8_page, { frames := 7, cells := 0, slots := 0, locals := 177 })
theorem kX8_page : mX8_page.2.1.all (fun r => zok mX8_page r && zrt (some .int) r.2.1) = true := by decide +kernel
def tX8_placeOfBit : List (Nat × Instr × Nat × Nat) := [(0, .iconst (0), 1, 0), (1, .istore 2, 1, 0), (2, .iconst (0), 1, 0), (3, .istore 3, 1, 0), (4, .iload 3, 1, 0), (5, .iconst (32), 2, 0), (7, .if_icmp .ge (.ofNat 34), 3, 0), (10, .iload 0, 1, 0), (11, .iload 3, 1, 0), (12, .ishr, 1, 0), (13, .iconst (1), 1, 0), (14, .iand, 1, 0), (15, .ifCond .eq (.ofNat 28), 3, 0), (18, .iload 2, 1, 0), (19, .iload 1, 1, 0), (20, .if_icmp .ne (.ofNat 25), 3, 0), (23, .iload 3, 1, 0), (24, .ireturn, 1, 0), (25, .iinc 2 1, 3, 0), (28, .iinc 3 1, 3, 0), (31, .goto (.ofNat 4), 3, 0), (34, .iconst (-1), 1, 0), (35, .ireturn, 1, 0)]
def mX8_placeOfBit : zM := (cX8_placeOfBit, tX8_placeOfBit, RX8, wsX8_placeOfBit, { frames := 0, cells := 0, slots := 0, locals := 0 })
theorem kX8_placeOfBit : mX8_placeOfBit.2.1.all (fun r => zok mX8_placeOfBit r && zrt (some .int) r.2.1) = true := by decide +kernel
def tX8_space : List (Nat × Instr × Nat × Nat) := [(0, .iload 1, 1, 0), (1, .iload 2, 1, 0), (2, .iload 3, 1, 0), (3, .invokestatic 135, 3, 0), (6, .ifCond .ne (.ofNat 11), 3, 0), (9, .iconst (-1), 1, 0), (10, .ireturn, 1, 0), (11, .aload 0, 1, 0), (12, .invokeinterface 8 4, 3, 40), (15, .iload 1, 1, 0), (16, .ifCond .ne (.ofNat 23), 3, 0), (19, .iload 3, 1, 0), (20, .goto (.ofNat 24), 3, 0), (23, .iload 2, 1, 0), (24, .iload 3, 1, 0), (25, .iload 1, 1, 0), (26, .iconst (2), 1, 0), (27, .if_icmp .ne (.ofNat 34), 3, 0), (30, .iconst (2), 1, 0), (31, .goto (.ofNat 35), 3, 0), (34, .iconst (1), 1, 0), (35, .invokevirtual 139, 3, 0), (38, .aload 0, 1, 0), (39, .invokevirtual 112, 3, 0), (42, .aload 0, 1, 0), (43, .invokeinterface 8 4, 3, 40), (46, .invokevirtual 107, 3, 0), (49, .ireturn, 1, 0)]
def mX8_space : zM := (cX8_space, tX8_space, RX8, wsX8_space, { frames := 3, cells := 0, slots := 0, locals := 69 })
theorem kX8_space : mX8_space.2.1.all (fun r => zok mX8_space r && zrt (some .int) r.2.1) = true := by decide +kernel
def tX8_spaceHasChanged : List (Nat × Instr × Nat × Nat) := [(0, .aload 0, 1, 0), (1, .invokeinterface 8 5, 3, 49), (4, .invokevirtual 148, 3, 0), (7, .aload 0, 1, 0), (8, .invokeinterface 8 6, 3, 56), (11, .invokevirtual 149, 3, 0), (14, .return_, 1, 0)]
def mX8_spaceHasChanged : zM := (cX8_spaceHasChanged, tX8_spaceHasChanged, RX8, wsX8_spaceHasChanged, { frames := 2, cells := 0, slots := 0, locals := 43 })
theorem kX8_spaceHasChanged : mX8_spaceHasChanged.2.1.all (fun r => zok mX8_spaceHasChanged r && zrt none r.2.1) = true := by decide +kernel
def tX8_square : List (Nat × Instr × Nat × Nat) := [(0, .iload 1, 1, 0), (1, .ifCond .lt (.ofNat 21), 3, 0), (4, .iload 1, 1, 0), (5, .iconst (14), 2, 0), (7, .if_icmp .gt (.ofNat 21), 3, 0), (10, .aload 0, 1, 0), (11, .invokeinterface 8 9, 3, 68), (14, .iload 1, 1, 0), (15, .iadd, 1, 0), (16, .iconst (14), 2, 0), (18, .if_icmp .le (.ofNat 23), 3, 0), (21, .iconst (-1), 1, 0), (22, .ireturn, 1, 0), (23, .aload 0, 1, 0), (24, .invokeinterface 8 8, 3, 64), (27, .aload 0, 1, 0), (28, .invokeinterface 8 7, 3, 60), (31, .arraylength, 1, 0), (32, .if_icmp .lt (.ofNat 38), 3, 0), (35, .iconst (-3), 2, 0), (37, .ireturn, 1, 0), (38, .aload 0, 1, 0), (39, .invokeinterface 8 7, 3, 60), (42, .aload 0, 1, 0), (43, .invokeinterface 8 8, 3, 64), (46, .iload 1, 1, 0), (47, .iastore, 1, 0), (48, .aload 0, 1, 0), (49, .dup, 1, 0), (50, .invokeinterface 8 8, 3, 64), (53, .iconst (1), 1, 0), (54, .iadd, 1, 0), (55, .multianewarray 8 8, 3, 64), (58, .aload 0, 1, 0), (59, .dup, 1, 0), (60, .invokeinterface 8 9, 3, 68), (63, .iload 1, 1, 0), (64, .iadd, 1, 0), (65, .multianewarray 8 9, 3, 68), (68, .aload 0, 1, 0), (69, .invokeinterface 8 8, 3, 64), (72, .ireturn, 1, 0)]
def mX8_square : zM := (cX8_square, tX8_square, RX8, wsX8_square, { frames := 0, cells := 0, slots := 0, locals := 0 })
theorem kX8_square : mX8_square.2.1.all (fun r => zok mX8_square r && zrt (some .int) r.2.1) = true := by decide +kernel
def tX8_sum : List (Nat × Instr × Nat × Nat) := [(0, .iload 1, 1, 0), (1, .ifCond .lt (.ofNat 9), 3, 0), (4, .iload 1, 1, 0), (5, .iconst (1), 1, 0), (6, .if_icmp .le (.ofNat 11), 3, 0), (9, .iconst (-1), 1, 0), (10, .ireturn, 1, 0), (11, .iload 1, 1, 0), (12, .ifCond .ne (.ofNat 22), 3, 0), (15, .aload 0, 1, 0), (16, .invokevirtual 71, 3, 0), (19, .goto (.ofNat 26), 3, 0), (22, .aload 0, 1, 0), (23, .invokevirtual 75, 3, 0), (26, .invokestatic 78, 3, 0), (29, .ireturn, 1, 0)]
def mX8_sum : zM := (cX8_sum, tX8_sum, RX8, wsX8_sum, { frames := 6, cells := 0, slots := 0, locals := 145 })
theorem kX8_sum : mX8_sum.2.1.all (fun r => zok mX8_sum r && zrt (some .int) r.2.1) = true := by decide +kernel
def tX8_sumOfAllowed : List (Nat × Instr × Nat × Nat) := [(0, .iconst (1), 1, 0), (1, .istore 1, 1, 0), (2, .iconst (0), 1, 0), (3, .istore 2, 1, 0), (4, .aload 0, 1, 0), (5, .invokeinterface 8 8, 3, 64), (8, .aload 0, 1, 0), (9, .invokeinterface 8 7, 3, 60), (12, .arraylength, 1, 0), (13, .invokestatic 97, 3, 0), (16, .iconst (1), 1, 0), (17, .isub, 1, 0), (18, .istore 3, 1, 0), (19, .iload 3, 1, 0), (20, .ifCond .lt (.ofNat 54), 3, 0), (23, .aload 0, 1, 0), (24, .invokeinterface 8 1, 3, 29), (27, .aload 0, 1, 0), (28, .invokeinterface 8 7, 3, 60), (31, .iload 3, 1, 0), (32, .iaload, 1, 0), (33, .iload 1, 1, 0), (34, .iload 2, 1, 0), (35, .invokevirtual 102, 3, 0), (38, .istore 1, 1, 0), (39, .iload 2, 1, 0), (40, .aload 0, 1, 0), (41, .invokeinterface 8 7, 3, 60), (44, .iload 3, 1, 0), (45, .iaload, 1, 0), (46, .iadd, 1, 0), (47, .istore 2, 1, 0), (48, .iinc 3 (-1), 3, 0), (51, .goto (.ofNat 19), 3, 0), (54, .iload 1, 1, 0), (55, .ireturn, 1, 0)]
def mX8_sumOfAllowed : zM := (cX8_sumOfAllowed, tX8_sumOfAllowed, RX8, wsX8_sumOfAllowed, { frames := 4, cells := 0, slots := 0, locals := 89 })
theorem kX8_sumOfAllowed : mX8_sumOfAllowed.2.1.all (fun r => zok mX8_sumOfAllowed r && zrt (some .int) r.2.1) = true := by decide +kernel
def tX8_sumOfRows : List (Nat × Instr × Nat × Nat) := [(0, .iconst (1), 1, 0), (1, .istore 1, 1, 0), (2, .iconst (0), 1, 0), (3, .istore 2, 1, 0), (4, .aload 0, 1, 0), (5, .invokeinterface 8 8, 3, 64), (8, .aload 0, 1, 0), (9, .invokeinterface 8 7, 3, 60), (12, .arraylength, 1, 0), (13, .invokestatic 97, 3, 0), (16, .iconst (1), 1, 0), (17, .isub, 1, 0), (18, .istore 3, 1, 0), (19, .iload 3, 1, 0), (20, .ifCond .lt (.ofNat 54), 3, 0), (23, .aload 0, 1, 0), (24, .invokeinterface 8 2, 3, 36), (27, .aload 0, 1, 0), (28, .invokeinterface 8 7, 3, 60), (31, .iload 3, 1, 0), (32, .iaload, 1, 0), (33, .iload 1, 1, 0), (34, .iload 2, 1, 0), (35, .invokevirtual 106, 3, 0), (38, .istore 1, 1, 0), (39, .iload 2, 1, 0), (40, .aload 0, 1, 0), (41, .invokeinterface 8 7, 3, 60), (44, .iload 3, 1, 0), (45, .iaload, 1, 0), (46, .iadd, 1, 0), (47, .istore 2, 1, 0), (48, .iinc 3 (-1), 3, 0), (51, .goto (.ofNat 19), 3, 0), (54, .iload 1, 1, 0), (55, .ireturn, 1, 0)]
def mX8_sumOfRows : zM := (cX8_sumOfRows, tX8_sumOfRows, RX8, wsX8_sumOfRows, { frames := 5, cells := 0, slots := 0, locals := 122 })
theorem kX8_sumOfRows : mX8_sumOfRows.2.1.all (fun r => zok mX8_sumOfRows r && zrt (some .int) r.2.1) = true := by decide +kernel
def tX8_term : List (Nat × Instr × Nat × Nat) := [(0, .iload 1, 1, 0), (1, .ifCond .lt (.ofNat 23), 3, 0), (4, .iload 1, 1, 0), (5, .iconst (1), 1, 0), (6, .if_icmp .gt (.ofNat 23), 3, 0), (9, .iload 3, 1, 0), (10, .ifCond .lt (.ofNat 23), 3, 0), (13, .iload 1, 1, 0), (14, .iconst (1), 1, 0), (15, .if_icmp .ne (.ofNat 25), 3, 0), (18, .iload 3, 1, 0), (19, .iconst (4), 1, 0), (20, .if_icmp .lt (.ofNat 25), 3, 0), (23, .iconst (-1), 1, 0), (24, .ireturn, 1, 0), (25, .iload 1, 1, 0), (26, .ifCond .ne (.ofNat 36), 3, 0), (29, .aload 0, 1, 0), (30, .invokevirtual 71, 3, 0), (33, .goto (.ofNat 40), 3, 0), (36, .aload 0, 1, 0), (37, .invokevirtual 75, 3, 0), (40, .iload 2, 1, 0), (41, .invokestatic 84, 3, 0), (44, .istore 4, 2, 0), (46, .iload 4, 2, 0), (48, .ifCond .ge (.ofNat 53), 3, 0), (51, .iconst (-1), 1, 0), (52, .ireturn, 1, 0), (53, .iload 1, 1, 0), (54, .iconst (1), 1, 0), (55, .if_icmp .ne (.ofNat 81), 3, 0), (58, .aload 0, 1, 0), (59, .invokeinterface 8 3, 3, 26), (62, .aload 0, 1, 0), (63, .invokeinterface 8 3, 3, 26), (66, .aload 0, 1, 0), (67, .invokeinterface 8 9, 3, 68), (70, .invokevirtual 88, 3, 0), (73, .iload 4, 2, 0), (75, .iadd, 1, 0), (76, .iload 3, 1, 0), (77, .invokevirtual 91, 3, 0), (80, .ireturn, 1, 0), (81, .aload 0, 1, 0), (82, .invokeinterface 8 0, 3, 22), (85, .aload 0, 1, 0), (86, .invokeinterface 8 0, 3, 22), (89, .aload 0, 1, 0), (90, .invokeinterface 8 9, 3, 68), (93, .invokevirtual 88, 3, 0), (96, .iload 4, 2, 0), (98, .iadd, 1, 0), (99, .iload 3, 1, 0), (100, .invokevirtual 91, 3, 0), (103, .istore 5, 2, 0), (105, .iload 5, 2, 0), (107, .ifCond .ne (.ofNat 115), 3, 0), (110, .iconst (-9), 2, 0), (112, .goto (.ofNat 117), 3, 0), (115, .iload 5, 2, 0), (117, .ireturn, 1, 0)]
def mX8_term : zM := (cX8_term, tX8_term, RX8, wsX8_term, { frames := 6, cells := 0, slots := 0, locals := 145 })
theorem kX8_term : mX8_term.2.1.all (fun r => zok mX8_term r && zrt (some .int) r.2.1) = true := by decide +kernel
end
section
/-! printed by program: the methods' rows in plain form, and that they are the bytes' -/
def tX9_about : List (Nat × Instr × Nat × Nat) := [(0, .aload 0, 1, 0), (1, .iload 1, 1, 0), (2, .invokevirtual 156, 3, 0), (5, .ifCond .eq (.ofNat 18), 3, 0), (8, .iload 2, 1, 0), (9, .iconst (0), 1, 0), (10, .iconst (12), 2, 0), (12, .invokestatic 122, 3, 0), (15, .ifCond .ne (.ofNat 22), 3, 0), (18, .iconst (-1), 1, 0), (19, .goto (.ofNat 46), 3, 0), (22, .iload 2, 1, 0), (23, .ifCond .ne (.ofNat 35), 3, 0), (26, .aload 0, 1, 0), (27, .invokeinterface 9 11, 3, 34), (30, .iload 1, 1, 0), (31, .iaload, 1, 0), (32, .goto (.ofNat 46), 3, 0), (35, .aload 0, 1, 0), (36, .invokeinterface 9 12, 3, 37), (39, .iconst (13), 2, 0), (41, .iload 1, 1, 0), (42, .imul, 1, 0), (43, .iload 2, 1, 0), (44, .iadd, 1, 0), (45, .iaload, 1, 0), (46, .ireturn, 1, 0)]
def mX9_about : zM := (cX9_about, tX9_about, RX9, wsX9_about, { frames := 2, cells := 0, slots := 0, locals := 43 })
theorem kX9_about : mX9_about.2.1.all (fun r => zok mX9_about r && zrt (some .int) r.2.1) = true := by decide +kernel
def tX9_act : List (Nat × Instr × Nat × Nat) := [(0, .iload 1, 1, 0), (1, .iconst (1), 1, 0), (2, .iconst (12), 2, 0), (4, .invokestatic 122, 3, 0), (7, .ifCond .eq (.ofNat 41), 3, 0), (10, .aload 0, 1, 0), (11, .iload 2, 1, 0), (12, .invokevirtual 156, 3, 0), (15, .ifCond .eq (.ofNat 41), 3, 0), (18, .iload 3, 1, 0), (19, .ifCond .lt (.ofNat 41), 3, 0), (22, .iload 3, 1, 0), (23, .aload 0, 1, 0), (24, .aload 0, 1, 0), (25, .invokeinterface 9 11, 3, 34), (28, .iload 2, 1, 0), (29, .iaload, 1, 0), (30, .iload 1, 1, 0), (31, .iadd, 1, 0), (32, .invokevirtual 160, 3, 0), (35, .iconst (-1), 1, 0), (36, .ixor, 1, 0), (37, .iand, 1, 0), (38, .ifCond .eq (.ofNat 43), 3, 0), (41, .iconst (-1), 1, 0), (42, .ireturn, 1, 0), (43, .aload 0, 1, 0), (44, .invokeinterface 9 12, 3, 37), (47, .iconst (13), 2, 0), (49, .iload 2, 1, 0), (50, .imul, 1, 0), (51, .iload 1, 1, 0), (52, .iadd, 1, 0), (53, .iaload, 1, 0), (54, .istore 4, 2, 0), (56, .aload 0, 1, 0), (57, .invokeinterface 9 12, 3, 37), (60, .iconst (13), 2, 0), (62, .iload 2, 1, 0), (63, .imul, 1, 0), (64, .iload 1, 1, 0), (65, .iadd, 1, 0), (66, .iload 3, 1, 0), (67, .iastore, 1, 0), (68, .aload 0, 1, 0), (69, .invokevirtual 149, 3, 0), (72, .iload 4, 2, 0), (74, .ireturn, 1, 0)]
def mX9_act : zM := (cX9_act, tX9_act, RX9, wsX9_act, { frames := 2, cells := 0, slots := 0, locals := 43 })
theorem kX9_act : mX9_act.2.1.all (fun r => zok mX9_act r && zrt (some .int) r.2.1) = true := by decide +kernel
def tX9_acted : List (Nat × Instr × Nat × Nat) := [(0, .iload 1, 1, 0), (1, .ifCond .ne (.ofNat 6), 3, 0), (4, .iload 2, 1, 0), (5, .ireturn, 1, 0), (6, .iconst (0), 1, 0), (7, .istore 3, 1, 0), (8, .iconst (0), 1, 0), (9, .istore 4, 2, 0), (11, .iload 4, 2, 0), (13, .aload 0, 1, 0), (14, .invokeinterface 9 10, 3, 146), (17, .if_icmp .ge (.ofNat 61), 3, 0), (20, .iload 1, 1, 0), (21, .iconst (13), 2, 0), (23, .if_icmp .ge (.ofNat 61), 3, 0), (26, .iload 3, 1, 0), (27, .iload 2, 1, 0), (28, .iload 4, 2, 0), (30, .ishr, 1, 0), (31, .iconst (1), 1, 0), (32, .iand, 1, 0), (33, .iconst (1), 1, 0), (34, .if_icmp .ne (.ofNat 52), 3, 0), (37, .aload 0, 1, 0), (38, .invokeinterface 9 12, 3, 37), (41, .iconst (13), 2, 0), (43, .iload 4, 2, 0), (45, .imul, 1, 0), (46, .iload 1, 1, 0), (47, .iadd, 1, 0), (48, .iaload, 1, 0), (49, .goto (.ofNat 53), 3, 0), (52, .iconst (0), 1, 0), (53, .ixor, 1, 0), (54, .istore 3, 1, 0), (55, .iinc 4 1, 3, 0), (58, .goto (.ofNat 11), 3, 0), (61, .iload 3, 1, 0), (62, .ireturn, 1, 0)]
def mX9_acted : zM := (cX9_acted, tX9_acted, RX9, wsX9_acted, { frames := 0, cells := 0, slots := 0, locals := 0 })
theorem kX9_acted : mX9_acted.2.1.all (fun r => zok mX9_acted r && zrt (some .int) r.2.1) = true := by decide +kernel
def tX9_balance : List (Nat × Instr × Nat × Nat) := [(0, .iload 1, 1, 0), (1, .iconst (0), 1, 0), (2, .iconst (14), 2, 0), (4, .invokestatic 122, 3, 0), (7, .ifCond .ne (.ofNat 13), 3, 0), (10, .iconst (-1000000), 2, 230), (12, .ireturn, 1, 0), (13, .aload 0, 1, 0), (14, .invokevirtual 219, 3, 0), (17, .ifCond .ne (.ofNat 23), 3, 0), (20, .iconst (-2000000), 2, 231), (22, .ireturn, 1, 0), (23, .aload 0, 1, 0), (24, .invokevirtual 213, 3, 0), (27, .aload 0, 1, 0), (28, .iload 1, 1, 0), (29, .invokevirtual 160, 3, 0), (32, .invokestatic 136, 3, 0), (35, .ineg, 1, 0), (36, .istore 2, 1, 0), (37, .iconst (0), 1, 0), (38, .istore 3, 1, 0), (39, .iload 3, 1, 0), (40, .iconst (6), 2, 0), (42, .if_icmp .ge (.ofNat 76), 3, 0), (45, .iload 2, 1, 0), (46, .iload 3, 1, 0), (47, .iconst (2), 1, 0), (48, .irem, 1, 0), (49, .ifCond .ne (.ofNat 61), 3, 0), (52, .aload 0, 1, 0), (53, .iload 3, 1, 0), (54, .iload 1, 1, 0), (55, .invokevirtual 232, 3, 0), (58, .goto (.ofNat 68), 3, 0), (61, .aload 0, 1, 0), (62, .iload 3, 1, 0), (63, .iload 1, 1, 0), (64, .invokevirtual 232, 3, 0), (67, .ineg, 1, 0), (68, .iadd, 1, 0), (69, .istore 2, 1, 0), (70, .iinc 3 1, 3, 0), (73, .goto (.ofNat 39), 3, 0), (76, .iload 2, 1, 0), (77, .ireturn, 1, 0)]
def mX9_balance : zM := (cX9_balance, tX9_balance, RX9, wsX9_balance, { frames := 4, cells := 0, slots := 0, locals := 108 })
theorem kX9_balance : mX9_balance.2.1.all (fun r => zok mX9_balance r && zrt (some .int) r.2.1) = true := by decide +kernel
def tX9_changes : List (Nat × Instr × Nat × Nat) := [(0, .aload 0, 1, 0), (1, .iconst (0), 1, 0), (2, .putstatic 589, 3, 139), (5, .aload 0, 1, 0), (6, .iconst (0), 1, 0), (7, .multianewarray 9 17, 3, 143), (10, .iconst (0), 1, 0), (11, .istore 1, 1, 0), (12, .iload 1, 1, 0), (13, .iconst (450), 3, 0), (16, .if_icmp .ge (.ofNat 32), 3, 0), (19, .aload 0, 1, 0), (20, .invokeinterface 9 18, 3, 50), (23, .iload 1, 1, 0), (24, .iconst (0), 1, 0), (25, .iastore, 1, 0), (26, .iinc 1 1, 3, 0), (29, .goto (.ofNat 12), 3, 0), (32, .return_, 1, 0)]
def mX9_changes : zM := (cX9_changes, tX9_changes, RX9, wsX9_changes, { frames := 0, cells := 0, slots := 0, locals := 0 })
theorem kX9_changes : mX9_changes.2.1.all (fun r => zok mX9_changes r && zrt none r.2.1) = true := by decide +kernel
def tX9_clear : List (Nat × Instr × Nat × Nat) := [(0, .aload 0, 1, 0), (1, .invokeinterface 9 8, 3, 119), (4, .istore 1, 1, 0), (5, .aload 0, 1, 0), (6, .iconst (0), 1, 0), (7, .multianewarray 9 8, 3, 119), (10, .iload 1, 1, 0), (11, .ireturn, 1, 0)]
def mX9_clear : zM := (cX9_clear, tX9_clear, RX9, wsX9_clear, { frames := 0, cells := 0, slots := 0, locals := 0 })
theorem kX9_clear : mX9_clear.2.1.all (fun r => zok mX9_clear r && zrt (some .int) r.2.1) = true := by decide +kernel
def tX9_clearNow : List (Nat × Instr × Nat × Nat) := [(0, .iconst (0), 1, 0), (1, .istore 1, 1, 0), (2, .iload 1, 1, 0), (3, .iconst (10), 2, 0), (5, .if_icmp .ge (.ofNat 21), 3, 0), (8, .aload 0, 1, 0), (9, .invokeinterface 9 24, 3, 59), (12, .iload 1, 1, 0), (13, .lconst 0, 1, 0), (14, .lastore, 1, 0), (15, .iinc 1 1, 3, 0), (18, .goto (.ofNat 2), 3, 0), (21, .return_, 1, 0)]
def mX9_clearNow : zM := (cX9_clearNow, tX9_clearNow, RX9, wsX9_clearNow, { frames := 0, cells := 0, slots := 0, locals := 0 })
theorem kX9_clearNow : mX9_clearNow.2.1.all (fun r => zok mX9_clearNow r && zrt none r.2.1) = true := by decide +kernel
def tX9_comes : List (Nat × Instr × Nat × Nat) := [(0, .aload 0, 1, 0), (1, .invokeinterface 9 11, 3, 34), (4, .aload 0, 1, 0), (5, .invokeinterface 9 10, 3, 146), (8, .iload 1, 1, 0), (9, .iastore, 1, 0), (10, .iconst (0), 1, 0), (11, .istore 2, 1, 0), (12, .iload 2, 1, 0), (13, .iconst (13), 2, 0), (15, .if_icmp .ge (.ofNat 39), 3, 0), (18, .aload 0, 1, 0), (19, .invokeinterface 9 12, 3, 37), (22, .iconst (13), 2, 0), (24, .aload 0, 1, 0), (25, .invokeinterface 9 10, 3, 146), (28, .imul, 1, 0), (29, .iload 2, 1, 0), (30, .iadd, 1, 0), (31, .iconst (0), 1, 0), (32, .iastore, 1, 0), (33, .iinc 2 1, 3, 0), (36, .goto (.ofNat 12), 3, 0), (39, .aload 0, 1, 0), (40, .dup, 1, 0), (41, .invokeinterface 9 10, 3, 146), (44, .iconst (1), 1, 0), (45, .iadd, 1, 0), (46, .multianewarray 9 10, 3, 146), (49, .return_, 1, 0)]
def mX9_comes : zM := (cX9_comes, tX9_comes, RX9, wsX9_comes, { frames := 0, cells := 0, slots := 0, locals := 0 })
theorem kX9_comes : mX9_comes.2.1.all (fun r => zok mX9_comes r && zrt none r.2.1) = true := by decide +kernel
def tX9_comesGenerator : List (Nat × Instr × Nat × Nat) := [(0, .aload 0, 1, 0), (1, .invokeinterface 9 14, 3, 40), (4, .iload 1, 1, 0), (5, .iaload, 1, 0), (6, .istore 3, 1, 0), (7, .aload 0, 1, 0), (8, .invokeinterface 9 15, 3, 43), (11, .iconst (100), 2, 0), (13, .iload 1, 1, 0), (14, .imul, 1, 0), (15, .iload 3, 1, 0), (16, .iadd, 1, 0), (17, .iload 2, 1, 0), (18, .iastore, 1, 0), (19, .aload 0, 1, 0), (20, .invokeinterface 9 14, 3, 40), (23, .iload 1, 1, 0), (24, .dup2, 1, 0), (25, .iaload, 1, 0), (26, .iconst (1), 1, 0), (27, .iadd, 1, 0), (28, .iastore, 1, 0), (29, .return_, 1, 0)]
def mX9_comesGenerator : zM := (cX9_comesGenerator, tX9_comesGenerator, RX9, wsX9_comesGenerator, { frames := 0, cells := 0, slots := 0, locals := 0 })
theorem kX9_comesGenerator : mX9_comesGenerator.2.1.all (fun r => zok mX9_comesGenerator r && zrt none r.2.1) = true := by decide +kernel
def tX9_count : List (Nat × Instr × Nat × Nat) := [(0, .iload 1, 1, 0), (1, .tableswitch 51 0 3 #[31, 36, 41, 46], 31, 0), (32, .aload 0, 1, 0), (33, .invokeinterface 9 8, 3, 119), (36, .ireturn, 1, 0), (37, .aload 0, 1, 0), (38, .invokevirtual 126, 3, 0), (41, .ireturn, 1, 0), (42, .aload 0, 1, 0), (43, .invokeinterface 9 10, 3, 146), (46, .ireturn, 1, 0), (47, .aload 0, 1, 0), (48, .invokeinterface 9 17, 3, 143), (51, .ireturn, 1, 0), (52, .iconst (-1), 1, 0), (53, .ireturn, 1, 0)]
def mX9_count : zM := (cX9_count, tX9_count, RX9, wsX9_count, { frames := 1, cells := 0, slots := 0, locals := 22 })
theorem kX9_count : mX9_count.2.1.all (fun r => zok mX9_count r && zrt (some .int) r.2.1) = true := by decide +kernel
def tX9_degreeOf : List (Nat × Instr × Nat × Nat) := [(0, .iconst (0), 1, 0), (1, .istore 2, 1, 0), (2, .iload 1, 1, 0), (3, .aload 0, 1, 0), (4, .invokeinterface 9 0, 3, 7), (7, .iload 2, 1, 0), (8, .iconst (1), 1, 0), (9, .iadd, 1, 0), (10, .iaload, 1, 0), (11, .if_icmp .lt (.ofNat 20), 3, 0), (14, .iinc 2 1, 3, 0), (17, .goto (.ofNat 2), 3, 0), (20, .iload 2, 1, 0), (21, .ireturn, 1, 0)]
def mX9_degreeOf : zM := (cX9_degreeOf, tX9_degreeOf, RX9, wsX9_degreeOf, { frames := 0, cells := 0, slots := 0, locals := 0 })
theorem kX9_degreeOf : mX9_degreeOf.2.1.all (fun r => zok mX9_degreeOf r && zrt (some .int) r.2.1) = true := by decide +kernel
def tX9_differ : List (Nat × Instr × Nat × Nat) := [(0, .iload 1, 1, 0), (1, .iconst (2), 1, 0), (2, .iconst (4), 1, 0), (3, .invokestatic 122, 3, 0), (6, .ifCond .eq (.ofNat 42), 3, 0), (9, .iload 2, 1, 0), (10, .iload 3, 1, 0), (11, .invokestatic 216, 3, 0), (14, .ifCond .eq (.ofNat 42), 3, 0), (17, .iload 2, 1, 0), (18, .iload 1, 1, 0), (19, .iadd, 1, 0), (20, .iload 3, 1, 0), (21, .iload 1, 1, 0), (22, .iadd, 1, 0), (23, .iconst (1), 1, 0), (24, .isub, 1, 0), (25, .invokestatic 216, 3, 0), (28, .ifCond .eq (.ofNat 42), 3, 0), (31, .iload 4, 2, 0), (33, .iconst (1), 1, 0), (34, .iconst (99), 2, 0), (36, .invokestatic 122, 3, 0), (39, .ifCond .ne (.ofNat 44), 3, 0), (42, .iconst (-1), 1, 0), (43, .ireturn, 1, 0), (44, .aload 0, 1, 0), (45, .invokevirtual 219, 3, 0), (48, .ifCond .eq (.ofNat 61), 3, 0), (51, .aload 0, 1, 0), (52, .iload 1, 1, 0), (53, .iload 2, 1, 0), (54, .iload 3, 1, 0), (55, .invokevirtual 235, 3, 0), (58, .ifCond .le (.ofNat 64), 3, 0), (61, .iconst (-2), 2, 0), (63, .ireturn, 1, 0), (64, .iconst (90), 2, 0), (66, .iload 1, 1, 0), (67, .iconst (1), 1, 0), (68, .iadd, 1, 0), (69, .imul, 1, 0), (70, .istore 5, 2, 0), (72, .iload 5, 2, 0), (74, .iconst (450), 3, 0), (77, .if_icmp .ge (.ofNat 99), 3, 0), (80, .aload 0, 1, 0), (81, .invokeinterface 9 18, 3, 50), (84, .iload 5, 2, 0), (86, .iaload, 1, 0), (87, .ifCond .le (.ofNat 93), 3, 0), (90, .iconst (-2), 2, 0), (92, .ireturn, 1, 0), (93, .iinc 5 1, 3, 0), (96, .goto (.ofNat 72), 3, 0), (99, .aload 0, 1, 0), (100, .iload 1, 1, 0), (101, .iload 2, 1, 0), (102, .iload 3, 1, 0), (103, .invokevirtual 238, 3, 0), (106, .iload 4, 2, 0), (108, .iadd, 1, 0), (109, .aload 0, 1, 0), (110, .iload 1, 1, 0), (111, .iload 2, 1, 0), (112, .iload 3, 1, 0), (113, .invokevirtual 241, 3, 0), (116, .if_icmp .gt (.ofNat 151), 3, 0), (119, .aload 0, 1, 0), (120, .iload 1, 1, 0), (121, .iload 2, 1, 0), (122, .iload 1, 1, 0), (123, .iadd, 1, 0), (124, .iload 3, 1, 0), (125, .iload 1, 1, 0), (126, .iadd, 1, 0), (127, .iconst (1), 1, 0), (128, .isub, 1, 0), (129, .invokevirtual 238, 3, 0), (132, .iload 4, 2, 0), (134, .iadd, 1, 0), (135, .aload 0, 1, 0), (136, .iload 1, 1, 0), (137, .iload 2, 1, 0), (138, .iload 1, 1, 0), (139, .iadd, 1, 0), (140, .iload 3, 1, 0), (141, .iload 1, 1, 0), (142, .iadd, 1, 0), (143, .iconst (1), 1, 0), (144, .isub, 1, 0), (145, .invokevirtual 241, 3, 0), (148, .if_icmp .le (.ofNat 154), 3, 0), (151, .iconst (-2), 2, 0), (153, .ireturn, 1, 0), (154, .aload 0, 1, 0), (155, .invokeinterface 9 18, 3, 50), (158, .iconst (90), 2, 0), (160, .iload 1, 1, 0), (161, .imul, 1, 0), (162, .iconst (15), 2, 0), (164, .iload 2, 1, 0), (165, .imul, 1, 0), (166, .iadd, 1, 0), (167, .iload 3, 1, 0), (168, .iadd, 1, 0), (169, .iload 4, 2, 0), (171, .iastore, 1, 0), (172, .aload 0, 1, 0), (173, .dup, 1, 0), (174, .invokeinterface 9 17, 3, 143), (177, .iconst (1), 1, 0), (178, .iadd, 1, 0), (179, .multianewarray 9 17, 3, 143), (182, .iconst (1), 1, 0), (183, .ireturn, 1, 0)]
def mX9_differ : zM := (cX9_differ, tX9_differ, RX9, wsX9_differ, { frames := 6, cells := 0, slots := 0, locals := 157 })
theorem kX9_differ : mX9_differ.2.1.all (fun r => zok mX9_differ r && zrt (some .int) r.2.1) = true := by decide +kernel
def tX9_does : List (Nat × Instr × Nat × Nat) := [(0, .aload 0, 1, 0), (1, .iload 1, 1, 0), (2, .invokevirtual 156, 3, 0), (5, .ifCond .ne (.ofNat 10), 3, 0), (8, .iconst (-1), 1, 0), (9, .ireturn, 1, 0), (10, .iconst (1), 1, 0), (11, .iload 1, 1, 0), (12, .ishl, 1, 0), (13, .istore 2, 1, 0), (14, .aload 0, 1, 0), (15, .invokeinterface 9 8, 3, 119), (18, .iconst (1), 1, 0), (19, .isub, 1, 0), (20, .istore 3, 1, 0), (21, .iload 3, 1, 0), (22, .ifCond .lt (.ofNat 43), 3, 0), (25, .aload 0, 1, 0), (26, .aload 0, 1, 0), (27, .invokeinterface 9 9, 3, 31), (30, .iload 3, 1, 0), (31, .iaload, 1, 0), (32, .iload 2, 1, 0), (33, .invokevirtual 163, 3, 0), (36, .istore 2, 1, 0), (37, .iinc 3 (-1), 3, 0), (40, .goto (.ofNat 21), 3, 0), (43, .iload 2, 1, 0), (44, .ireturn, 1, 0)]
def mX9_does : zM := (cX9_does, tX9_does, RX9, wsX9_does, { frames := 2, cells := 0, slots := 0, locals := 43 })
theorem kX9_does : mX9_does.2.1.all (fun r => zok mX9_does r && zrt (some .int) r.2.1) = true := by decide +kernel
def tX9_element : List (Nat × Instr × Nat × Nat) := [(0, .iload 1, 1, 0), (1, .iconst (0), 1, 0), (2, .iconst (12), 2, 0), (4, .invokestatic 122, 3, 0), (7, .ifCond .ne (.ofNat 12), 3, 0), (10, .iconst (-1), 1, 0), (11, .ireturn, 1, 0), (12, .aload 0, 1, 0), (13, .invokeinterface 9 10, 3, 146), (16, .iconst (12), 2, 0), (18, .if_icmp .ne (.ofNat 24), 3, 0), (21, .iconst (-3), 2, 0), (23, .ireturn, 1, 0), (24, .aload 0, 1, 0), (25, .iload 1, 1, 0), (26, .invokevirtual 152, 3, 0), (29, .aload 0, 1, 0), (30, .invokevirtual 149, 3, 0), (33, .aload 0, 1, 0), (34, .invokeinterface 9 10, 3, 146), (37, .iconst (1), 1, 0), (38, .isub, 1, 0), (39, .ireturn, 1, 0)]
def mX9_element : zM := (cX9_element, tX9_element, RX9, wsX9_element, { frames := 1, cells := 0, slots := 0, locals := 22 })
theorem kX9_element : mX9_element.2.1.all (fun r => zok mX9_element r && zrt (some .int) r.2.1) = true := by decide +kernel
def tX9_empty : List (Nat × Instr × Nat × Nat) := [(0, .aload 0, 1, 0), (1, .invokeinterface 9 10, 3, 146), (4, .istore 1, 1, 0), (5, .aload 0, 1, 0), (6, .iconst (0), 1, 0), (7, .multianewarray 9 10, 3, 146), (10, .aload 0, 1, 0), (11, .invokevirtual 149, 3, 0), (14, .iload 1, 1, 0), (15, .ireturn, 1, 0)]
def mX9_empty : zM := (cX9_empty, tX9_empty, RX9, wsX9_empty, { frames := 1, cells := 0, slots := 0, locals := 21 })
theorem kX9_empty : mX9_empty.2.1.all (fun r => zok mX9_empty r && zrt (some .int) r.2.1) = true := by decide +kernel
def tX9_fault : List (Nat × Instr × Nat × Nat) := [(0, .iload 1, 1, 0), (1, .iconst (0), 1, 0), (2, .iconst (2), 1, 0), (3, .invokestatic 122, 3, 0), (6, .ifCond .ne (.ofNat 11), 3, 0), (9, .iconst (-1), 1, 0), (10, .ireturn, 1, 0), (11, .aload 0, 1, 0), (12, .invokevirtual 172, 3, 0), (15, .istore 2, 1, 0), (16, .iload 2, 1, 0), (17, .ifCond .ge (.ofNat 25), 3, 0), (20, .iconst (-9), 2, 0), (22, .goto (.ofNat 49), 3, 0), (25, .iload 1, 1, 0), (26, .ifCond .ne (.ofNat 36), 3, 0), (29, .aload 0, 1, 0), (30, .invokeinterface 9 19, 3, 166), (33, .goto (.ofNat 49), 3, 0), (36, .iload 1, 1, 0), (37, .iconst (1), 1, 0), (38, .if_icmp .ne (.ofNat 48), 3, 0), (41, .aload 0, 1, 0), (42, .invokeinterface 9 20, 3, 169), (45, .goto (.ofNat 49), 3, 0), (48, .iload 2, 1, 0), (49, .ireturn, 1, 0)]
def mX9_fault : zM := (cX9_fault, tX9_fault, RX9, wsX9_fault, { frames := 2, cells := 0, slots := 0, locals := 49 })
theorem kX9_fault : mX9_fault.2.1.all (fun r => zok mX9_fault r && zrt (some .int) r.2.1) = true := by decide +kernel
def tX9_findFault : List (Nat × Instr × Nat × Nat) := [(0, .iconst (1), 1, 0), (1, .istore 1, 1, 0), (2, .iload 1, 1, 0), (3, .iconst (12), 2, 0), (5, .if_icmp .gt (.ofNat 145), 3, 0), (8, .iload 1, 1, 0), (9, .iconst (2), 1, 0), (10, .idiv, 1, 0), (11, .iconst (1), 1, 0), (12, .iadd, 1, 0), (13, .istore 2, 1, 0), (14, .iload 1, 1, 0), (15, .iload 2, 1, 0), (16, .iadd, 1, 0), (17, .iconst (12), 2, 0), (19, .if_icmp .gt (.ofNat 139), 3, 0), (22, .iconst (0), 1, 0), (23, .istore 3, 1, 0), (24, .iload 3, 1, 0), (25, .aload 0, 1, 0), (26, .invokeinterface 9 10, 3, 146), (29, .if_icmp .ge (.ofNat 133), 3, 0), (32, .aload 0, 1, 0), (33, .iload 1, 1, 0), (34, .aload 0, 1, 0), (35, .iload 2, 1, 0), (36, .iconst (1), 1, 0), (37, .iload 3, 1, 0), (38, .ishl, 1, 0), (39, .invokevirtual 163, 3, 0), (42, .invokevirtual 163, 3, 0), (45, .istore 4, 2, 0), (47, .iconst (0), 1, 0), (48, .istore 5, 2, 0), (50, .iload 5, 2, 0), (52, .iload 1, 1, 0), (53, .iconst (2), 1, 0), (54, .idiv, 1, 0), (55, .if_icmp .gt (.ofNat 110), 3, 0), (58, .iload 4, 2, 0), (60, .iload 2, 1, 0), (61, .iconst (1), 1, 0), (62, .isub, 1, 0), (63, .iload 5, 2, 0), (65, .isub, 1, 0), (66, .iload 1, 1, 0), (67, .iconst (2), 1, 0), (68, .iload 5, 2, 0), (70, .imul, 1, 0), (71, .isub, 1, 0), (72, .invokestatic 99, 3, 0), (75, .ifCond .eq (.ofNat 100), 3, 0), (78, .aload 0, 1, 0), (79, .iload 1, 1, 0), (80, .iload 2, 1, 0), (81, .iadd, 1, 0), (82, .iload 5, 2, 0), (84, .isub, 1, 0), (85, .aload 0, 1, 0), (86, .iload 5, 2, 0), (88, .iconst (1), 1, 0), (89, .iload 3, 1, 0), (90, .ishl, 1, 0), (91, .invokevirtual 163, 3, 0), (94, .invokevirtual 163, 3, 0), (97, .goto (.ofNat 101), 3, 0), (100, .iconst (0), 1, 0), (101, .ixor, 1, 0), (102, .istore 4, 2, 0), (104, .iinc 5 1, 3, 0), (107, .goto (.ofNat 50), 3, 0), (110, .iload 4, 2, 0), (112, .ifCond .eq (.ofNat 127), 3, 0), (115, .aload 0, 1, 0), (116, .iload 1, 1, 0), (117, .multianewarray 9 19, 3, 166), (120, .aload 0, 1, 0), (121, .iload 2, 1, 0), (122, .multianewarray 9 20, 3, 169), (125, .iload 3, 1, 0), (126, .ireturn, 1, 0), (127, .iinc 3 1, 3, 0), (130, .goto (.ofNat 24), 3, 0), (133, .iinc 2 1, 3, 0), (136, .goto (.ofNat 14), 3, 0), (139, .iinc 1 1, 3, 0), (142, .goto (.ofNat 2), 3, 0), (145, .iconst (-1), 1, 0), (146, .ireturn, 1, 0)]
def mX9_findFault : zM := (cX9_findFault, tX9_findFault, RX9, wsX9_findFault, { frames := 1, cells := 0, slots := 0, locals := 24 })
theorem kX9_findFault : mX9_findFault.2.1.all (fun r => zok mX9_findFault r && zrt (some .int) r.2.1) = true := by decide +kernel
def tX9_findProducts : List (Nat × Instr × Nat × Nat) := [(0, .iconst (0), 1, 0), (1, .istore 1, 1, 0), (2, .iload 1, 1, 0), (3, .aload 0, 1, 0), (4, .invokeinterface 9 7, 3, 83), (7, .if_icmp .ge (.ofNat 130), 3, 0), (10, .iconst (0), 1, 0), (11, .istore 2, 1, 0), (12, .iload 2, 1, 0), (13, .aload 0, 1, 0), (14, .invokeinterface 9 7, 3, 83), (17, .if_icmp .ge (.ofNat 124), 3, 0), (20, .aload 0, 1, 0), (21, .iload 2, 1, 0), (22, .invokevirtual 116, 3, 0), (25, .istore 3, 1, 0), (26, .aload 0, 1, 0), (27, .iload 1, 1, 0), (28, .invokevirtual 116, 3, 0), (31, .iload 3, 1, 0), (32, .iadd, 1, 0), (33, .iconst (14), 2, 0), (35, .if_icmp .gt (.ofNat 118), 3, 0), (38, .iconst (1), 1, 0), (39, .iload 2, 1, 0), (40, .aload 0, 1, 0), (41, .invokeinterface 9 0, 3, 7), (44, .iload 3, 1, 0), (45, .iaload, 1, 0), (46, .isub, 1, 0), (47, .ishl, 1, 0), (48, .istore 4, 2, 0), (50, .aload 0, 1, 0), (51, .invokeinterface 9 1, 3, 13), (54, .iload 1, 1, 0), (55, .iaload, 1, 0), (56, .iconst (1), 1, 0), (57, .isub, 1, 0), (58, .istore 5, 2, 0), (60, .iload 5, 2, 0), (62, .ifCond .lt (.ofNat 105), 3, 0), (65, .aload 0, 1, 0), (66, .aload 0, 1, 0), (67, .invokeinterface 9 2, 3, 16), (70, .iconst (4), 1, 0), (71, .iload 1, 1, 0), (72, .imul, 1, 0), (73, .iload 5, 2, 0), (75, .iadd, 1, 0), (76, .iaload, 1, 0), (77, .iload 4, 2, 0), (79, .iload 3, 1, 0), (80, .invokevirtual 103, 3, 0), (83, .istore 4, 2, 0), (85, .iload 3, 1, 0), (86, .aload 0, 1, 0), (87, .invokeinterface 9 2, 3, 16), (90, .iconst (4), 1, 0), (91, .iload 1, 1, 0), (92, .imul, 1, 0), (93, .iload 5, 2, 0), (95, .iadd, 1, 0), (96, .iaload, 1, 0), (97, .iadd, 1, 0), (98, .istore 3, 1, 0), (99, .iinc 5 (-1), 3, 0), (102, .goto (.ofNat 60), 3, 0), (105, .aload 0, 1, 0), (106, .invokeinterface 9 6, 3, 28), (109, .iconst (64), 2, 0), (111, .iload 1, 1, 0), (112, .imul, 1, 0), (113, .iload 2, 1, 0), (114, .iadd, 1, 0), (115, .iload 4, 2, 0), (117, .iastore, 1, 0), (118, .iinc 2 1, 3, 0), (121, .goto (.ofNat 12), 3, 0), (124, .iinc 1 1, 3, 0), (127, .goto (.ofNat 2), 3, 0), (130, .return_, 1, 0)]
def mX9_findProducts : zM := (cX9_findProducts, tX9_findProducts, RX9, wsX9_findProducts, { frames := 2, cells := 0, slots := 0, locals := 46 })
theorem kX9_findProducts : mX9_findProducts.2.1.all (fun r => zok mX9_findProducts r && zrt none r.2.1) = true := by decide +kernel
def tX9_findRows : List (Nat × Instr × Nat × Nat) := [(0, .iconst (0), 1, 0), (1, .istore 1, 1, 0), (2, .iconst (0), 1, 0), (3, .istore 2, 1, 0), (4, .iload 2, 1, 0), (5, .iconst (14), 2, 0), (7, .if_icmp .gt (.ofNat 107), 3, 0), (10, .iconst (0), 1, 0), (11, .istore 3, 1, 0), (12, .iload 3, 1, 0), (13, .iload 2, 1, 0), (14, .if_icmp .gt (.ofNat 101), 3, 0), (17, .iconst (0), 1, 0), (18, .istore 4, 2, 0), (20, .iload 3, 1, 0), (21, .iconst (3), 1, 0), (22, .iload 4, 2, 0), (24, .imul, 1, 0), (25, .iadd, 1, 0), (26, .iload 2, 1, 0), (27, .if_icmp .gt (.ofNat 95), 3, 0), (30, .iload 2, 1, 0), (31, .iload 3, 1, 0), (32, .isub, 1, 0), (33, .iconst (3), 1, 0), (34, .iload 4, 2, 0), (36, .imul, 1, 0), (37, .isub, 1, 0), (38, .iconst (7), 2, 0), (40, .irem, 1, 0), (41, .ifCond .ne (.ofNat 89), 3, 0), (44, .aload 0, 1, 0), (45, .invokeinterface 9 3, 3, 19), (48, .iconst (3), 1, 0), (49, .iload 1, 1, 0), (50, .imul, 1, 0), (51, .iload 3, 1, 0), (52, .iastore, 1, 0), (53, .aload 0, 1, 0), (54, .invokeinterface 9 3, 3, 19), (57, .iconst (3), 1, 0), (58, .iload 1, 1, 0), (59, .imul, 1, 0), (60, .iconst (1), 1, 0), (61, .iadd, 1, 0), (62, .iload 4, 2, 0), (64, .iastore, 1, 0), (65, .aload 0, 1, 0), (66, .invokeinterface 9 3, 3, 19), (69, .iconst (3), 1, 0), (70, .iload 1, 1, 0), (71, .imul, 1, 0), (72, .iconst (2), 1, 0), (73, .iadd, 1, 0), (74, .iload 2, 1, 0), (75, .iload 3, 1, 0), (76, .isub, 1, 0), (77, .iconst (3), 1, 0), (78, .iload 4, 2, 0), (80, .imul, 1, 0), (81, .isub, 1, 0), (82, .iconst (7), 2, 0), (84, .idiv, 1, 0), (85, .iastore, 1, 0), (86, .iinc 1 1, 3, 0), (89, .iinc 4 1, 3, 0), (92, .goto (.ofNat 20), 3, 0), (95, .iinc 3 1, 3, 0), (98, .goto (.ofNat 12), 3, 0), (101, .iinc 2 1, 3, 0), (104, .goto (.ofNat 4), 3, 0), (107, .return_, 1, 0)]
def mX9_findRows : zM := (cX9_findRows, tX9_findRows, RX9, wsX9_findRows, { frames := 0, cells := 0, slots := 0, locals := 0 })
theorem kX9_findRows : mX9_findRows.2.1.all (fun r => zok mX9_findRows r && zrt none r.2.1) = true := by decide +kernel
def tX9_findSquares : List (Nat × Instr × Nat × Nat) := [(0, .iconst (0), 1, 0), (1, .istore 1, 1, 0), (2, .iload 1, 1, 0), (3, .iconst (14), 2, 0), (5, .if_icmp .gt (.ofNat 95), 3, 0), (8, .iload 1, 1, 0), (9, .istore 2, 1, 0), (10, .iload 2, 1, 0), (11, .ifCond .le (.ofNat 89), 3, 0), (14, .aload 0, 1, 0), (15, .invokeinterface 9 0, 3, 7), (18, .iload 1, 1, 0), (19, .iload 2, 1, 0), (20, .isub, 1, 0), (21, .iaload, 1, 0), (22, .istore 3, 1, 0), (23, .iload 3, 1, 0), (24, .aload 0, 1, 0), (25, .invokeinterface 9 0, 3, 7), (28, .iload 1, 1, 0), (29, .iload 2, 1, 0), (30, .isub, 1, 0), (31, .iconst (1), 1, 0), (32, .iadd, 1, 0), (33, .iaload, 1, 0), (34, .if_icmp .ge (.ofNat 83), 3, 0), (37, .aload 0, 1, 0), (38, .invokeinterface 9 4, 3, 22), (41, .iconst (64), 2, 0), (43, .iload 2, 1, 0), (44, .imul, 1, 0), (45, .iload 3, 1, 0), (46, .iadd, 1, 0), (47, .aload 0, 1, 0), (48, .iload 2, 1, 0), (49, .iload 3, 1, 0), (50, .iload 1, 1, 0), (51, .iload 2, 1, 0), (52, .isub, 1, 0), (53, .invokevirtual 110, 3, 0), (56, .iastore, 1, 0), (57, .aload 0, 1, 0), (58, .invokeinterface 9 5, 3, 25), (61, .iconst (64), 2, 0), (63, .iload 2, 1, 0), (64, .imul, 1, 0), (65, .iload 3, 1, 0), (66, .iadd, 1, 0), (67, .aload 0, 1, 0), (68, .iload 2, 1, 0), (69, .iload 3, 1, 0), (70, .iload 1, 1, 0), (71, .iload 2, 1, 0), (72, .isub, 1, 0), (73, .invokevirtual 113, 3, 0), (76, .iastore, 1, 0), (77, .iinc 3 1, 3, 0), (80, .goto (.ofNat 23), 3, 0), (83, .iinc 2 (-1), 3, 0), (86, .goto (.ofNat 10), 3, 0), (89, .iinc 1 1, 3, 0), (92, .goto (.ofNat 2), 3, 0), (95, .return_, 1, 0)]
def mX9_findSquares : zM := (cX9_findSquares, tX9_findSquares, RX9, wsX9_findSquares, { frames := 3, cells := 0, slots := 0, locals := 75 })
theorem kX9_findSquares : mX9_findSquares.2.1.all (fun r => zok mX9_findSquares r && zrt none r.2.1) = true := by decide +kernel
def tX9_findWords : List (Nat × Instr × Nat × Nat) := [(0, .aload 0, 1, 0), (1, .iconst (1), 1, 0), (2, .multianewarray 9 7, 3, 83), (5, .aload 0, 1, 0), (6, .invokeinterface 9 0, 3, 7), (9, .iconst (0), 1, 0), (10, .iconst (0), 1, 0), (11, .iastore, 1, 0), (12, .aload 0, 1, 0), (13, .invokeinterface 9 0, 3, 7), (16, .iconst (1), 1, 0), (17, .iconst (1), 1, 0), (18, .iastore, 1, 0), (19, .iconst (1), 1, 0), (20, .istore 1, 1, 0), (21, .iload 1, 1, 0), (22, .iconst (14), 2, 0), (24, .if_icmp .gt (.ofNat 216), 3, 0), (27, .aload 0, 1, 0), (28, .invokeinterface 9 0, 3, 7), (31, .iload 1, 1, 0), (32, .aload 0, 1, 0), (33, .invokeinterface 9 7, 3, 83), (36, .iastore, 1, 0), (37, .iconst (1), 1, 0), (38, .istore 2, 1, 0), (39, .iload 2, 1, 0), (40, .iload 1, 1, 0), (41, .if_icmp .gt (.ofNat 198), 3, 0), (44, .aload 0, 1, 0), (45, .invokeinterface 9 0, 3, 7), (48, .iload 1, 1, 0), (49, .iload 2, 1, 0), (50, .isub, 1, 0), (51, .iaload, 1, 0), (52, .istore 3, 1, 0), (53, .iload 3, 1, 0), (54, .aload 0, 1, 0), (55, .invokeinterface 9 0, 3, 7), (58, .iload 1, 1, 0), (59, .iload 2, 1, 0), (60, .isub, 1, 0), (61, .iconst (1), 1, 0), (62, .iadd, 1, 0), (63, .iaload, 1, 0), (64, .if_icmp .ge (.ofNat 192), 3, 0), (67, .iload 3, 1, 0), (68, .aload 0, 1, 0), (69, .invokeinterface 9 0, 3, 7), (72, .iload 1, 1, 0), (73, .iaload, 1, 0), (74, .if_icmp .ge (.ofNat 192), 3, 0), (77, .aload 0, 1, 0), (78, .invokeinterface 9 1, 3, 13), (81, .iload 3, 1, 0), (82, .iaload, 1, 0), (83, .ifCond .eq (.ofNat 100), 3, 0), (86, .iconst (2), 1, 0), (87, .aload 0, 1, 0), (88, .invokeinterface 9 2, 3, 16), (91, .iconst (4), 1, 0), (92, .iload 3, 1, 0), (93, .imul, 1, 0), (94, .iaload, 1, 0), (95, .imul, 1, 0), (96, .iload 2, 1, 0), (97, .if_icmp .gt (.ofNat 186), 3, 0), (100, .aload 0, 1, 0), (101, .invokeinterface 9 2, 3, 16), (104, .iconst (4), 1, 0), (105, .aload 0, 1, 0), (106, .invokeinterface 9 7, 3, 83), (109, .imul, 1, 0), (110, .iload 2, 1, 0), (111, .iastore, 1, 0), (112, .iconst (0), 1, 0), (113, .istore 4, 2, 0), (115, .iload 4, 2, 0), (117, .aload 0, 1, 0), (118, .invokeinterface 9 1, 3, 13), (121, .iload 3, 1, 0), (122, .iaload, 1, 0), (123, .if_icmp .ge (.ofNat 159), 3, 0), (126, .aload 0, 1, 0), (127, .invokeinterface 9 2, 3, 16), (130, .iconst (4), 1, 0), (131, .aload 0, 1, 0), (132, .invokeinterface 9 7, 3, 83), (135, .imul, 1, 0), (136, .iload 4, 2, 0), (138, .iadd, 1, 0), (139, .iconst (1), 1, 0), (140, .iadd, 1, 0), (141, .aload 0, 1, 0), (142, .invokeinterface 9 2, 3, 16), (145, .iconst (4), 1, 0), (146, .iload 3, 1, 0), (147, .imul, 1, 0), (148, .iload 4, 2, 0), (150, .iadd, 1, 0), (151, .iaload, 1, 0), (152, .iastore, 1, 0), (153, .iinc 4 1, 3, 0), (156, .goto (.ofNat 115), 3, 0), (159, .aload 0, 1, 0), (160, .invokeinterface 9 1, 3, 13), (163, .aload 0, 1, 0), (164, .invokeinterface 9 7, 3, 83), (167, .aload 0, 1, 0), (168, .invokeinterface 9 1, 3, 13), (171, .iload 3, 1, 0), (172, .iaload, 1, 0), (173, .iconst (1), 1, 0), (174, .iadd, 1, 0), (175, .iastore, 1, 0), (176, .aload 0, 1, 0), (177, .dup, 1, 0), (178, .invokeinterface 9 7, 3, 83), (181, .iconst (1), 1, 0), (182, .iadd, 1, 0), (183, .multianewarray 9 7, 3, 83), (186, .iinc 3 1, 3, 0), (189, .goto (.ofNat 53), 3, 0), (192, .iinc 2 1, 3, 0), (195, .goto (.ofNat 39), 3, 0), (198, .aload 0, 1, 0), (199, .invokeinterface 9 0, 3, 7), (202, .iload 1, 1, 0), (203, .iconst (1), 1, 0), (204, .iadd, 1, 0), (205, .aload 0, 1, 0), (206, .invokeinterface 9 7, 3, 83), (209, .iastore, 1, 0), (210, .iinc 1 1, 3, 0), (213, .goto (.ofNat 21), 3, 0), (216, .return_, 1, 0)]
def mX9_findWords : zM := (cX9_findWords, tX9_findWords, RX9, wsX9_findWords, { frames := 0, cells := 0, slots := 0, locals := 0 })
theorem kX9_findWords : mX9_findWords.2.1.all (fun r => zok mX9_findWords r && zrt none r.2.1) = true := by decide +kernel
def tX9_goes : List (Nat × Instr × Nat × Nat) := [(0, .iconst (5), 1, 0), (1, .iconst (100), 2, 0), (3, .iload 1, 1, 0), (4, .imul, 1, 0), (5, .iload 2, 1, 0), (6, .iadd, 1, 0), (7, .imul, 1, 0), (8, .istore 5, 2, 0), (10, .iload 1, 1, 0), (11, .ifCond .ne (.ofNat 77), 3, 0), (14, .aload 0, 1, 0), (15, .invokeinterface 9 16, 3, 46), (18, .iload 5, 2, 0), (20, .laload, 1, 0), (21, .l2i, 1, 0), (22, .istore 6, 2, 0), (24, .aload 0, 1, 0), (25, .invokeinterface 9 1, 3, 13), (28, .iload 3, 1, 0), (29, .iaload, 1, 0), (30, .iconst (1), 1, 0), (31, .isub, 1, 0), (32, .istore 7, 2, 0), (34, .iload 7, 2, 0), (36, .ifCond .lt (.ofNat 64), 3, 0), (39, .aload 0, 1, 0), (40, .aload 0, 1, 0), (41, .invokeinterface 9 2, 3, 16), (44, .iconst (4), 1, 0), (45, .iload 3, 1, 0), (46, .imul, 1, 0), (47, .iload 7, 2, 0), (49, .iadd, 1, 0), (50, .iaload, 1, 0), (51, .iload 6, 2, 0), (53, .invokevirtual 163, 3, 0), (56, .istore 6, 2, 0), (58, .iinc 7 (-1), 3, 0), (61, .goto (.ofNat 34), 3, 0), (64, .aload 0, 1, 0), (65, .invokeinterface 9 24, 3, 59), (68, .iconst (0), 1, 0), (69, .dup2, 1, 0), (70, .laload, 1, 0), (71, .iload 6, 2, 0), (73, .i2l, 1, 0), (74, .lxor, 1, 0), (75, .lastore, 1, 0), (76, .return_, 1, 0), (77, .aload 0, 1, 0), (78, .invokeinterface 9 15, 3, 43), (81, .iconst (100), 2, 0), (83, .iload 1, 1, 0), (84, .imul, 1, 0), (85, .iload 2, 1, 0), (86, .iadd, 1, 0), (87, .iaload, 1, 0), (88, .istore 6, 2, 0), (90, .iconst (0), 1, 0), (91, .istore 7, 2, 0), (93, .iconst (0), 1, 0), (94, .istore 8, 2, 0), (96, .iconst (0), 1, 0), (97, .istore 9, 2, 0), (99, .iload 9, 2, 0), (101, .aload 0, 1, 0), (102, .invokeinterface 9 14, 3, 40), (105, .iload 1, 1, 0), (106, .iconst (1), 1, 0), (107, .isub, 1, 0), (108, .iaload, 1, 0), (109, .if_icmp .ge (.ofNat 313), 3, 0), (112, .iload 6, 2, 0), (114, .aload 0, 1, 0), (115, .invokeinterface 9 15, 3, 43), (118, .iconst (100), 2, 0), (120, .iload 1, 1, 0), (121, .iconst (1), 1, 0), (122, .isub, 1, 0), (123, .imul, 1, 0), (124, .iload 9, 2, 0), (126, .iadd, 1, 0), (127, .iaload, 1, 0), (128, .isub, 1, 0), (129, .istore 10, 2, 0), (131, .iconst (0), 1, 0), (132, .istore 11, 2, 0), (134, .iload 10, 2, 0), (136, .ifCond .lt (.ofNat 248), 3, 0), (139, .iload 11, 2, 0), (141, .aload 0, 1, 0), (142, .iload 10, 2, 0), (144, .invokevirtual 87, 3, 0), (147, .if_icmp .ge (.ofNat 248), 3, 0), (150, .iload 7, 2, 0), (152, .iload 11, 2, 0), (154, .iadd, 1, 0), (155, .istore 12, 2, 0), (157, .aload 0, 1, 0), (158, .invokeinterface 9 16, 3, 46), (161, .iload 5, 2, 0), (163, .iload 12, 2, 0), (165, .iconst (6), 2, 0), (167, .ishr, 1, 0), (168, .iadd, 1, 0), (169, .laload, 1, 0), (170, .iload 12, 2, 0), (172, .iconst (63), 2, 0), (174, .iand, 1, 0), (175, .lshr, 1, 0), (176, .lconst 1, 1, 0), (177, .land, 1, 0), (178, .lconst 1, 1, 0), (179, .lcmp, 1, 0), (180, .ifCond .ne (.ofNat 242), 3, 0), (183, .aload 0, 1, 0), (184, .invokeinterface 9 6, 3, 28), (187, .iconst (64), 2, 0), (189, .iload 3, 1, 0), (190, .imul, 1, 0), (191, .aload 0, 1, 0), (192, .invokeinterface 9 0, 3, 7), (195, .iload 10, 2, 0), (197, .iaload, 1, 0), (198, .iadd, 1, 0), (199, .iload 11, 2, 0), (201, .iadd, 1, 0), (202, .iaload, 1, 0), (203, .istore 13, 2, 0), (205, .iconst (0), 1, 0), (206, .istore 14, 2, 0), (208, .iload 13, 2, 0), (210, .iload 14, 2, 0), (212, .ishr, 1, 0), (213, .ifCond .eq (.ofNat 242), 3, 0), (216, .iload 13, 2, 0), (218, .iload 14, 2, 0), (220, .ishr, 1, 0), (221, .iconst (1), 1, 0), (222, .iand, 1, 0), (223, .iconst (1), 1, 0), (224, .if_icmp .ne (.ofNat 236), 3, 0), (227, .aload 0, 1, 0), (228, .iload 8, 2, 0), (230, .iload 14, 2, 0), (232, .iadd, 1, 0), (233, .invokevirtual 178, 3, 0), (236, .iinc 14 1, 3, 0), (239, .goto (.ofNat 208), 3, 0), (242, .iinc 11 1, 3, 0), (245, .goto (.ofNat 134), 3, 0), (248, .iload 7, 2, 0), (250, .iload 10, 2, 0), (252, .ifCond .ge (.ofNat 259), 3, 0), (255, .iconst (0), 1, 0), (256, .goto (.ofNat 265), 3, 0), (259, .aload 0, 1, 0), (260, .iload 10, 2, 0), (262, .invokevirtual 87, 3, 0), (265, .iadd, 1, 0), (266, .istore 7, 2, 0), (268, .iload 4, 2, 0), (270, .aload 0, 1, 0), (271, .invokeinterface 9 15, 3, 43), (274, .iconst (100), 2, 0), (276, .iload 1, 1, 0), (277, .iconst (1), 1, 0), (278, .isub, 1, 0), (279, .imul, 1, 0), (280, .iload 9, 2, 0), (282, .iadd, 1, 0), (283, .iaload, 1, 0), (284, .isub, 1, 0), (285, .istore 11, 2, 0), (287, .iload 8, 2, 0), (289, .iload 11, 2, 0), (291, .ifCond .ge (.ofNat 298), 3, 0), (294, .iconst (0), 1, 0), (295, .goto (.ofNat 304), 3, 0), (298, .aload 0, 1, 0), (299, .iload 11, 2, 0), (301, .invokevirtual 87, 3, 0), (304, .iadd, 1, 0), (305, .istore 8, 2, 0), (307, .iinc 9 1, 3, 0), (310, .goto (.ofNat 99), 3, 0), (313, .return_, 1, 0)]
def mX9_goes : zM := (cX9_goes, tX9_goes, RX9, wsX9_goes, { frames := 1, cells := 0, slots := 0, locals := 24 })
theorem kX9_goes : mX9_goes.2.1.all (fun r => zok mX9_goes r && zrt none r.2.1) = true := by decide +kernel
def tX9_in : List (Nat × Instr × Nat × Nat) := [(0, .iload 0, 1, 0), (1, .iload 1, 1, 0), (2, .if_icmp .lt (.ofNat 14), 3, 0), (5, .iload 0, 1, 0), (6, .iload 2, 1, 0), (7, .if_icmp .gt (.ofNat 14), 3, 0), (10, .iconst (1), 1, 0), (11, .goto (.ofNat 15), 3, 0), (14, .iconst (0), 1, 0), (15, .dreturn, 1, 0)]
def mX9_in : zM := (cX9_in, tX9_in, RX9, wsX9_in, { frames := 0, cells := 0, slots := 0, locals := 0 })
theorem kX9_in : mX9_in.2.1.all (fun r => zok mX9_in r && zrt (some .boolean) r.2.1) = true := by decide +kernel
def tX9_init : List (Nat × Instr × Nat × Nat) := [(0, .aload 0, 1, 0), (1, .invokespecial 1, 3, 0), (4, .aload 0, 1, 0), (5, .iconst (17), 2, 0), (12, .aload 0, 1, 0), (13, .iconst (64), 2, 0), (20, .aload 0, 1, 0), (21, .iconst (256), 3, 0), (29, .aload 0, 1, 0), (30, .iconst (192), 3, 0), (38, .aload 0, 1, 0), (39, .iconst (960), 3, 0), (47, .aload 0, 1, 0), (48, .iconst (960), 3, 0), (56, .aload 0, 1, 0), (57, .iconst (4096), 3, 0), (65, .aload 0, 1, 0), (66, .iconst (6), 2, 0), (73, .aload 0, 1, 0), (74, .iconst (12), 2, 0), (81, .aload 0, 1, 0), (82, .iconst (156), 3, 0), (90, .aload 0, 1, 0), (91, .iconst (6), 2, 0), (98, .aload 0, 1, 0), (99, .iconst (600), 3, 0), (107, .aload 0, 1, 0), (108, .iconst (3000), 3, 0), (116, .aload 0, 1, 0), (117, .iconst (450), 3, 0), (125, .aload 0, 1, 0), (126, .iconst (4000), 3, 0), (134, .aload 0, 1, 0), (135, .iconst (400), 3, 0), (143, .aload 0, 1, 0), (144, .iconst (10), 2, 0), (151, .aload 0, 1, 0), (152, .iconst (2000), 3, 0), (160, .aload 0, 1, 0), (161, .iconst (2000), 3, 0), (169, .aload 0, 1, 0), (170, .iconst (100), 2, 0), (177, .aload 0, 1, 0), (178, .invokevirtual 71, 3, 0), (181, .aload 0, 1, 0), (182, .invokevirtual 74, 3, 0), (185, .aload 0, 1, 0), (186, .invokevirtual 77, 3, 0), (189, .aload 0, 1, 0), (190, .invokevirtual 80, 3, 0), (193, .return_, 1, 0)]
def mX9_init : zM := (cX9_init, tX9_init, RX9, wsX9_init, { frames := 4, cells := 0, slots := 0, locals := 98 })
theorem kX9_init : mX9_init.2.1.all (fun r => zok mX9_init r && zrt none r.2.1) = true := by decide +kernel
def tX9_isElement : List (Nat × Instr × Nat × Nat) := [(0, .iload 1, 1, 0), (1, .iconst (0), 1, 0), (2, .aload 0, 1, 0), (3, .invokeinterface 9 10, 3, 146), (6, .iconst (1), 1, 0), (7, .isub, 1, 0), (8, .invokestatic 122, 3, 0), (11, .dreturn, 1, 0)]
def mX9_isElement : zM := (cX9_isElement, tX9_isElement, RX9, wsX9_isElement, { frames := 1, cells := 0, slots := 0, locals := 22 })
theorem kX9_isElement : mX9_isElement.2.1.all (fun r => zok mX9_isElement r && zrt (some .boolean) r.2.1) = true := by decide +kernel
def tX9_isOdd : List (Nat × Instr × Nat × Nat) := [(0, .iload 1, 1, 0), (1, .ifCond .lt (.ofNat 21), 3, 0), (4, .iload 1, 1, 0), (5, .iload 0, 1, 0), (6, .if_icmp .gt (.ofNat 21), 3, 0), (9, .iload 1, 1, 0), (10, .iload 0, 1, 0), (11, .iconst (-1), 1, 0), (12, .ixor, 1, 0), (13, .iand, 1, 0), (14, .ifCond .ne (.ofNat 21), 3, 0), (17, .iconst (1), 1, 0), (18, .goto (.ofNat 22), 3, 0), (21, .iconst (0), 1, 0), (22, .dreturn, 1, 0)]
def mX9_isOdd : zM := (cX9_isOdd, tX9_isOdd, RX9, wsX9_isOdd, { frames := 0, cells := 0, slots := 0, locals := 0 })
theorem kX9_isOdd : mX9_isOdd.2.1.all (fun r => zok mX9_isOdd r && zrt (some .boolean) r.2.1) = true := by decide +kernel
def tX9_isPlace : List (Nat × Instr × Nat × Nat) := [(0, .iload 0, 1, 0), (1, .iconst (0), 1, 0), (2, .iconst (5), 1, 0), (3, .invokestatic 122, 3, 0), (6, .ifCond .eq (.ofNat 23), 3, 0), (9, .iload 1, 1, 0), (10, .iconst (0), 1, 0), (11, .iconst (14), 2, 0), (13, .invokestatic 122, 3, 0), (16, .ifCond .eq (.ofNat 23), 3, 0), (19, .iconst (1), 1, 0), (20, .goto (.ofNat 24), 3, 0), (23, .iconst (0), 1, 0), (24, .dreturn, 1, 0)]
def mX9_isPlace : zM := (cX9_isPlace, tX9_isPlace, RX9, wsX9_isPlace, { frames := 1, cells := 0, slots := 0, locals := 22 })
theorem kX9_isPlace : mX9_isPlace.2.1.all (fun r => zok mX9_isPlace r && zrt (some .boolean) r.2.1) = true := by decide +kernel
def tX9_isSound : List (Nat × Instr × Nat × Nat) := [(0, .aload 0, 1, 0), (1, .invokevirtual 172, 3, 0), (4, .ifCond .ge (.ofNat 11), 3, 0), (7, .iconst (1), 1, 0), (8, .goto (.ofNat 12), 3, 0), (11, .iconst (0), 1, 0), (12, .dreturn, 1, 0)]
def mX9_isSound : zM := (cX9_isSound, tX9_isSound, RX9, wsX9_isSound, { frames := 2, cells := 0, slots := 0, locals := 49 })
theorem kX9_isSound : mX9_isSound.2.1.all (fun r => zok mX9_isSound r && zrt (some .boolean) r.2.1) = true := by decide +kernel
def tX9_joins : List (Nat × Instr × Nat × Nat) := [(0, .iload 1, 1, 0), (1, .iconst (0), 1, 0), (2, .iconst (3), 1, 0), (3, .invokestatic 122, 3, 0), (6, .ifCond .eq (.ofNat 32), 3, 0), (9, .iload 2, 1, 0), (10, .iconst (0), 1, 0), (11, .iconst (4), 1, 0), (12, .invokestatic 122, 3, 0), (15, .ifCond .eq (.ofNat 32), 3, 0), (18, .iload 3, 1, 0), (19, .iconst (0), 1, 0), (20, .iconst (14), 2, 0), (22, .iconst (1), 1, 0), (23, .iload 1, 1, 0), (24, .ishl, 1, 0), (25, .isub, 1, 0), (26, .invokestatic 122, 3, 0), (29, .ifCond .ne (.ofNat 34), 3, 0), (32, .iconst (-1), 1, 0), (33, .ireturn, 1, 0), (34, .aload 0, 1, 0), (35, .invokevirtual 219, 3, 0), (38, .ifCond .ne (.ofNat 44), 3, 0), (41, .iconst (-2), 2, 0), (43, .ireturn, 1, 0), (44, .aload 0, 1, 0), (45, .invokevirtual 213, 3, 0), (48, .iconst (1), 1, 0), (49, .iload 1, 1, 0), (50, .ishl, 1, 0), (51, .istore 4, 2, 0), (53, .aload 0, 1, 0), (54, .iload 4, 2, 0), (56, .invokevirtual 87, 3, 0), (59, .iconst (1), 1, 0), (60, .isub, 1, 0), (61, .istore 5, 2, 0), (63, .iconst (0), 1, 0), (64, .istore 6, 2, 0), (66, .iconst (0), 1, 0), (67, .istore 7, 2, 0), (69, .iload 7, 2, 0), (71, .aload 0, 1, 0), (72, .invokeinterface 9 14, 3, 40), (75, .iload 2, 1, 0), (76, .iconst (1), 1, 0), (77, .iadd, 1, 0), (78, .iaload, 1, 0), (79, .if_icmp .ge (.ofNat 228), 3, 0), (82, .iconst (100), 2, 0), (84, .iload 2, 1, 0), (85, .iconst (1), 1, 0), (86, .iadd, 1, 0), (87, .imul, 1, 0), (88, .iload 7, 2, 0), (90, .iadd, 1, 0), (91, .istore 8, 2, 0), (93, .aload 0, 1, 0), (94, .invokeinterface 9 15, 3, 43), (97, .iload 8, 2, 0), (99, .iaload, 1, 0), (100, .iload 3, 1, 0), (101, .iload 4, 2, 0), (103, .iadd, 1, 0), (104, .if_icmp .ne (.ofNat 222), 3, 0), (107, .aload 0, 1, 0), (108, .invokeinterface 9 29, 3, 68), (111, .iload 6, 2, 0), (113, .iconst (0), 1, 0), (114, .iastore, 1, 0), (115, .iconst (0), 1, 0), (116, .istore 9, 2, 0), (118, .iconst (0), 1, 0), (119, .istore 10, 2, 0), (121, .iload 10, 2, 0), (123, .aload 0, 1, 0), (124, .invokeinterface 9 14, 3, 40), (127, .iload 2, 1, 0), (128, .iaload, 1, 0), (129, .if_icmp .ge (.ofNat 219), 3, 0), (132, .aload 0, 1, 0), (133, .invokeinterface 9 15, 3, 43), (136, .iconst (100), 2, 0), (138, .iload 2, 1, 0), (139, .imul, 1, 0), (140, .iload 10, 2, 0), (142, .iadd, 1, 0), (143, .iaload, 1, 0), (144, .iload 3, 1, 0), (145, .if_icmp .ne (.ofNat 213), 3, 0), (148, .aload 0, 1, 0), (149, .iload 2, 1, 0), (150, .iload 10, 2, 0), (152, .iload 3, 1, 0), (153, .iload 4, 2, 0), (155, .iadd, 1, 0), (156, .invokevirtual 175, 3, 0), (159, .iload 5, 2, 0), (161, .iadd, 1, 0), (162, .istore 11, 2, 0), (164, .aload 0, 1, 0), (165, .invokeinterface 9 29, 3, 68), (168, .iload 6, 2, 0), (170, .dup2, 1, 0), (171, .iaload, 1, 0), (172, .aload 0, 1, 0), (173, .invokeinterface 9 16, 3, 46), (176, .iconst (5), 1, 0), (177, .iload 8, 2, 0), (179, .imul, 1, 0), (180, .iload 11, 2, 0), (182, .iconst (6), 2, 0), (184, .ishr, 1, 0), (185, .iadd, 1, 0), (186, .laload, 1, 0), (187, .iload 11, 2, 0), (189, .iconst (63), 2, 0), (191, .iand, 1, 0), (192, .lshr, 1, 0), (193, .lconst 1, 1, 0), (194, .land, 1, 0), (195, .lconst 1, 1, 0), (196, .lcmp, 1, 0), (197, .ifCond .ne (.ofNat 207), 3, 0), (200, .iconst (1), 1, 0), (201, .iload 9, 2, 0), (203, .ishl, 1, 0), (204, .goto (.ofNat 208), 3, 0), (207, .iconst (0), 1, 0), (208, .ior, 1, 0), (209, .iastore, 1, 0), (210, .iinc 9 1, 3, 0), (213, .iinc 10 1, 3, 0), (216, .goto (.ofNat 121), 3, 0), (219, .iinc 6 1, 3, 0), (222, .iinc 7 1, 3, 0), (225, .goto (.ofNat 69), 3, 0), (228, .aload 0, 1, 0), (229, .aload 0, 1, 0), (230, .invokeinterface 9 29, 3, 68), (233, .iload 6, 2, 0), (235, .invokevirtual 226, 3, 0), (238, .ireturn, 1, 0)]
def mX9_joins : zM := (cX9_joins, tX9_joins, RX9, wsX9_joins, { frames := 4, cells := 0, slots := 0, locals := 108 })
theorem kX9_joins : mX9_joins.2.1.all (fun r => zok mX9_joins r && zrt (some .int) r.2.1) = true := by decide +kernel
def tX9_keeps : List (Nat × Instr × Nat × Nat) := [(0, .iconst (0), 1, 0), (1, .istore 2, 1, 0), (2, .iload 2, 1, 0), (3, .iconst (10), 2, 0), (5, .if_icmp .ge (.ofNat 34), 3, 0), (8, .aload 0, 1, 0), (9, .invokeinterface 9 21, 3, 53), (12, .iconst (10), 2, 0), (14, .aload 0, 1, 0), (15, .invokeinterface 9 22, 3, 181), (18, .imul, 1, 0), (19, .iload 2, 1, 0), (20, .iadd, 1, 0), (21, .aload 0, 1, 0), (22, .invokeinterface 9 24, 3, 59), (25, .iload 2, 1, 0), (26, .laload, 1, 0), (27, .lastore, 1, 0), (28, .iinc 2 1, 3, 0), (31, .goto (.ofNat 2), 3, 0), (34, .aload 0, 1, 0), (35, .invokeinterface 9 23, 3, 56), (38, .aload 0, 1, 0), (39, .invokeinterface 9 22, 3, 181), (42, .iload 1, 1, 0), (43, .iastore, 1, 0), (44, .aload 0, 1, 0), (45, .dup, 1, 0), (46, .invokeinterface 9 22, 3, 181), (49, .iconst (1), 1, 0), (50, .iadd, 1, 0), (51, .multianewarray 9 22, 3, 181), (54, .return_, 1, 0)]
def mX9_keeps : zM := (cX9_keeps, tX9_keeps, RX9, wsX9_keeps, { frames := 0, cells := 0, slots := 0, locals := 0 })
theorem kX9_keeps : mX9_keeps.2.1.all (fun r => zok mX9_keeps r && zrt none r.2.1) = true := by decide +kernel
def tX9_layAll : List (Nat × Instr × Nat × Nat) := [(0, .aload 0, 1, 0), (1, .invokeinterface 9 13, 3, 139), (4, .ifCond .eq (.ofNat 8), 3, 0), (7, .return_, 1, 0), (8, .aload 0, 1, 0), (9, .iconst (1), 1, 0), (10, .putstatic 589, 3, 139), (13, .iconst (0), 1, 0), (14, .istore 1, 1, 0), (15, .iload 1, 1, 0), (16, .iconst (6), 2, 0), (18, .if_icmp .ge (.ofNat 34), 3, 0), (21, .aload 0, 1, 0), (22, .invokeinterface 9 14, 3, 40), (25, .iload 1, 1, 0), (26, .iconst (0), 1, 0), (27, .iastore, 1, 0), (28, .iinc 1 1, 3, 0), (31, .goto (.ofNat 15), 3, 0), (34, .iconst (0), 1, 0), (35, .istore 1, 1, 0), (36, .iload 1, 1, 0), (37, .iconst (14), 2, 0), (39, .if_icmp .gt (.ofNat 73), 3, 0), (42, .aload 0, 1, 0), (43, .iconst (0), 1, 0), (44, .multianewarray 9 26, 3, 203), (47, .iconst (0), 1, 0), (48, .istore 2, 1, 0), (49, .iload 2, 1, 0), (50, .iconst (6), 2, 0), (52, .if_icmp .ge (.ofNat 67), 3, 0), (55, .aload 0, 1, 0), (56, .iload 2, 1, 0), (57, .iload 1, 1, 0), (58, .invokevirtual 210, 3, 0), (61, .iinc 2 1, 3, 0), (64, .goto (.ofNat 49), 3, 0), (67, .iinc 1 1, 3, 0), (70, .goto (.ofNat 36), 3, 0), (73, .return_, 1, 0)]
def mX9_layAll : zM := (cX9_layAll, tX9_layAll, RX9, wsX9_layAll, { frames := 3, cells := 0, slots := 0, locals := 86 })
theorem kX9_layAll : mX9_layAll.2.1.all (fun r => zok mX9_layAll r && zrt none r.2.1) = true := by decide +kernel
def tX9_lays : List (Nat × Instr × Nat × Nat) := [(0, .aload 0, 1, 0), (1, .iconst (0), 1, 0), (2, .multianewarray 9 22, 3, 181), (5, .aload 0, 1, 0), (6, .iconst (0), 1, 0), (7, .multianewarray 9 28, 3, 187), (10, .iconst (0), 1, 0), (11, .istore 3, 1, 0), (12, .iconst (0), 1, 0), (13, .istore 4, 2, 0), (15, .iload 4, 2, 0), (17, .aload 0, 1, 0), (18, .invokeinterface 9 14, 3, 40), (21, .iload 1, 1, 0), (22, .iaload, 1, 0), (23, .if_icmp .ge (.ofNat 182), 3, 0), (26, .iload 2, 1, 0), (27, .aload 0, 1, 0), (28, .invokeinterface 9 15, 3, 43), (31, .iconst (100), 2, 0), (33, .iload 1, 1, 0), (34, .imul, 1, 0), (35, .iload 4, 2, 0), (37, .iadd, 1, 0), (38, .iaload, 1, 0), (39, .isub, 1, 0), (40, .istore 5, 2, 0), (42, .aload 0, 1, 0), (43, .invokeinterface 9 0, 3, 7), (46, .iload 5, 2, 0), (48, .iaload, 1, 0), (49, .istore 6, 2, 0), (51, .iload 6, 2, 0), (53, .aload 0, 1, 0), (54, .invokeinterface 9 0, 3, 7), (57, .iload 5, 2, 0), (59, .iconst (1), 1, 0), (60, .iadd, 1, 0), (61, .iaload, 1, 0), (62, .if_icmp .ge (.ofNat 176), 3, 0), (65, .aload 0, 1, 0), (66, .invokevirtual 190, 3, 0), (69, .aload 0, 1, 0), (70, .iload 1, 1, 0), (71, .iload 4, 2, 0), (73, .iload 6, 2, 0), (75, .iload 2, 1, 0), (76, .invokevirtual 193, 3, 0), (79, .aload 0, 1, 0), (80, .invokeinterface 9 24, 3, 59), (83, .iconst (5), 1, 0), (84, .iload 3, 1, 0), (85, .iconst (6), 2, 0), (87, .ishr, 1, 0), (88, .iadd, 1, 0), (89, .dup2, 1, 0), (90, .laload, 1, 0), (91, .lconst 1, 1, 0), (92, .iload 3, 1, 0), (93, .iconst (63), 2, 0), (95, .iand, 1, 0), (96, .lshl, 1, 0), (97, .lor, 1, 0), (98, .lastore, 1, 0), (99, .iinc 3 1, 3, 0), (102, .aload 0, 1, 0), (103, .invokevirtual 197, 3, 0), (106, .istore 7, 2, 0), (108, .iload 7, 2, 0), (110, .ifCond .lt (.ofNat 122), 3, 0), (113, .aload 0, 1, 0), (114, .iload 7, 2, 0), (116, .invokevirtual 200, 3, 0), (119, .goto (.ofNat 170), 3, 0), (122, .iconst (0), 1, 0), (123, .istore 8, 2, 0), (125, .iload 8, 2, 0), (127, .iconst (5), 1, 0), (128, .if_icmp .ge (.ofNat 160), 3, 0), (131, .aload 0, 1, 0), (132, .invokeinterface 9 27, 3, 65), (135, .iconst (5), 1, 0), (136, .aload 0, 1, 0), (137, .invokeinterface 9 28, 3, 187), (140, .imul, 1, 0), (141, .iload 8, 2, 0), (143, .iadd, 1, 0), (144, .aload 0, 1, 0), (145, .invokeinterface 9 24, 3, 59), (148, .iconst (5), 1, 0), (149, .iload 8, 2, 0), (151, .iadd, 1, 0), (152, .laload, 1, 0), (153, .lastore, 1, 0), (154, .iinc 8 1, 3, 0), (157, .goto (.ofNat 125), 3, 0), (160, .aload 0, 1, 0), (161, .dup, 1, 0), (162, .invokeinterface 9 28, 3, 187), (165, .iconst (1), 1, 0), (166, .iadd, 1, 0), (167, .multianewarray 9 28, 3, 187), (170, .iinc 6 1, 3, 0), (173, .goto (.ofNat 51), 3, 0), (176, .iinc 4 1, 3, 0), (179, .goto (.ofNat 15), 3, 0), (182, .iload 1, 1, 0), (183, .ifCond .ne (.ofNat 193), 3, 0), (186, .aload 0, 1, 0), (187, .invokeinterface 9 10, 3, 146), (190, .goto (.ofNat 197), 3, 0), (193, .aload 0, 1, 0), (194, .invokeinterface 9 26, 3, 203), (197, .istore 4, 2, 0), (199, .iconst (0), 1, 0), (200, .istore 5, 2, 0), (202, .iload 5, 2, 0), (204, .iload 4, 2, 0), (206, .if_icmp .ge (.ofNat 379), 3, 0), (209, .aload 0, 1, 0), (210, .invokevirtual 190, 3, 0), (213, .iconst (0), 1, 0), (214, .istore 6, 2, 0), (216, .iload 6, 2, 0), (218, .iconst (5), 1, 0), (219, .if_icmp .ge (.ofNat 278), 3, 0), (222, .aload 0, 1, 0), (223, .invokeinterface 9 24, 3, 59), (226, .iload 6, 2, 0), (228, .iload 1, 1, 0), (229, .ifCond .ne (.ofNat 259), 3, 0), (232, .iload 6, 2, 0), (234, .ifCond .ne (.ofNat 255), 3, 0), (237, .aload 0, 1, 0), (238, .invokeinterface 9 11, 3, 34), (241, .iload 5, 2, 0), (243, .iaload, 1, 0), (244, .iload 2, 1, 0), (245, .if_icmp .ne (.ofNat 255), 3, 0), (248, .lconst 1, 1, 0), (249, .iload 5, 2, 0), (251, .lshl, 1, 0), (252, .goto (.ofNat 271), 3, 0), (255, .lconst 0, 1, 0), (256, .goto (.ofNat 271), 3, 0), (259, .aload 0, 1, 0), (260, .invokeinterface 9 25, 3, 62), (263, .iconst (5), 1, 0), (264, .iload 5, 2, 0), (266, .imul, 1, 0), (267, .iload 6, 2, 0), (269, .iadd, 1, 0), (270, .laload, 1, 0), (271, .lastore, 1, 0), (272, .iinc 6 1, 3, 0), (275, .goto (.ofNat 216), 3, 0), (278, .aload 0, 1, 0), (279, .invokevirtual 197, 3, 0), (282, .istore 6, 2, 0), (284, .iload 6, 2, 0), (286, .ifCond .lt (.ofNat 373), 3, 0), (289, .aload 0, 1, 0), (290, .iload 6, 2, 0), (292, .invokevirtual 200, 3, 0), (295, .iconst (100), 2, 0), (297, .iload 1, 1, 0), (298, .imul, 1, 0), (299, .aload 0, 1, 0), (300, .invokeinterface 9 14, 3, 40), (303, .iload 1, 1, 0), (304, .iaload, 1, 0), (305, .iadd, 1, 0), (306, .istore 7, 2, 0), (308, .iconst (0), 1, 0), (309, .istore 8, 2, 0), (311, .iload 8, 2, 0), (313, .iconst (5), 1, 0), (314, .if_icmp .ge (.ofNat 367), 3, 0), (317, .aload 0, 1, 0), (318, .invokeinterface 9 16, 3, 46), (321, .iconst (5), 1, 0), (322, .iload 7, 2, 0), (324, .imul, 1, 0), (325, .iload 8, 2, 0), (327, .iadd, 1, 0), (328, .iload 1, 1, 0), (329, .ifCond .ne (.ofNat 348), 3, 0), (332, .iload 8, 2, 0), (334, .ifCond .ne (.ofNat 344), 3, 0), (337, .lconst 1, 1, 0), (338, .iload 5, 2, 0), (340, .lshl, 1, 0), (341, .goto (.ofNat 360), 3, 0), (344, .lconst 0, 1, 0), (345, .goto (.ofNat 360), 3, 0), (348, .aload 0, 1, 0), (349, .invokeinterface 9 25, 3, 62), (352, .iconst (5), 1, 0), (353, .iload 5, 2, 0), (355, .imul, 1, 0), (356, .iload 8, 2, 0), (358, .iadd, 1, 0), (359, .laload, 1, 0), (360, .lastore, 1, 0), (361, .iinc 8 1, 3, 0), (364, .goto (.ofNat 311), 3, 0), (367, .aload 0, 1, 0), (368, .iload 1, 1, 0), (369, .iload 2, 1, 0), (370, .invokevirtual 206, 3, 0), (373, .iinc 5 1, 3, 0), (376, .goto (.ofNat 202), 3, 0), (379, .aload 0, 1, 0), (380, .aload 0, 1, 0), (381, .invokeinterface 9 28, 3, 187), (384, .multianewarray 9 26, 3, 203), (387, .iconst (0), 1, 0), (388, .istore 5, 2, 0), (390, .iload 5, 2, 0), (392, .iconst (5), 1, 0), (393, .aload 0, 1, 0), (394, .invokeinterface 9 28, 3, 187), (397, .imul, 1, 0), (398, .if_icmp .ge (.ofNat 421), 3, 0), (401, .aload 0, 1, 0), (402, .invokeinterface 9 25, 3, 62), (405, .iload 5, 2, 0), (407, .aload 0, 1, 0), (408, .invokeinterface 9 27, 3, 65), (411, .iload 5, 2, 0), (413, .laload, 1, 0), (414, .lastore, 1, 0), (415, .iinc 5 1, 3, 0), (418, .goto (.ofNat 390), 3, 0), (421, .return_, 1, 0)]
def mX9_lays : zM := (cX9_lays, tX9_lays, RX9, wsX9_lays, { frames := 2, cells := 0, slots := 0, locals := 58 })
theorem kX9_lays : mX9_lays.2.1.all (fun r => zok mX9_lays r && zrt none r.2.1) = true := by decide +kernel
def tX9_lead : List (Nat × Instr × Nat × Nat) := [(0, .iconst (0), 1, 0), (1, .istore 1, 1, 0), (2, .iload 1, 1, 0), (3, .iconst (5), 1, 0), (4, .if_icmp .ge (.ofNat 55), 3, 0), (7, .aload 0, 1, 0), (8, .invokeinterface 9 24, 3, 59), (11, .iload 1, 1, 0), (12, .laload, 1, 0), (13, .lconst 0, 1, 0), (14, .lcmp, 1, 0), (15, .ifCond .eq (.ofNat 49), 3, 0), (18, .iconst (64), 2, 0), (20, .iload 1, 1, 0), (21, .imul, 1, 0), (22, .istore 2, 1, 0), (23, .aload 0, 1, 0), (24, .invokeinterface 9 24, 3, 59), (27, .iload 1, 1, 0), (28, .laload, 1, 0), (29, .iload 2, 1, 0), (30, .iconst (63), 2, 0), (32, .iand, 1, 0), (33, .lshr, 1, 0), (34, .lconst 1, 1, 0), (35, .land, 1, 0), (36, .lconst 0, 1, 0), (37, .lcmp, 1, 0), (38, .ifCond .ne (.ofNat 47), 3, 0), (41, .iinc 2 1, 3, 0), (44, .goto (.ofNat 23), 3, 0), (47, .iload 2, 1, 0), (48, .ireturn, 1, 0), (49, .iinc 1 1, 3, 0), (52, .goto (.ofNat 2), 3, 0), (55, .iconst (-1), 1, 0), (56, .ireturn, 1, 0)]
def mX9_lead : zM := (cX9_lead, tX9_lead, RX9, wsX9_lead, { frames := 0, cells := 0, slots := 0, locals := 0 })
theorem kX9_lead : mX9_lead.2.1.all (fun r => zok mX9_lead r && zrt (some .int) r.2.1) = true := by decide +kernel
def tX9_live : List (Nat × Instr × Nat × Nat) := [(0, .iload 1, 1, 0), (1, .iload 2, 1, 0), (2, .invokestatic 216, 3, 0), (5, .ifCond .ne (.ofNat 12), 3, 0), (8, .iconst (-1), 1, 0), (9, .goto (.ofNat 30), 3, 0), (12, .aload 0, 1, 0), (13, .invokevirtual 219, 3, 0), (16, .ifCond .ne (.ofNat 24), 3, 0), (19, .iconst (-2), 2, 0), (21, .goto (.ofNat 30), 3, 0), (24, .aload 0, 1, 0), (25, .iload 1, 1, 0), (26, .iload 2, 1, 0), (27, .invokevirtual 223, 3, 0), (30, .ireturn, 1, 0)]
def mX9_live : zM := (cX9_live, tX9_live, RX9, wsX9_live, { frames := 5, cells := 0, slots := 0, locals := 132 })
theorem kX9_live : mX9_live.2.1.all (fun r => zok mX9_live r && zrt (some .int) r.2.1) = true := by decide +kernel
def tX9_liveAt : List (Nat × Instr × Nat × Nat) := [(0, .aload 0, 1, 0), (1, .invokevirtual 213, 3, 0), (4, .iconst (0), 1, 0), (5, .istore 3, 1, 0), (6, .iconst (0), 1, 0), (7, .istore 4, 2, 0), (9, .iload 4, 2, 0), (11, .aload 0, 1, 0), (12, .invokeinterface 9 14, 3, 40), (15, .iload 1, 1, 0), (16, .iaload, 1, 0), (17, .if_icmp .ge (.ofNat 50), 3, 0), (20, .iload 3, 1, 0), (21, .aload 0, 1, 0), (22, .invokeinterface 9 15, 3, 43), (25, .iconst (100), 2, 0), (27, .iload 1, 1, 0), (28, .imul, 1, 0), (29, .iload 4, 2, 0), (31, .iadd, 1, 0), (32, .iaload, 1, 0), (33, .iload 2, 1, 0), (34, .if_icmp .ne (.ofNat 41), 3, 0), (37, .iconst (1), 1, 0), (38, .goto (.ofNat 42), 3, 0), (41, .iconst (0), 1, 0), (42, .iadd, 1, 0), (43, .istore 3, 1, 0), (44, .iinc 4 1, 3, 0), (47, .goto (.ofNat 9), 3, 0), (50, .iload 3, 1, 0), (51, .ireturn, 1, 0)]
def mX9_liveAt : zM := (cX9_liveAt, tX9_liveAt, RX9, wsX9_liveAt, { frames := 4, cells := 0, slots := 0, locals := 108 })
theorem kX9_liveAt : mX9_liveAt.2.1.all (fun r => zok mX9_liveAt r && zrt (some .int) r.2.1) = true := by decide +kernel
def tX9_many : List (Nat × Instr × Nat × Nat) := [(0, .iload 1, 1, 0), (1, .iconst (0), 1, 0), (2, .iconst (14), 2, 0), (4, .invokestatic 122, 3, 0), (7, .ifCond .eq (.ofNat 18), 3, 0), (10, .aload 0, 1, 0), (11, .iload 1, 1, 0), (12, .invokevirtual 87, 3, 0), (15, .goto (.ofNat 19), 3, 0), (18, .iconst (-1), 1, 0), (19, .ireturn, 1, 0)]
def mX9_many : zM := (cX9_many, tX9_many, RX9, wsX9_many, { frames := 1, cells := 0, slots := 0, locals := 22 })
theorem kX9_many : mX9_many.2.1.all (fun r => zok mX9_many r && zrt (some .int) r.2.1) = true := by decide +kernel
def tX9_manyOf : List (Nat × Instr × Nat × Nat) := [(0, .aload 0, 1, 0), (1, .invokeinterface 9 0, 3, 7), (4, .iload 1, 1, 0), (5, .iconst (1), 1, 0), (6, .iadd, 1, 0), (7, .iaload, 1, 0), (8, .aload 0, 1, 0), (9, .invokeinterface 9 0, 3, 7), (12, .iload 1, 1, 0), (13, .iaload, 1, 0), (14, .isub, 1, 0), (15, .ireturn, 1, 0)]
def mX9_manyOf : zM := (cX9_manyOf, tX9_manyOf, RX9, wsX9_manyOf, { frames := 0, cells := 0, slots := 0, locals := 0 })
theorem kX9_manyOf : mX9_manyOf.2.1.all (fun r => zok mX9_manyOf r && zrt (some .int) r.2.1) = true := by decide +kernel
def tX9_ofDegree : List (Nat × Instr × Nat × Nat) := [(0, .iconst (0), 1, 0), (1, .istore 2, 1, 0), (2, .iconst (0), 1, 0), (3, .istore 3, 1, 0), (4, .iload 3, 1, 0), (5, .aload 0, 1, 0), (6, .invokeinterface 9 10, 3, 146), (9, .if_icmp .ge (.ofNat 38), 3, 0), (12, .iload 2, 1, 0), (13, .aload 0, 1, 0), (14, .invokeinterface 9 11, 3, 34), (17, .iload 3, 1, 0), (18, .iaload, 1, 0), (19, .iload 1, 1, 0), (20, .if_icmp .ne (.ofNat 29), 3, 0), (23, .iconst (1), 1, 0), (24, .iload 3, 1, 0), (25, .ishl, 1, 0), (26, .goto (.ofNat 30), 3, 0), (29, .iconst (0), 1, 0), (30, .ior, 1, 0), (31, .istore 2, 1, 0), (32, .iinc 3 1, 3, 0), (35, .goto (.ofNat 4), 3, 0), (38, .iload 2, 1, 0), (39, .ireturn, 1, 0)]
def mX9_ofDegree : zM := (cX9_ofDegree, tX9_ofDegree, RX9, wsX9_ofDegree, { frames := 0, cells := 0, slots := 0, locals := 0 })
theorem kX9_ofDegree : mX9_ofDegree.2.1.all (fun r => zok mX9_ofDegree r && zrt (some .int) r.2.1) = true := by decide +kernel
def tX9_offset : List (Nat × Instr × Nat × Nat) := [(0, .iconst (0), 1, 0), (1, .istore 4, 2, 0), (3, .iconst (0), 1, 0), (4, .istore 5, 2, 0), (6, .iload 5, 2, 0), (8, .iload 2, 1, 0), (9, .if_icmp .ge (.ofNat 54), 3, 0), (12, .iload 3, 1, 0), (13, .aload 0, 1, 0), (14, .invokeinterface 9 15, 3, 43), (17, .iconst (100), 2, 0), (19, .iload 1, 1, 0), (20, .imul, 1, 0), (21, .iload 5, 2, 0), (23, .iadd, 1, 0), (24, .iaload, 1, 0), (25, .isub, 1, 0), (26, .istore 6, 2, 0), (28, .iload 4, 2, 0), (30, .iload 6, 2, 0), (32, .ifCond .ge (.ofNat 39), 3, 0), (35, .iconst (0), 1, 0), (36, .goto (.ofNat 45), 3, 0), (39, .aload 0, 1, 0), (40, .iload 6, 2, 0), (42, .invokevirtual 87, 3, 0), (45, .iadd, 1, 0), (46, .istore 4, 2, 0), (48, .iinc 5 1, 3, 0), (51, .goto (.ofNat 6), 3, 0), (54, .iload 4, 2, 0), (56, .ireturn, 1, 0)]
def mX9_offset : zM := (cX9_offset, tX9_offset, RX9, wsX9_offset, { frames := 1, cells := 0, slots := 0, locals := 21 })
theorem kX9_offset : mX9_offset.2.1.all (fun r => zok mX9_offset r && zrt (some .int) r.2.1) = true := by decide +kernel
def tX9_ones : List (Nat × Instr × Nat × Nat) := [(0, .iconst (0), 1, 0), (1, .istore 1, 1, 0), (2, .iload 0, 1, 0), (3, .istore 2, 1, 0), (4, .iload 2, 1, 0), (5, .ifCond .eq (.ofNat 20), 3, 0), (8, .iinc 1 1, 3, 0), (11, .iload 2, 1, 0), (12, .iload 2, 1, 0), (13, .iconst (1), 1, 0), (14, .isub, 1, 0), (15, .iand, 1, 0), (16, .istore 2, 1, 0), (17, .goto (.ofNat 4), 3, 0), (20, .iload 1, 1, 0), (21, .ireturn, 1, 0)]
def mX9_ones : zM := (cX9_ones, tX9_ones, RX9, wsX9_ones, { frames := 0, cells := 0, slots := 0, locals := 0 })
theorem kX9_ones : mX9_ones.2.1.all (fun r => zok mX9_ones r && zrt (some .int) r.2.1) = true := by decide +kernel
def tX9_page : List (Nat × Instr × Nat × Nat) := [(0, .iload 1, 1, 0), (1, .iconst (2), 1, 0), (2, .iconst (5), 1, 0), (3, .invokestatic 122, 3, 0), (6, .ifCond .eq (.ofNat 17), 3, 0), (9, .iload 2, 1, 0), (10, .iload 3, 1, 0), (11, .invokestatic 216, 3, 0), (14, .ifCond .ne (.ofNat 21), 3, 0), (17, .iconst (-1), 1, 0), (18, .goto (.ofNat 40), 3, 0), (21, .aload 0, 1, 0), (22, .invokevirtual 219, 3, 0), (25, .ifCond .ne (.ofNat 33), 3, 0), (28, .iconst (-2), 2, 0), (30, .goto (.ofNat 40), 3, 0), (33, .aload 0, 1, 0), (34, .iload 1, 1, 0), (35, .iload 2, 1, 0), (36, .iload 3, 1, 0), (37, .invokevirtual 241, 3, 0), (40, .ireturn, 1, 0)]
def mX9_page : zM := (cX9_page, tX9_page, RX9, wsX9_page, { frames := 6, cells := 0, slots := 0, locals := 157 })
theorem kX9_page : mX9_page.2.1.all (fun r => zok mX9_page r && zrt (some .int) r.2.1) = true := by decide +kernel
def tX9_pageAt : List (Nat × Instr × Nat × Nat) := [(0, .aload 0, 1, 0), (1, .iload 2, 1, 0), (2, .iload 3, 1, 0), (3, .invokevirtual 223, 3, 0), (6, .istore 4, 2, 0), (8, .iconst (2), 1, 0), (9, .istore 5, 2, 0), (11, .iload 5, 2, 0), (13, .iload 1, 1, 0), (14, .if_icmp .ge (.ofNat 36), 3, 0), (17, .iload 4, 2, 0), (19, .aload 0, 1, 0), (20, .iload 5, 2, 0), (22, .iload 2, 1, 0), (23, .iload 3, 1, 0), (24, .invokevirtual 238, 3, 0), (27, .isub, 1, 0), (28, .istore 4, 2, 0), (30, .iinc 5 1, 3, 0), (33, .goto (.ofNat 11), 3, 0), (36, .iload 4, 2, 0), (38, .ireturn, 1, 0)]
def mX9_pageAt : zM := (cX9_pageAt, tX9_pageAt, RX9, wsX9_pageAt, { frames := 5, cells := 0, slots := 0, locals := 132 })
theorem kX9_pageAt : mX9_pageAt.2.1.all (fun r => zok mX9_pageAt r && zrt (some .int) r.2.1) = true := by decide +kernel
def tX9_placeOf : List (Nat × Instr × Nat × Nat) := [(0, .aload 0, 1, 0), (1, .invokeinterface 9 0, 3, 7), (4, .iload 1, 1, 0), (5, .iaload, 1, 0), (6, .istore 5, 2, 0), (8, .iload 5, 2, 0), (10, .aload 0, 1, 0), (11, .invokeinterface 9 0, 3, 7), (14, .iload 1, 1, 0), (15, .iconst (1), 1, 0), (16, .iadd, 1, 0), (17, .iaload, 1, 0), (18, .if_icmp .ge (.ofNat 147), 3, 0), (21, .aload 0, 1, 0), (22, .invokeinterface 9 1, 3, 13), (25, .iload 5, 2, 0), (27, .iaload, 1, 0), (28, .iconst (1), 1, 0), (29, .aload 0, 1, 0), (30, .invokeinterface 9 1, 3, 13), (33, .iload 3, 1, 0), (34, .iaload, 1, 0), (35, .iadd, 1, 0), (36, .iload 4, 2, 0), (38, .isub, 1, 0), (39, .if_icmp .ne (.ofNat 59), 3, 0), (42, .aload 0, 1, 0), (43, .invokeinterface 9 2, 3, 16), (46, .iconst (4), 1, 0), (47, .iload 5, 2, 0), (49, .imul, 1, 0), (50, .iaload, 1, 0), (51, .iload 2, 1, 0), (52, .if_icmp .ne (.ofNat 59), 3, 0), (55, .iconst (1), 1, 0), (56, .goto (.ofNat 60), 3, 0), (59, .iconst (0), 1, 0), (60, .istore 6, 2, 0), (62, .iload 4, 2, 0), (64, .istore 7, 2, 0), (66, .iload 7, 2, 0), (68, .aload 0, 1, 0), (69, .invokeinterface 9 1, 3, 13), (72, .iload 3, 1, 0), (73, .iaload, 1, 0), (74, .if_icmp .ge (.ofNat 126), 3, 0), (77, .iload 6, 2, 0), (79, .ifCond .eq (.ofNat 126), 3, 0), (82, .aload 0, 1, 0), (83, .invokeinterface 9 2, 3, 16), (86, .iconst (4), 1, 0), (87, .iload 5, 2, 0), (89, .imul, 1, 0), (90, .iconst (1), 1, 0), (91, .iadd, 1, 0), (92, .iload 7, 2, 0), (94, .iadd, 1, 0), (95, .iload 4, 2, 0), (97, .isub, 1, 0), (98, .iaload, 1, 0), (99, .aload 0, 1, 0), (100, .invokeinterface 9 2, 3, 16), (103, .iconst (4), 1, 0), (104, .iload 3, 1, 0), (105, .imul, 1, 0), (106, .iload 7, 2, 0), (108, .iadd, 1, 0), (109, .iaload, 1, 0), (110, .if_icmp .ne (.ofNat 117), 3, 0), (113, .iconst (1), 1, 0), (114, .goto (.ofNat 118), 3, 0), (117, .iconst (0), 1, 0), (118, .istore 6, 2, 0), (120, .iinc 7 1, 3, 0), (123, .goto (.ofNat 66), 3, 0), (126, .iload 6, 2, 0), (128, .ifCond .eq (.ofNat 141), 3, 0), (131, .iload 5, 2, 0), (133, .aload 0, 1, 0), (134, .invokeinterface 9 0, 3, 7), (137, .iload 1, 1, 0), (138, .iaload, 1, 0), (139, .isub, 1, 0), (140, .ireturn, 1, 0), (141, .iinc 5 1, 3, 0), (144, .goto (.ofNat 8), 3, 0), (147, .iconst (0), 1, 0), (148, .ireturn, 1, 0)]
def mX9_placeOf : zM := (cX9_placeOf, tX9_placeOf, RX9, wsX9_placeOf, { frames := 0, cells := 0, slots := 0, locals := 0 })
theorem kX9_placeOf : mX9_placeOf.2.1.all (fun r => zok mX9_placeOf r && zrt (some .int) r.2.1) = true := by decide +kernel
def tX9_rankAt : List (Nat × Instr × Nat × Nat) := [(0, .iload 2, 1, 0), (1, .iload 3, 1, 0), (2, .invokestatic 216, 3, 0), (5, .ifCond .eq (.ofNat 27), 3, 0), (8, .aload 0, 1, 0), (9, .invokeinterface 9 18, 3, 50), (12, .iconst (90), 2, 0), (14, .iload 1, 1, 0), (15, .imul, 1, 0), (16, .iconst (15), 2, 0), (18, .iload 2, 1, 0), (19, .imul, 1, 0), (20, .iadd, 1, 0), (21, .iload 3, 1, 0), (22, .iadd, 1, 0), (23, .iaload, 1, 0), (24, .goto (.ofNat 28), 3, 0), (27, .iconst (0), 1, 0), (28, .ireturn, 1, 0)]
def mX9_rankAt : zM := (cX9_rankAt, tX9_rankAt, RX9, wsX9_rankAt, { frames := 2, cells := 0, slots := 0, locals := 43 })
theorem kX9_rankAt : mX9_rankAt.2.1.all (fun r => zok mX9_rankAt r && zrt (some .int) r.2.1) = true := by decide +kernel
def tX9_rankBoth : List (Nat × Instr × Nat × Nat) := [(0, .aload 0, 1, 0), (1, .iload 1, 1, 0), (2, .iload 2, 1, 0), (3, .iload 3, 1, 0), (4, .invokevirtual 235, 3, 0), (7, .aload 0, 1, 0), (8, .iload 1, 1, 0), (9, .iload 2, 1, 0), (10, .iload 1, 1, 0), (11, .isub, 1, 0), (12, .iload 3, 1, 0), (13, .iload 1, 1, 0), (14, .isub, 1, 0), (15, .iconst (1), 1, 0), (16, .iadd, 1, 0), (17, .invokevirtual 235, 3, 0), (20, .iadd, 1, 0), (21, .ireturn, 1, 0)]
def mX9_rankBoth : zM := (cX9_rankBoth, tX9_rankBoth, RX9, wsX9_rankBoth, { frames := 3, cells := 0, slots := 0, locals := 66 })
theorem kX9_rankBoth : mX9_rankBoth.2.1.all (fun r => zok mX9_rankBoth r && zrt (some .int) r.2.1) = true := by decide +kernel
def tX9_rankOf : List (Nat × Instr × Nat × Nat) := [(0, .iconst (0), 1, 0), (1, .istore 3, 1, 0), (2, .iconst (0), 1, 0), (3, .istore 4, 2, 0), (5, .iload 4, 2, 0), (7, .iconst (31), 2, 0), (9, .if_icmp .ge (.ofNat 115), 3, 0), (12, .iload 3, 1, 0), (13, .istore 5, 2, 0), (15, .iload 5, 2, 0), (17, .iload 2, 1, 0), (18, .if_icmp .ge (.ofNat 39), 3, 0), (21, .aload 1, 1, 0), (22, .iload 5, 2, 0), (24, .iaload, 1, 0), (25, .iload 4, 2, 0), (27, .ishr, 1, 0), (28, .iconst (1), 1, 0), (29, .iand, 1, 0), (30, .ifCond .ne (.ofNat 39), 3, 0), (33, .iinc 5 1, 3, 0), (36, .goto (.ofNat 15), 3, 0), (39, .iload 5, 2, 0), (41, .iload 2, 1, 0), (42, .if_icmp .ge (.ofNat 109), 3, 0), (45, .aload 1, 1, 0), (46, .iload 5, 2, 0), (48, .iaload, 1, 0), (49, .istore 6, 2, 0), (51, .aload 1, 1, 0), (52, .iload 5, 2, 0), (54, .aload 1, 1, 0), (55, .iload 3, 1, 0), (56, .iaload, 1, 0), (57, .iastore, 1, 0), (58, .aload 1, 1, 0), (59, .iload 3, 1, 0), (60, .iload 6, 2, 0), (62, .iastore, 1, 0), (63, .iload 3, 1, 0), (64, .iconst (1), 1, 0), (65, .iadd, 1, 0), (66, .istore 7, 2, 0), (68, .iload 7, 2, 0), (70, .iload 2, 1, 0), (71, .if_icmp .ge (.ofNat 106), 3, 0), (74, .aload 1, 1, 0), (75, .iload 7, 2, 0), (77, .dup2, 1, 0), (78, .iaload, 1, 0), (79, .aload 1, 1, 0), (80, .iload 7, 2, 0), (82, .iaload, 1, 0), (83, .iload 4, 2, 0), (85, .ishr, 1, 0), (86, .iconst (1), 1, 0), (87, .iand, 1, 0), (88, .iconst (1), 1, 0), (89, .if_icmp .ne (.ofNat 97), 3, 0), (92, .iload 6, 2, 0), (94, .goto (.ofNat 98), 3, 0), (97, .iconst (0), 1, 0), (98, .ixor, 1, 0), (99, .iastore, 1, 0), (100, .iinc 7 1, 3, 0), (103, .goto (.ofNat 68), 3, 0), (106, .iinc 3 1, 3, 0), (109, .iinc 4 1, 3, 0), (112, .goto (.ofNat 5), 3, 0), (115, .iload 3, 1, 0), (116, .ireturn, 1, 0)]
def mX9_rankOf : zM := (cX9_rankOf, tX9_rankOf, RX9, wsX9_rankOf, { frames := 0, cells := 0, slots := 0, locals := 0 })
theorem kX9_rankOf : mX9_rankOf.2.1.all (fun r => zok mX9_rankOf r && zrt (some .int) r.2.1) = true := by decide +kernel
def tX9_reduces : List (Nat × Instr × Nat × Nat) := [(0, .iconst (0), 1, 0), (1, .istore 1, 1, 0), (2, .iload 1, 1, 0), (3, .aload 0, 1, 0), (4, .invokeinterface 9 22, 3, 181), (7, .if_icmp .ge (.ofNat 78), 3, 0), (10, .aload 0, 1, 0), (11, .invokeinterface 9 23, 3, 56), (14, .iload 1, 1, 0), (15, .iaload, 1, 0), (16, .istore 2, 1, 0), (17, .aload 0, 1, 0), (18, .invokeinterface 9 24, 3, 59), (21, .iload 2, 1, 0), (22, .iconst (6), 2, 0), (24, .ishr, 1, 0), (25, .laload, 1, 0), (26, .iload 2, 1, 0), (27, .iconst (63), 2, 0), (29, .iand, 1, 0), (30, .lshr, 1, 0), (31, .lconst 1, 1, 0), (32, .land, 1, 0), (33, .lconst 1, 1, 0), (34, .lcmp, 1, 0), (35, .ifCond .ne (.ofNat 72), 3, 0), (38, .iconst (0), 1, 0), (39, .istore 3, 1, 0), (40, .iload 3, 1, 0), (41, .iconst (10), 2, 0), (43, .if_icmp .ge (.ofNat 72), 3, 0), (46, .aload 0, 1, 0), (47, .invokeinterface 9 24, 3, 59), (50, .iload 3, 1, 0), (51, .dup2, 1, 0), (52, .laload, 1, 0), (53, .aload 0, 1, 0), (54, .invokeinterface 9 21, 3, 53), (57, .iconst (10), 2, 0), (59, .iload 1, 1, 0), (60, .imul, 1, 0), (61, .iload 3, 1, 0), (62, .iadd, 1, 0), (63, .laload, 1, 0), (64, .lxor, 1, 0), (65, .lastore, 1, 0), (66, .iinc 3 1, 3, 0), (69, .goto (.ofNat 40), 3, 0), (72, .iinc 1 1, 3, 0), (75, .goto (.ofNat 2), 3, 0), (78, .aload 0, 1, 0), (79, .invokevirtual 184, 3, 0), (82, .ireturn, 1, 0)]
def mX9_reduces : zM := (cX9_reduces, tX9_reduces, RX9, wsX9_reduces, { frames := 1, cells := 0, slots := 0, locals := 22 })
theorem kX9_reduces : mX9_reduces.2.1.all (fun r => zok mX9_reduces r && zrt (some .int) r.2.1) = true := by decide +kernel
def tX9_restOf : List (Nat × Instr × Nat × Nat) := [(0, .iload 2, 1, 0), (1, .aload 0, 1, 0), (2, .invokeinterface 9 2, 3, 16), (5, .iconst (4), 1, 0), (6, .iload 1, 1, 0), (7, .imul, 1, 0), (8, .iaload, 1, 0), (9, .isub, 1, 0), (10, .istore 3, 1, 0), (11, .aload 0, 1, 0), (12, .invokeinterface 9 0, 3, 7), (15, .iload 3, 1, 0), (16, .iaload, 1, 0), (17, .istore 4, 2, 0), (19, .iload 4, 2, 0), (21, .aload 0, 1, 0), (22, .invokeinterface 9 0, 3, 7), (25, .iload 3, 1, 0), (26, .iconst (1), 1, 0), (27, .iadd, 1, 0), (28, .iaload, 1, 0), (29, .if_icmp .ge (.ofNat 132), 3, 0), (32, .aload 0, 1, 0), (33, .invokeinterface 9 1, 3, 13), (36, .iload 4, 2, 0), (38, .iaload, 1, 0), (39, .aload 0, 1, 0), (40, .invokeinterface 9 1, 3, 13), (43, .iload 1, 1, 0), (44, .iaload, 1, 0), (45, .iconst (1), 1, 0), (46, .isub, 1, 0), (47, .if_icmp .ne (.ofNat 54), 3, 0), (50, .iconst (1), 1, 0), (51, .goto (.ofNat 55), 3, 0), (54, .iconst (0), 1, 0), (55, .istore 5, 2, 0), (57, .iconst (0), 1, 0), (58, .istore 6, 2, 0), (60, .iload 6, 2, 0), (62, .aload 0, 1, 0), (63, .invokeinterface 9 1, 3, 13), (66, .iload 4, 2, 0), (68, .iaload, 1, 0), (69, .if_icmp .ge (.ofNat 118), 3, 0), (72, .iload 5, 2, 0), (74, .ifCond .eq (.ofNat 118), 3, 0), (77, .aload 0, 1, 0), (78, .invokeinterface 9 2, 3, 16), (81, .iconst (4), 1, 0), (82, .iload 4, 2, 0), (84, .imul, 1, 0), (85, .iload 6, 2, 0), (87, .iadd, 1, 0), (88, .iaload, 1, 0), (89, .aload 0, 1, 0), (90, .invokeinterface 9 2, 3, 16), (93, .iconst (4), 1, 0), (94, .iload 1, 1, 0), (95, .imul, 1, 0), (96, .iload 6, 2, 0), (98, .iadd, 1, 0), (99, .iconst (1), 1, 0), (100, .iadd, 1, 0), (101, .iaload, 1, 0), (102, .if_icmp .ne (.ofNat 109), 3, 0), (105, .iconst (1), 1, 0), (106, .goto (.ofNat 110), 3, 0), (109, .iconst (0), 1, 0), (110, .istore 5, 2, 0), (112, .iinc 6 1, 3, 0), (115, .goto (.ofNat 60), 3, 0), (118, .iload 5, 2, 0), (120, .ifCond .eq (.ofNat 126), 3, 0), (123, .iload 4, 2, 0), (125, .ireturn, 1, 0), (126, .iinc 4 1, 3, 0), (129, .goto (.ofNat 19), 3, 0), (132, .iconst (0), 1, 0), (133, .ireturn, 1, 0)]
def mX9_restOf : zM := (cX9_restOf, tX9_restOf, RX9, wsX9_restOf, { frames := 0, cells := 0, slots := 0, locals := 0 })
theorem kX9_restOf : mX9_restOf.2.1.all (fun r => zok mX9_restOf r && zrt (some .int) r.2.1) = true := by decide +kernel
def tX9_rowAt : List (Nat × Instr × Nat × Nat) := [(0, .aload 0, 1, 0), (1, .invokeinterface 9 0, 3, 7), (4, .iload 1, 1, 0), (5, .iaload, 1, 0), (6, .istore 5, 2, 0), (8, .iload 5, 2, 0), (10, .aload 0, 1, 0), (11, .invokeinterface 9 0, 3, 7), (14, .iload 1, 1, 0), (15, .iconst (1), 1, 0), (16, .iadd, 1, 0), (17, .iaload, 1, 0), (18, .if_icmp .ge (.ofNat 81), 3, 0), (21, .aload 0, 1, 0), (22, .invokeinterface 9 3, 3, 19), (25, .iconst (3), 1, 0), (26, .iload 5, 2, 0), (28, .imul, 1, 0), (29, .iaload, 1, 0), (30, .iload 2, 1, 0), (31, .if_icmp .ne (.ofNat 75), 3, 0), (34, .aload 0, 1, 0), (35, .invokeinterface 9 3, 3, 19), (38, .iconst (3), 1, 0), (39, .iload 5, 2, 0), (41, .imul, 1, 0), (42, .iconst (1), 1, 0), (43, .iadd, 1, 0), (44, .iaload, 1, 0), (45, .iload 3, 1, 0), (46, .if_icmp .ne (.ofNat 75), 3, 0), (49, .aload 0, 1, 0), (50, .invokeinterface 9 3, 3, 19), (53, .iconst (3), 1, 0), (54, .iload 5, 2, 0), (56, .imul, 1, 0), (57, .iconst (2), 1, 0), (58, .iadd, 1, 0), (59, .iaload, 1, 0), (60, .iload 4, 2, 0), (62, .if_icmp .ne (.ofNat 75), 3, 0), (65, .iload 5, 2, 0), (67, .aload 0, 1, 0), (68, .invokeinterface 9 0, 3, 7), (71, .iload 1, 1, 0), (72, .iaload, 1, 0), (73, .isub, 1, 0), (74, .ireturn, 1, 0), (75, .iinc 5 1, 3, 0), (78, .goto (.ofNat 8), 3, 0), (81, .iconst (0), 1, 0), (82, .ireturn, 1, 0)]
def mX9_rowAt : zM := (cX9_rowAt, tX9_rowAt, RX9, wsX9_rowAt, { frames := 0, cells := 0, slots := 0, locals := 0 })
theorem kX9_rowAt : mX9_rowAt.2.1.all (fun r => zok mX9_rowAt r && zrt (some .int) r.2.1) = true := by decide +kernel
def tX9_space : List (Nat × Instr × Nat × Nat) := [(0, .iload 1, 1, 0), (1, .ifCond .ne (.ofNat 14), 3, 0), (4, .iload 3, 1, 0), (5, .iconst (0), 1, 0), (6, .iconst (12), 2, 0), (8, .invokestatic 122, 3, 0), (11, .ifCond .ne (.ofNat 54), 3, 0), (14, .iload 1, 1, 0), (15, .iconst (1), 1, 0), (16, .if_icmp .ne (.ofNat 34), 3, 0), (19, .iload 2, 1, 0), (20, .iconst (1), 1, 0), (21, .iload 3, 1, 0), (22, .invokestatic 122, 3, 0), (25, .ifCond .eq (.ofNat 34), 3, 0), (28, .iload 3, 1, 0), (29, .iconst (12), 2, 0), (31, .if_icmp .le (.ofNat 54), 3, 0), (34, .iload 1, 1, 0), (35, .iconst (2), 1, 0), (36, .if_icmp .ne (.ofNat 58), 3, 0), (39, .iload 2, 1, 0), (40, .iconst (0), 1, 0), (41, .iload 3, 1, 0), (42, .invokestatic 122, 3, 0), (45, .ifCond .eq (.ofNat 58), 3, 0), (48, .iload 3, 1, 0), (49, .iconst (6), 2, 0), (51, .if_icmp .gt (.ofNat 58), 3, 0), (54, .iconst (1), 1, 0), (55, .goto (.ofNat 59), 3, 0), (58, .iconst (0), 1, 0), (59, .istore 4, 2, 0), (61, .iload 4, 2, 0), (63, .ifCond .ne (.ofNat 68), 3, 0), (66, .iconst (-1), 1, 0), (67, .ireturn, 1, 0), (68, .aload 0, 1, 0), (69, .iconst (0), 1, 0), (70, .multianewarray 9 10, 3, 146), (73, .iload 1, 1, 0), (74, .iconst (2), 1, 0), (75, .if_icmp .ne (.ofNat 82), 3, 0), (78, .iconst (2), 1, 0), (79, .goto (.ofNat 83), 3, 0), (82, .iconst (1), 1, 0), (83, .istore 5, 2, 0), (85, .iload 1, 1, 0), (86, .ifCond .ne (.ofNat 93), 3, 0), (89, .iload 3, 1, 0), (90, .goto (.ofNat 94), 3, 0), (93, .iload 2, 1, 0), (94, .istore 6, 2, 0), (96, .iload 6, 2, 0), (98, .istore 7, 2, 0), (100, .iload 7, 2, 0), (102, .iload 3, 1, 0), (103, .if_icmp .gt (.ofNat 121), 3, 0), (106, .aload 0, 1, 0), (107, .iload 5, 2, 0), (109, .iload 7, 2, 0), (111, .imul, 1, 0), (112, .invokevirtual 152, 3, 0), (115, .iinc 7 1, 3, 0), (118, .goto (.ofNat 100), 3, 0), (121, .iload 6, 2, 0), (123, .istore 7, 2, 0), (125, .iload 7, 2, 0), (127, .iload 3, 1, 0), (128, .if_icmp .gt (.ofNat 202), 3, 0), (131, .iload 1, 1, 0), (132, .ifCond .le (.ofNat 202), 3, 0), (135, .iconst (1), 1, 0), (136, .istore 8, 2, 0), (138, .iload 7, 2, 0), (140, .iload 8, 2, 0), (142, .iadd, 1, 0), (143, .iload 3, 1, 0), (144, .if_icmp .gt (.ofNat 196), 3, 0), (147, .aload 0, 1, 0), (148, .invokeinterface 9 12, 3, 37), (151, .iconst (13), 2, 0), (153, .iload 7, 2, 0), (155, .iload 6, 2, 0), (157, .isub, 1, 0), (158, .imul, 1, 0), (159, .iload 5, 2, 0), (161, .iload 8, 2, 0), (163, .imul, 1, 0), (164, .iadd, 1, 0), (165, .iload 7, 2, 0), (167, .iload 8, 2, 0), (169, .invokestatic 99, 3, 0), (172, .ifCond .eq (.ofNat 188), 3, 0), (175, .iconst (1), 1, 0), (176, .iload 7, 2, 0), (178, .iload 8, 2, 0), (180, .iadd, 1, 0), (181, .iload 6, 2, 0), (183, .isub, 1, 0), (184, .ishl, 1, 0), (185, .goto (.ofNat 189), 3, 0), (188, .iconst (0), 1, 0), (189, .iastore, 1, 0), (190, .iinc 8 1, 3, 0), (193, .goto (.ofNat 138), 3, 0), (196, .iinc 7 1, 3, 0), (199, .goto (.ofNat 125), 3, 0), (202, .aload 0, 1, 0), (203, .invokevirtual 149, 3, 0), (206, .aload 0, 1, 0), (207, .invokeinterface 9 10, 3, 146), (210, .ireturn, 1, 0)]
def mX9_space : zM := (cX9_space, tX9_space, RX9, wsX9_space, { frames := 1, cells := 0, slots := 0, locals := 22 })
theorem kX9_space : mX9_space.2.1.all (fun r => zok mX9_space r && zrt (some .int) r.2.1) = true := by decide +kernel
def tX9_square : List (Nat × Instr × Nat × Nat) := [(0, .iload 1, 1, 0), (1, .iconst (0), 1, 0), (2, .iconst (14), 2, 0), (4, .invokestatic 122, 3, 0), (7, .ifCond .eq (.ofNat 21), 3, 0), (10, .aload 0, 1, 0), (11, .invokevirtual 126, 3, 0), (14, .iload 1, 1, 0), (15, .iadd, 1, 0), (16, .iconst (14), 2, 0), (18, .if_icmp .le (.ofNat 23), 3, 0), (21, .iconst (-1), 1, 0), (22, .ireturn, 1, 0), (23, .aload 0, 1, 0), (24, .invokeinterface 9 8, 3, 119), (27, .iconst (6), 2, 0), (29, .if_icmp .ne (.ofNat 35), 3, 0), (32, .iconst (-3), 2, 0), (34, .ireturn, 1, 0), (35, .aload 0, 1, 0), (36, .invokeinterface 9 9, 3, 31), (39, .aload 0, 1, 0), (40, .invokeinterface 9 8, 3, 119), (43, .iload 1, 1, 0), (44, .iastore, 1, 0), (45, .aload 0, 1, 0), (46, .dup, 1, 0), (47, .invokeinterface 9 8, 3, 119), (50, .iconst (1), 1, 0), (51, .iadd, 1, 0), (52, .multianewarray 9 8, 3, 119), (55, .aload 0, 1, 0), (56, .invokeinterface 9 8, 3, 119), (59, .ireturn, 1, 0)]
def mX9_square : zM := (cX9_square, tX9_square, RX9, wsX9_square, { frames := 1, cells := 0, slots := 0, locals := 22 })
theorem kX9_square : mX9_square.2.1.all (fun r => zok mX9_square r && zrt (some .int) r.2.1) = true := by decide +kernel
def tX9_squareOf : List (Nat × Instr × Nat × Nat) := [(0, .aload 0, 1, 0), (1, .invokeinterface 9 2, 3, 16), (4, .iconst (4), 1, 0), (5, .iload 2, 1, 0), (6, .imul, 1, 0), (7, .iaload, 1, 0), (8, .istore 4, 2, 0), (10, .aload 0, 1, 0), (11, .invokeinterface 9 1, 3, 13), (14, .iload 2, 1, 0), (15, .iaload, 1, 0), (16, .ifCond .eq (.ofNat 27), 3, 0), (19, .iload 1, 1, 0), (20, .iconst (2), 1, 0), (21, .iload 4, 2, 0), (23, .imul, 1, 0), (24, .if_icmp .lt (.ofNat 40), 3, 0), (27, .iconst (1), 1, 0), (28, .aload 0, 1, 0), (29, .iload 3, 1, 0), (30, .iload 1, 1, 0), (31, .iadd, 1, 0), (32, .iload 1, 1, 0), (33, .iload 2, 1, 0), (34, .iconst (0), 1, 0), (35, .invokevirtual 91, 3, 0), (38, .ishl, 1, 0), (39, .ireturn, 1, 0), (40, .aload 0, 1, 0), (41, .iload 2, 1, 0), (42, .iload 3, 1, 0), (43, .invokevirtual 95, 3, 0), (46, .istore 5, 2, 0), (48, .iload 3, 1, 0), (49, .iload 4, 2, 0), (51, .isub, 1, 0), (52, .istore 6, 2, 0), (54, .iconst (0), 1, 0), (55, .istore 7, 2, 0), (57, .iconst (0), 1, 0), (58, .istore 8, 2, 0), (60, .iload 8, 2, 0), (62, .iload 1, 1, 0), (63, .iconst (2), 1, 0), (64, .idiv, 1, 0), (65, .if_icmp .gt (.ofNat 138), 3, 0), (68, .iload 4, 2, 0), (70, .iconst (1), 1, 0), (71, .isub, 1, 0), (72, .iload 8, 2, 0), (74, .isub, 1, 0), (75, .iload 1, 1, 0), (76, .iconst (2), 1, 0), (77, .iload 8, 2, 0), (79, .imul, 1, 0), (80, .isub, 1, 0), (81, .invokestatic 99, 3, 0), (84, .ifCond .eq (.ofNat 132), 3, 0), (87, .aload 0, 1, 0), (88, .iload 8, 2, 0), (90, .iconst (1), 1, 0), (91, .iload 5, 2, 0), (93, .aload 0, 1, 0), (94, .invokeinterface 9 0, 3, 7), (97, .iload 6, 2, 0), (99, .iaload, 1, 0), (100, .isub, 1, 0), (101, .ishl, 1, 0), (102, .iload 6, 2, 0), (104, .invokevirtual 103, 3, 0), (107, .istore 9, 2, 0), (109, .iload 7, 2, 0), (111, .aload 0, 1, 0), (112, .iload 1, 1, 0), (113, .iload 4, 2, 0), (115, .iadd, 1, 0), (116, .iload 8, 2, 0), (118, .isub, 1, 0), (119, .iload 9, 2, 0), (121, .iload 6, 2, 0), (123, .iload 8, 2, 0), (125, .iadd, 1, 0), (126, .invokevirtual 103, 3, 0), (129, .ixor, 1, 0), (130, .istore 7, 2, 0), (132, .iinc 8 1, 3, 0), (135, .goto (.ofNat 60), 3, 0), (138, .iload 7, 2, 0), (140, .ireturn, 1, 0)]
def mX9_squareOf : zM := (cX9_squareOf, tX9_squareOf, RX9, wsX9_squareOf, { frames := 2, cells := 0, slots := 0, locals := 46 })
theorem kX9_squareOf : mX9_squareOf.2.1.all (fun r => zok mX9_squareOf r && zrt (some .int) r.2.1) = true := by decide +kernel
def tX9_squareOfRow : List (Nat × Instr × Nat × Nat) := [(0, .iconst (0), 1, 0), (1, .istore 4, 2, 0), (3, .iconst (0), 1, 0), (4, .istore 5, 2, 0), (6, .iload 5, 2, 0), (8, .aload 0, 1, 0), (9, .invokeinterface 9 3, 3, 19), (12, .iconst (3), 1, 0), (13, .iload 2, 1, 0), (14, .imul, 1, 0), (15, .iaload, 1, 0), (16, .if_icmp .gt (.ofNat 233), 3, 0), (19, .iconst (2), 1, 0), (20, .iload 5, 2, 0), (22, .imul, 1, 0), (23, .iload 1, 1, 0), (24, .if_icmp .gt (.ofNat 233), 3, 0), (27, .iconst (0), 1, 0), (28, .istore 6, 2, 0), (30, .iload 6, 2, 0), (32, .aload 0, 1, 0), (33, .invokeinterface 9 3, 3, 19), (36, .iconst (3), 1, 0), (37, .iload 2, 1, 0), (38, .imul, 1, 0), (39, .iconst (1), 1, 0), (40, .iadd, 1, 0), (41, .iaload, 1, 0), (42, .if_icmp .gt (.ofNat 227), 3, 0), (45, .iconst (2), 1, 0), (46, .iload 5, 2, 0), (48, .imul, 1, 0), (49, .iconst (4), 1, 0), (50, .iload 6, 2, 0), (52, .imul, 1, 0), (53, .iadd, 1, 0), (54, .iload 1, 1, 0), (55, .if_icmp .gt (.ofNat 227), 3, 0), (58, .iconst (0), 1, 0), (59, .istore 7, 2, 0), (61, .iload 7, 2, 0), (63, .aload 0, 1, 0), (64, .invokeinterface 9 3, 3, 19), (67, .iconst (3), 1, 0), (68, .iload 2, 1, 0), (69, .imul, 1, 0), (70, .iconst (2), 1, 0), (71, .iadd, 1, 0), (72, .iaload, 1, 0), (73, .if_icmp .gt (.ofNat 221), 3, 0), (76, .iconst (2), 1, 0), (77, .iload 5, 2, 0), (79, .imul, 1, 0), (80, .iconst (4), 1, 0), (81, .iload 6, 2, 0), (83, .imul, 1, 0), (84, .iadd, 1, 0), (85, .iconst (8), 2, 0), (87, .iload 7, 2, 0), (89, .imul, 1, 0), (90, .iadd, 1, 0), (91, .iload 1, 1, 0), (92, .if_icmp .gt (.ofNat 221), 3, 0), (95, .iload 1, 1, 0), (96, .iconst (2), 1, 0), (97, .iload 5, 2, 0), (99, .imul, 1, 0), (100, .isub, 1, 0), (101, .iconst (4), 1, 0), (102, .iload 6, 2, 0), (104, .imul, 1, 0), (105, .isub, 1, 0), (106, .iconst (8), 2, 0), (108, .iload 7, 2, 0), (110, .imul, 1, 0), (111, .isub, 1, 0), (112, .istore 8, 2, 0), (114, .aload 0, 1, 0), (115, .invokeinterface 9 3, 3, 19), (118, .iconst (3), 1, 0), (119, .iload 2, 1, 0), (120, .imul, 1, 0), (121, .iaload, 1, 0), (122, .iload 5, 2, 0), (124, .isub, 1, 0), (125, .istore 9, 2, 0), (127, .aload 0, 1, 0), (128, .invokeinterface 9 3, 3, 19), (131, .iconst (3), 1, 0), (132, .iload 2, 1, 0), (133, .imul, 1, 0), (134, .iconst (1), 1, 0), (135, .iadd, 1, 0), (136, .iaload, 1, 0), (137, .iload 6, 2, 0), (139, .isub, 1, 0), (140, .istore 10, 2, 0), (142, .aload 0, 1, 0), (143, .invokeinterface 9 3, 3, 19), (146, .iconst (3), 1, 0), (147, .iload 2, 1, 0), (148, .imul, 1, 0), (149, .iconst (2), 1, 0), (150, .iadd, 1, 0), (151, .iaload, 1, 0), (152, .iload 7, 2, 0), (154, .isub, 1, 0), (155, .istore 11, 2, 0), (157, .iload 9, 2, 0), (159, .iload 8, 2, 0), (161, .iand, 1, 0), (162, .ifCond .ne (.ofNat 215), 3, 0), (165, .iload 10, 2, 0), (167, .iload 5, 2, 0), (169, .iand, 1, 0), (170, .ifCond .ne (.ofNat 215), 3, 0), (173, .iload 11, 2, 0), (175, .iload 6, 2, 0), (177, .iand, 1, 0), (178, .ifCond .ne (.ofNat 215), 3, 0), (181, .iload 7, 2, 0), (183, .ifCond .ne (.ofNat 215), 3, 0), (186, .iload 4, 2, 0), (188, .iconst (1), 1, 0), (189, .aload 0, 1, 0), (190, .iload 3, 1, 0), (191, .iload 1, 1, 0), (192, .iadd, 1, 0), (193, .iload 9, 2, 0), (195, .iload 8, 2, 0), (197, .iadd, 1, 0), (198, .iload 10, 2, 0), (200, .iload 5, 2, 0), (202, .iadd, 1, 0), (203, .iload 11, 2, 0), (205, .iload 6, 2, 0), (207, .iadd, 1, 0), (208, .invokevirtual 107, 3, 0), (211, .ishl, 1, 0), (212, .ixor, 1, 0), (213, .istore 4, 2, 0), (215, .iinc 7 1, 3, 0), (218, .goto (.ofNat 61), 3, 0), (221, .iinc 6 1, 3, 0), (224, .goto (.ofNat 30), 3, 0), (227, .iinc 5 1, 3, 0), (230, .goto (.ofNat 6), 3, 0), (233, .iload 4, 2, 0), (235, .ireturn, 1, 0)]
def mX9_squareOfRow : zM := (cX9_squareOfRow, tX9_squareOfRow, RX9, wsX9_squareOfRow, { frames := 1, cells := 0, slots := 0, locals := 25 })
theorem kX9_squareOfRow : mX9_squareOfRow.2.1.all (fun r => zok mX9_squareOfRow r && zrt (some .int) r.2.1) = true := by decide +kernel
def tX9_squares : List (Nat × Instr × Nat × Nat) := [(0, .iload 1, 1, 0), (1, .ifCond .ne (.ofNat 6), 3, 0), (4, .iload 2, 1, 0), (5, .ireturn, 1, 0), (6, .iconst (0), 1, 0), (7, .istore 4, 2, 0), (9, .iconst (0), 1, 0), (10, .istore 5, 2, 0), (12, .iload 5, 2, 0), (14, .aload 0, 1, 0), (15, .iload 3, 1, 0), (16, .invokevirtual 87, 3, 0), (19, .if_icmp .ge (.ofNat 66), 3, 0), (22, .iload 4, 2, 0), (24, .iload 2, 1, 0), (25, .iload 5, 2, 0), (27, .ishr, 1, 0), (28, .iconst (1), 1, 0), (29, .iand, 1, 0), (30, .iconst (1), 1, 0), (31, .if_icmp .ne (.ofNat 56), 3, 0), (34, .aload 0, 1, 0), (35, .invokeinterface 9 4, 3, 22), (38, .iconst (64), 2, 0), (40, .iload 1, 1, 0), (41, .imul, 1, 0), (42, .aload 0, 1, 0), (43, .invokeinterface 9 0, 3, 7), (46, .iload 3, 1, 0), (47, .iaload, 1, 0), (48, .iadd, 1, 0), (49, .iload 5, 2, 0), (51, .iadd, 1, 0), (52, .iaload, 1, 0), (53, .goto (.ofNat 57), 3, 0), (56, .iconst (0), 1, 0), (57, .ixor, 1, 0), (58, .istore 4, 2, 0), (60, .iinc 5 1, 3, 0), (63, .goto (.ofNat 12), 3, 0), (66, .iload 4, 2, 0), (68, .ireturn, 1, 0)]
def mX9_squares : zM := (cX9_squares, tX9_squares, RX9, wsX9_squares, { frames := 1, cells := 0, slots := 0, locals := 21 })
theorem kX9_squares : mX9_squares.2.1.all (fun r => zok mX9_squares r && zrt (some .int) r.2.1) = true := by decide +kernel
def tX9_squaresRow : List (Nat × Instr × Nat × Nat) := [(0, .iload 1, 1, 0), (1, .ifCond .ne (.ofNat 6), 3, 0), (4, .iload 2, 1, 0), (5, .ireturn, 1, 0), (6, .iconst (0), 1, 0), (7, .istore 4, 2, 0), (9, .iconst (0), 1, 0), (10, .istore 5, 2, 0), (12, .iload 5, 2, 0), (14, .aload 0, 1, 0), (15, .iload 3, 1, 0), (16, .invokevirtual 87, 3, 0), (19, .if_icmp .ge (.ofNat 66), 3, 0), (22, .iload 4, 2, 0), (24, .iload 2, 1, 0), (25, .iload 5, 2, 0), (27, .ishr, 1, 0), (28, .iconst (1), 1, 0), (29, .iand, 1, 0), (30, .iconst (1), 1, 0), (31, .if_icmp .ne (.ofNat 56), 3, 0), (34, .aload 0, 1, 0), (35, .invokeinterface 9 5, 3, 25), (38, .iconst (64), 2, 0), (40, .iload 1, 1, 0), (41, .imul, 1, 0), (42, .aload 0, 1, 0), (43, .invokeinterface 9 0, 3, 7), (46, .iload 3, 1, 0), (47, .iaload, 1, 0), (48, .iadd, 1, 0), (49, .iload 5, 2, 0), (51, .iadd, 1, 0), (52, .iaload, 1, 0), (53, .goto (.ofNat 57), 3, 0), (56, .iconst (0), 1, 0), (57, .ixor, 1, 0), (58, .istore 4, 2, 0), (60, .iinc 5 1, 3, 0), (63, .goto (.ofNat 12), 3, 0), (66, .iload 4, 2, 0), (68, .ireturn, 1, 0)]
def mX9_squaresRow : zM := (cX9_squaresRow, tX9_squaresRow, RX9, wsX9_squaresRow, { frames := 1, cells := 0, slots := 0, locals := 21 })
theorem kX9_squaresRow : mX9_squaresRow.2.1.all (fun r => zok mX9_squaresRow r && zrt (some .int) r.2.1) = true := by decide +kernel
def tX9_sum : List (Nat × Instr × Nat × Nat) := [(0, .iload 1, 1, 0), (1, .iconst (0), 1, 0), (2, .iconst (1), 1, 0), (3, .invokestatic 122, 3, 0), (6, .ifCond .eq (.ofNat 20), 3, 0), (9, .aload 0, 1, 0), (10, .iload 1, 1, 0), (11, .invokevirtual 133, 3, 0), (14, .invokestatic 136, 3, 0), (17, .goto (.ofNat 21), 3, 0), (20, .iconst (-1), 1, 0), (21, .ireturn, 1, 0)]
def mX9_sum : zM := (cX9_sum, tX9_sum, RX9, wsX9_sum, { frames := 3, cells := 0, slots := 0, locals := 70 })
theorem kX9_sum : mX9_sum.2.1.all (fun r => zok mX9_sum r && zrt (some .int) r.2.1) = true := by decide +kernel
def tX9_sumOf : List (Nat × Instr × Nat × Nat) := [(0, .iconst (1), 1, 0), (1, .istore 2, 1, 0), (2, .iconst (0), 1, 0), (3, .istore 3, 1, 0), (4, .aload 0, 1, 0), (5, .invokeinterface 9 8, 3, 119), (8, .iconst (1), 1, 0), (9, .isub, 1, 0), (10, .istore 4, 2, 0), (12, .iload 4, 2, 0), (14, .ifCond .lt (.ofNat 67), 3, 0), (17, .iload 1, 1, 0), (18, .ifCond .ne (.ofNat 37), 3, 0), (21, .aload 0, 1, 0), (22, .aload 0, 1, 0), (23, .invokeinterface 9 9, 3, 31), (26, .iload 4, 2, 0), (28, .iaload, 1, 0), (29, .iload 2, 1, 0), (30, .iload 3, 1, 0), (31, .invokevirtual 103, 3, 0), (34, .goto (.ofNat 50), 3, 0), (37, .aload 0, 1, 0), (38, .aload 0, 1, 0), (39, .invokeinterface 9 9, 3, 31), (42, .iload 4, 2, 0), (44, .iaload, 1, 0), (45, .iload 2, 1, 0), (46, .iload 3, 1, 0), (47, .invokevirtual 130, 3, 0), (50, .istore 2, 1, 0), (51, .iload 3, 1, 0), (52, .aload 0, 1, 0), (53, .invokeinterface 9 9, 3, 31), (56, .iload 4, 2, 0), (58, .iaload, 1, 0), (59, .iadd, 1, 0), (60, .istore 3, 1, 0), (61, .iinc 4 (-1), 3, 0), (64, .goto (.ofNat 12), 3, 0), (67, .iload 2, 1, 0), (68, .ireturn, 1, 0)]
def mX9_sumOf : zM := (cX9_sumOf, tX9_sumOf, RX9, wsX9_sumOf, { frames := 2, cells := 0, slots := 0, locals := 46 })
theorem kX9_sumOf : mX9_sumOf.2.1.all (fun r => zok mX9_sumOf r && zrt (some .int) r.2.1) = true := by decide +kernel
def tX9_term : List (Nat × Instr × Nat × Nat) := [(0, .iload 1, 1, 0), (1, .iconst (0), 1, 0), (2, .iconst (1), 1, 0), (3, .invokestatic 122, 3, 0), (6, .ifCond .eq (.ofNat 27), 3, 0), (9, .iload 2, 1, 0), (10, .ifCond .lt (.ofNat 27), 3, 0), (13, .iload 3, 1, 0), (14, .ifCond .lt (.ofNat 27), 3, 0), (17, .iload 1, 1, 0), (18, .iconst (1), 1, 0), (19, .if_icmp .ne (.ofNat 29), 3, 0), (22, .iload 3, 1, 0), (23, .iconst (3), 1, 0), (24, .if_icmp .le (.ofNat 29), 3, 0), (27, .iconst (-1), 1, 0), (28, .ireturn, 1, 0), (29, .aload 0, 1, 0), (30, .iload 1, 1, 0), (31, .invokevirtual 133, 3, 0), (34, .istore 4, 2, 0), (36, .iload 2, 1, 0), (37, .iload 4, 2, 0), (39, .invokestatic 136, 3, 0), (42, .if_icmp .lt (.ofNat 47), 3, 0), (45, .iconst (-1), 1, 0), (46, .ireturn, 1, 0), (47, .iconst (0), 1, 0), (48, .istore 5, 2, 0), (50, .iload 5, 2, 0), (52, .iload 2, 1, 0), (53, .if_icmp .ge (.ofNat 71), 3, 0), (56, .iload 4, 2, 0), (58, .iload 4, 2, 0), (60, .iconst (1), 1, 0), (61, .isub, 1, 0), (62, .iand, 1, 0), (63, .istore 4, 2, 0), (65, .iinc 5 1, 3, 0), (68, .goto (.ofNat 50), 3, 0), (71, .iconst (0), 1, 0), (72, .istore 5, 2, 0), (74, .iload 4, 2, 0), (76, .iload 5, 2, 0), (78, .ishr, 1, 0), (79, .iconst (1), 1, 0), (80, .iand, 1, 0), (81, .ifCond .ne (.ofNat 90), 3, 0), (84, .iinc 5 1, 3, 0), (87, .goto (.ofNat 74), 3, 0), (90, .iload 5, 2, 0), (92, .aload 0, 1, 0), (93, .invokeinterface 9 0, 3, 7), (96, .aload 0, 1, 0), (97, .invokevirtual 126, 3, 0), (100, .iaload, 1, 0), (101, .iadd, 1, 0), (102, .istore 5, 2, 0), (104, .iload 1, 1, 0), (105, .iconst (1), 1, 0), (106, .if_icmp .ne (.ofNat 130), 3, 0), (109, .iload 3, 1, 0), (110, .iconst (3), 1, 0), (111, .if_icmp .ne (.ofNat 118), 3, 0), (114, .iconst (0), 1, 0), (115, .goto (.ofNat 129), 3, 0), (118, .aload 0, 1, 0), (119, .invokeinterface 9 3, 3, 19), (122, .iconst (3), 1, 0), (123, .iload 5, 2, 0), (125, .imul, 1, 0), (126, .iload 3, 1, 0), (127, .iadd, 1, 0), (128, .iaload, 1, 0), (129, .ireturn, 1, 0), (130, .iload 3, 1, 0), (131, .aload 0, 1, 0), (132, .invokeinterface 9 1, 3, 13), (135, .iload 5, 2, 0), (137, .iaload, 1, 0), (138, .if_icmp .ge (.ofNat 155), 3, 0), (141, .aload 0, 1, 0), (142, .invokeinterface 9 2, 3, 16), (145, .iconst (4), 1, 0), (146, .iload 5, 2, 0), (148, .imul, 1, 0), (149, .iload 3, 1, 0), (150, .iadd, 1, 0), (151, .iaload, 1, 0), (152, .goto (.ofNat 157), 3, 0), (155, .iconst (-9), 2, 0), (157, .ireturn, 1, 0)]
def mX9_term : zM := (cX9_term, tX9_term, RX9, wsX9_term, { frames := 3, cells := 0, slots := 0, locals := 70 })
theorem kX9_term : mX9_term.2.1.all (fun r => zok mX9_term r && zrt (some .int) r.2.1) = true := by decide +kernel
def tX9_turns : List (Nat × Instr × Nat × Nat) := [(0, .aload 0, 1, 0), (1, .invokeinterface 9 24, 3, 59), (4, .iload 1, 1, 0), (5, .iconst (6), 2, 0), (7, .ishr, 1, 0), (8, .dup2, 1, 0), (9, .laload, 1, 0), (10, .lconst 1, 1, 0), (11, .iload 1, 1, 0), (12, .iconst (63), 2, 0), (14, .iand, 1, 0), (15, .lshl, 1, 0), (16, .lxor, 1, 0), (17, .lastore, 1, 0), (18, .return_, 1, 0)]
def mX9_turns : zM := (cX9_turns, tX9_turns, RX9, wsX9_turns, { frames := 0, cells := 0, slots := 0, locals := 0 })
theorem kX9_turns : mX9_turns.2.1.all (fun r => zok mX9_turns r && zrt none r.2.1) = true := by decide +kernel
def tX9_wide : List (Nat × Instr × Nat × Nat) := [(0, .aload 0, 1, 0), (1, .iload 1, 1, 0), (2, .aload 0, 1, 0), (3, .invokeinterface 9 14, 3, 40), (6, .iload 1, 1, 0), (7, .iaload, 1, 0), (8, .iload 2, 1, 0), (9, .invokevirtual 175, 3, 0), (12, .ireturn, 1, 0)]
def mX9_wide : zM := (cX9_wide, tX9_wide, RX9, wsX9_wide, { frames := 2, cells := 0, slots := 0, locals := 47 })
theorem kX9_wide : mX9_wide.2.1.all (fun r => zok mX9_wide r && zrt (some .int) r.2.1) = true := by decide +kernel
def tX9_wordDegree : List (Nat × Instr × Nat × Nat) := [(0, .iconst (0), 1, 0), (1, .istore 1, 1, 0), (2, .iconst (0), 1, 0), (3, .istore 2, 1, 0), (4, .iload 2, 1, 0), (5, .aload 0, 1, 0), (6, .invokeinterface 9 8, 3, 119), (9, .if_icmp .ge (.ofNat 27), 3, 0), (12, .iload 1, 1, 0), (13, .aload 0, 1, 0), (14, .invokeinterface 9 9, 3, 31), (17, .iload 2, 1, 0), (18, .iaload, 1, 0), (19, .iadd, 1, 0), (20, .istore 1, 1, 0), (21, .iinc 2 1, 3, 0), (24, .goto (.ofNat 4), 3, 0), (27, .iload 1, 1, 0), (28, .ireturn, 1, 0)]
def mX9_wordDegree : zM := (cX9_wordDegree, tX9_wordDegree, RX9, wsX9_wordDegree, { frames := 0, cells := 0, slots := 0, locals := 0 })
theorem kX9_wordDegree : mX9_wordDegree.2.1.all (fun r => zok mX9_wordDegree r && zrt (some .int) r.2.1) = true := by decide +kernel
end
section
set_option maxRecDepth 20000 in
theorem ggX0_init_X0_share : GoodIn wsX0_init wsX0_share := goodIn_r _ [10] (by decide +kernel) (by decide +kernel)
set_option maxRecDepth 20000 in
theorem gX0_init_X0_share : GoodIn wsX0_init (va_wsS RX0 18 yX0_share wsX0_share) := goodIn_app (goodIn_of _ (by decide +kernel)) ggX0_init_X0_share
set_option maxRecDepth 20000 in
theorem ggX0_find_X0_start : GoodIn wsX0_find wsX0_start := goodIn_r _ [5, 6, 7, 8, 9, 10, 11, 12, 13, 19, 20] (by decide +kernel) (by decide +kernel)
set_option maxRecDepth 20000 in
theorem gX0_find_X0_start : GoodIn wsX0_find (wsV RX0 30 RX0 yX0_start wsX0_start) := goodIn_app (goodIn_of _ (by decide +kernel)) ggX0_find_X0_start
set_option maxRecDepth 20000 in
theorem ggX0_find_X0_numberAt : GoodIn wsX0_find wsX0_numberAt := goodIn_r _ [17, 18, 19, 20] (by decide +kernel) (by decide +kernel)
set_option maxRecDepth 20000 in
theorem gX0_find_X0_numberAt : GoodIn wsX0_find (wsV RX0 34 RX0 yX0_numberAt wsX0_numberAt) := goodIn_app (goodIn_of _ (by decide +kernel)) ggX0_find_X0_numberAt
set_option maxRecDepth 20000 in
theorem ggX0_bit_X0_start : GoodIn wsX0_bit wsX0_start := goodIn_r _ [5, 6, 7, 8, 9, 10, 11, 12, 13, 18, 19] (by decide +kernel) (by decide +kernel)
set_option maxRecDepth 20000 in
theorem gX0_bit_X0_start : GoodIn wsX0_bit (wsV RX0 30 RX0 yX0_start wsX0_start) := goodIn_app (goodIn_of _ (by decide +kernel)) ggX0_bit_X0_start
set_option maxRecDepth 20000 in
theorem ggX0_bit_X0_size : GoodIn wsX0_bit wsX0_size := goodIn_r _ [17, 6, 18, 19] (by decide +kernel) (by decide +kernel)
set_option maxRecDepth 20000 in
theorem gX0_bit_X0_size : GoodIn wsX0_bit (wsV RX0 37 RX0 yX0_size wsX0_size) := goodIn_app (goodIn_of _ (by decide +kernel)) ggX0_bit_X0_size
set_option maxRecDepth 20000 in
theorem ggX1_bit_X1_word : GoodIn wsX1_bit wsX1_word := goodIn_r _ [5, 6, 7, 8, 9, 10, 11] (by decide +kernel) (by decide +kernel)
set_option maxRecDepth 20000 in
theorem gX1_bit_X1_word : GoodIn wsX1_bit (wsV RX1 31 RX1 yX1_word wsX1_word) := goodIn_app (goodIn_of _ (by decide +kernel)) ggX1_bit_X1_word
set_option maxRecDepth 20000 in
theorem ggX1_firstBits_X1_word : GoodIn wsX1_firstBits wsX1_word := goodIn_r _ [6, 7, 8, 9, 10, 11, 12] (by decide +kernel) (by decide +kernel)
set_option maxRecDepth 20000 in
theorem gX1_firstBits_X1_word : GoodIn wsX1_firstBits (wsV RX1 31 RX1 yX1_word wsX1_word) := goodIn_app (goodIn_of _ (by decide +kernel)) ggX1_firstBits_X1_word
set_option maxRecDepth 20000 in
theorem ggX1_flip_X1_flipWord : GoodIn wsX1_flip wsX1_flipWord := goodIn_r _ [5, 6, 7, 8, 9, 10, 11] (by decide +kernel) (by decide +kernel)
set_option maxRecDepth 20000 in
theorem gX1_flip_X1_flipWord : GoodIn wsX1_flip (wsV RX1 37 RX1 yX1_flipWord wsX1_flipWord) := goodIn_app (goodIn_of _ (by decide +kernel)) ggX1_flip_X1_flipWord
set_option maxRecDepth 20000 in
theorem ggX1_next_J13_bitCount_95d88 : GoodIn wsX1_next wsJ13_bitCount_95d88 := goodIn_r _ [8, 9, 10, 11] (by decide +kernel) (by decide +kernel)
set_option maxRecDepth 20000 in
theorem gX1_next_J13_bitCount_95d88 : GoodIn wsX1_next (va_wsS RX1 43 yJ13_bitCount_95d88 wsJ13_bitCount_95d88) := goodIn_app (goodIn_of _ (by decide +kernel)) ggX1_next_J13_bitCount_95d88
set_option maxRecDepth 20000 in
theorem ggX1_copy_X1_open : GoodIn wsX1_copy wsX1_open := goodIn_r _ [6, 7, 1, 8, 17, 18, 19] (by decide +kernel) (by decide +kernel)
set_option maxRecDepth 20000 in
theorem gX1_copy_X1_open : GoodIn wsX1_copy (wsV RX1 49 RX1 yX1_open wsX1_open) := goodIn_app (goodIn_of _ (by decide +kernel)) ggX1_copy_X1_open
set_option maxRecDepth 20000 in
theorem ggX1_copy_X1_word : GoodIn wsX1_copy wsX1_word := goodIn_r _ [12, 7, 1, 8, 17, 18, 19] (by decide +kernel) (by decide +kernel)
set_option maxRecDepth 20000 in
theorem gX1_copy_X1_word : GoodIn wsX1_copy (wsV RX1 31 RX1 yX1_word wsX1_word) := goodIn_app (goodIn_of _ (by decide +kernel)) ggX1_copy_X1_word
set_option maxRecDepth 20000 in
theorem ggX1_copy_X1_flipWord : GoodIn wsX1_copy wsX1_flipWord := goodIn_r _ [16, 7, 1, 8, 17, 18, 19] (by decide +kernel) (by decide +kernel)
set_option maxRecDepth 20000 in
theorem gX1_copy_X1_flipWord : GoodIn wsX1_copy (wsV RX1 37 RX1 yX1_flipWord wsX1_flipWord) := goodIn_app (goodIn_of _ (by decide +kernel)) ggX1_copy_X1_flipWord
set_option maxRecDepth 20000 in
theorem ggX2_index_X8_isInChart : GoodIn wsX2_index wsX8_isInChart := goodIn_r _ [3] (by decide +kernel) (by decide +kernel)
set_option maxRecDepth 20000 in
theorem gX2_index_X8_isInChart_n15 : GoodIn wsX2_index (wsX8_isInChart) := ggX2_index_X8_isInChart
set_option maxRecDepth 20000 in
theorem ggX2_wipe_J7_fill_53178 : GoodIn wsX2_wipe wsJ7_fill_53178 := goodIn_r _ [5] (by decide +kernel) (by decide +kernel)
set_option maxRecDepth 20000 in
theorem gX2_wipe_J7_fill_53178 : GoodIn wsX2_wipe (va_wsS RX2 19 yJ7_fill_53178 wsJ7_fill_53178) := goodIn_app (goodIn_of _ (by decide +kernel)) ggX2_wipe_J7_fill_53178
set_option maxRecDepth 20000 in
theorem ggX2_tell_X2_index : GoodIn wsX2_tell wsX2_index := goodIn_r _ [5, 6, 7, 8] (by decide +kernel) (by decide +kernel)
set_option maxRecDepth 20000 in
theorem gX2_tell_X2_index : GoodIn wsX2_tell (va_wsS RX2 25 yX2_index wsX2_index) := goodIn_app (goodIn_of _ (by decide +kernel)) ggX2_tell_X2_index
set_option maxRecDepth 20000 in
theorem ggX2_rankOf_X2_index : GoodIn wsX2_rankOf wsX2_index := goodIn_r _ [5, 6, 7, 8] (by decide +kernel) (by decide +kernel)
set_option maxRecDepth 20000 in
theorem gX2_rankOf_X2_index : GoodIn wsX2_rankOf (va_wsS RX2 25 yX2_index wsX2_index) := goodIn_app (goodIn_of _ (by decide +kernel)) ggX2_rankOf_X2_index
set_option maxRecDepth 20000 in
theorem ggX2_spent_X2_rankOf : GoodIn wsX2_spent wsX2_rankOf := goodIn_r _ [5, 6, 7, 8, 4, 9, 10, 11, 12, 13] (by decide +kernel) (by decide +kernel)
set_option maxRecDepth 20000 in
theorem gX2_spent_X2_rankOf : GoodIn wsX2_spent (wsV RX2 29 RX2 yX2_rankOf wsX2_rankOf) := goodIn_app (goodIn_of _ (by decide +kernel)) ggX2_spent_X2_rankOf
set_option maxRecDepth 20000 in
theorem ggX2_told_X2_toldFrom : GoodIn wsX2_told wsX2_toldFrom := goodIn_r _ [5, 6, 7, 8, 9, 10, 11] (by decide +kernel) (by decide +kernel)
set_option maxRecDepth 20000 in
theorem gX2_told_X2_toldFrom : GoodIn wsX2_told (wsV RX2 32 RX2 yX2_toldFrom wsX2_toldFrom) := goodIn_app (goodIn_of _ (by decide +kernel)) ggX2_told_X2_toldFrom
set_option maxRecDepth 20000 in
theorem ggX2_isLongerTold_X2_index : GoodIn wsX2_isLongerTold wsX2_index := goodIn_r _ [8, 9, 10, 11] (by decide +kernel) (by decide +kernel)
set_option maxRecDepth 20000 in
theorem gX2_isLongerTold_X2_index : GoodIn wsX2_isLongerTold (va_wsS RX2 25 yX2_index wsX2_index) := goodIn_app (goodIn_of _ (by decide +kernel)) ggX2_isLongerTold_X2_index
set_option maxRecDepth 20000 in
theorem ggX2_isLongerTold_X2_toldFrom : GoodIn wsX2_isLongerTold wsX2_toldFrom := goodIn_r _ [15, 1, 2, 3, 4, 16, 17] (by decide +kernel) (by decide +kernel)
set_option maxRecDepth 20000 in
theorem gX2_isLongerTold_X2_toldFrom : GoodIn wsX2_isLongerTold (wsV RX2 32 RX2 yX2_toldFrom wsX2_toldFrom) := goodIn_app (goodIn_of _ (by decide +kernel)) ggX2_isLongerTold_X2_toldFrom
set_option maxRecDepth 20000 in
theorem ggX3_init_X1_init : GoodIn wsX3_init wsX1_init := goodIn_r _ [13, 14, 2, 3, 15, 16, 17, 18, 19, 20, 21, 22, 27, 28, 29] (by decide +kernel) (by decide +kernel)
set_option maxRecDepth 20000 in
theorem gX3_init_X1_init : GoodIn wsX3_init (wsX1_init) := ggX3_init_X1_init
set_option maxRecDepth 20000 in
theorem ggX3_restart_X1_restart : GoodIn wsX3_restart wsX1_restart := goodIn_r _ [7, 8, 9, 10, 11, 12, 13, 14, 15, 16, 21, 22, 23] (by decide +kernel) (by decide +kernel)
set_option maxRecDepth 20000 in
theorem gX3_restart_X1_restart : GoodIn wsX3_restart (wsV RX3 32 RX1 yX1_restart wsX1_restart) := goodIn_app (goodIn_of _ (by decide +kernel)) ggX3_restart_X1_restart
set_option maxRecDepth 20000 in
theorem ggX3_add_X1_copy : GoodIn wsX3_add wsX1_copy := goodIn_r _ [8, 9, 10, 11, 12, 7, 13, 14, 15, 16, 17, 18, 19, 20, 21, 22, 23, 28, 29, 30] (by decide +kernel) (by decide +kernel)
set_option maxRecDepth 20000 in
theorem gX3_add_X1_copy : GoodIn wsX3_add (wsV RX3 35 RX1 yX1_copy wsX1_copy) := goodIn_app (goodIn_of _ (by decide +kernel)) ggX3_add_X1_copy
set_option maxRecDepth 20000 in
theorem ggX3_width_X3_degreeOf : GoodIn wsX3_width wsX3_degreeOf := goodIn_r _ [6, 7, 14, 15, 16, 17] (by decide +kernel) (by decide +kernel)
set_option maxRecDepth 20000 in
theorem gX3_width_X3_degreeOf : GoodIn wsX3_width (wsV RX3 39 RX3 yX3_degreeOf wsX3_degreeOf) := goodIn_app (goodIn_of _ (by decide +kernel)) ggX3_width_X3_degreeOf
set_option maxRecDepth 20000 in
theorem ggX3_width_X0_size : GoodIn wsX3_width wsX0_size := goodIn_r _ [12, 13, 18, 19] (by decide +kernel) (by decide +kernel)
set_option maxRecDepth 20000 in
theorem gX3_width_X0_size : GoodIn wsX3_width (wsV RX3 43 RX0 yX0_size wsX0_size) := goodIn_app (goodIn_of _ (by decide +kernel)) ggX3_width_X0_size
set_option maxRecDepth 20000 in
theorem ggX3_places_X3_width : GoodIn wsX3_places wsX3_width := goodIn_r _ [6, 7, 8, 9, 10, 5, 11, 12, 13, 14, 15, 16, 17, 18, 19, 20, 21, 22, 23, 24] (by decide +kernel) (by decide +kernel)
set_option maxRecDepth 20000 in
theorem gX3_places_X3_width : GoodIn wsX3_places (wsV RX3 48 RX3 yX3_width wsX3_width) := goodIn_app (goodIn_of _ (by decide +kernel)) ggX3_places_X3_width
set_option maxRecDepth 20000 in
theorem ggX3_generatorsOf_X3_degreeOf : GoodIn wsX3_generatorsOf wsX3_degreeOf := goodIn_r _ [6, 7, 8, 9, 10, 11] (by decide +kernel) (by decide +kernel)
set_option maxRecDepth 20000 in
theorem gX3_generatorsOf_X3_degreeOf : GoodIn wsX3_generatorsOf (wsV RX3 39 RX3 yX3_degreeOf wsX3_degreeOf) := goodIn_app (goodIn_of _ (by decide +kernel)) ggX3_generatorsOf_X3_degreeOf
set_option maxRecDepth 20000 in
theorem ggX4_timesSum_X0_size : GoodIn wsX4_timesSum wsX0_size := goodIn_r _ [6, 7, 41, 42] (by decide +kernel) (by decide +kernel)
set_option maxRecDepth 20000 in
theorem gX4_timesSum_X0_size : GoodIn wsX4_timesSum (wsV RX4 13 RX0 yX0_size wsX0_size) := goodIn_app (goodIn_of _ (by decide +kernel)) ggX4_timesSum_X0_size
set_option maxRecDepth 20000 in
theorem ggX4_timesSum_X0_start : GoodIn wsX4_timesSum wsX0_start := goodIn_r _ [11, 7, 12, 13, 14, 15, 16, 17, 18, 41, 42] (by decide +kernel) (by decide +kernel)
set_option maxRecDepth 20000 in
theorem gX4_timesSum_X0_start : GoodIn wsX4_timesSum (wsV RX4 19 RX0 yX0_start wsX0_start) := goodIn_app (goodIn_of _ (by decide +kernel)) ggX4_timesSum_X0_start
set_option maxRecDepth 20000 in
theorem ggX4_timesSum_X4_timesRow : GoodIn wsX4_timesSum wsX4_timesRow := goodIn_r _ [23, 1, 24, 25, 26, 5, 27, 28, 29, 30, 31, 32, 33, 9, 10, 11, 7, 12, 13, 14, 15, 16, 17, 18, 34, 35, 36, 37, 38, 39, 3, 4, 6, 40, 41, 42] (by decide +kernel) (by decide +kernel)
set_option maxRecDepth 20000 in
theorem gX4_timesSum_X4_timesRow : GoodIn wsX4_timesSum (wsV RX4 22 RX4 yX4_timesRow wsX4_timesRow) := goodIn_app (goodIn_of _ (by decide +kernel)) ggX4_timesSum_X4_timesRow
set_option maxRecDepth 20000 in
theorem ggX4_timesRow_X0_numberAt : GoodIn wsX4_timesRow wsX0_numberAt := goodIn_r _ [6, 7, 34, 35] (by decide +kernel) (by decide +kernel)
set_option maxRecDepth 20000 in
theorem gX4_timesRow_X0_numberAt : GoodIn wsX4_timesRow (wsV RX4 26 RX0 yX0_numberAt wsX0_numberAt) := goodIn_app (goodIn_of _ (by decide +kernel)) ggX4_timesRow_X0_numberAt
set_option maxRecDepth 20000 in
theorem ggX4_timesRow_X0_find : GoodIn wsX4_timesRow wsX0_find := goodIn_r _ [11, 12, 13, 14, 5, 15, 16, 17, 18, 19, 20, 21, 22, 23, 24, 3, 4, 6, 7, 34, 35] (by decide +kernel) (by decide +kernel)
set_option maxRecDepth 20000 in
theorem gX4_timesRow_X0_find : GoodIn wsX4_timesRow (wsV RX4 30 RX0 yX0_find wsX0_find) := goodIn_app (goodIn_of _ (by decide +kernel)) ggX4_timesRow_X0_find
set_option maxRecDepth 20000 in
theorem ggX4_timesRow_X0_bit : GoodIn wsX4_timesRow wsX0_bit := goodIn_r _ [28, 12, 13, 14, 5, 15, 16, 17, 18, 19, 20, 21, 22, 23, 29, 30, 31, 32, 34, 35] (by decide +kernel) (by decide +kernel)
set_option maxRecDepth 20000 in
theorem gX4_timesRow_X0_bit : GoodIn wsX4_timesRow (wsV RX4 34 RX0 yX0_bit wsX0_bit) := goodIn_app (goodIn_of _ (by decide +kernel)) ggX4_timesRow_X0_bit
set_option maxRecDepth 20000 in
theorem ggX5_degreeOf_X5_has : GoodIn wsX5_degreeOf wsX5_has := goodIn_r _ [6, 7, 8, 9, 10, 11, 12] (by decide +kernel) (by decide +kernel)
set_option maxRecDepth 20000 in
theorem gX5_degreeOf_X5_has : GoodIn wsX5_degreeOf (wsV RX5 25 RX5 yX5_has wsX5_has) := goodIn_app (goodIn_of _ (by decide +kernel)) ggX5_degreeOf_X5_has
set_option maxRecDepth 20000 in
theorem ggX5_setAct_X5_has : GoodIn wsX5_setAct wsX5_has := goodIn_r _ [7, 8, 9, 10, 11, 12, 13] (by decide +kernel) (by decide +kernel)
set_option maxRecDepth 20000 in
theorem gX5_setAct_X5_has : GoodIn wsX5_setAct (wsV RX5 25 RX5 yX5_has wsX5_has) := goodIn_app (goodIn_of _ (by decide +kernel)) ggX5_setAct_X5_has
set_option maxRecDepth 20000 in
theorem ggX5_restart_J7_fill_53178 : GoodIn wsX5_restart wsJ7_fill_53178 := goodIn_r _ [7] (by decide +kernel) (by decide +kernel)
set_option maxRecDepth 20000 in
theorem gX5_restart_J7_fill_53178 : GoodIn wsX5_restart (va_wsS RX5 33 yJ7_fill_53178 wsJ7_fill_53178) := goodIn_app (goodIn_of _ (by decide +kernel)) ggX5_restart_J7_fill_53178
set_option maxRecDepth 20000 in
theorem ggX5_spread_X5_restart : GoodIn wsX5_spread wsX5_restart := goodIn_r _ [5, 6, 7, 8, 9, 10, 11, 12, 29, 30, 31, 32, 33] (by decide +kernel) (by decide +kernel)
set_option maxRecDepth 20000 in
theorem gX5_spread_X5_restart : GoodIn wsX5_spread (wsV RX5 39 RX5 yX5_restart wsX5_restart) := goodIn_app (goodIn_of _ (by decide +kernel)) ggX5_spread_X5_restart
set_option maxRecDepth 20000 in
theorem ggX5_spread_X5_add : GoodIn wsX5_spread wsX5_add := goodIn_r _ [16, 6, 17, 7, 29, 30, 31, 32, 33] (by decide +kernel) (by decide +kernel)
set_option maxRecDepth 20000 in
theorem gX5_spread_X5_add : GoodIn wsX5_spread (wsV RX5 42 RX5 yX5_add wsX5_add) := goodIn_app (goodIn_of _ (by decide +kernel)) ggX5_spread_X5_add
set_option maxRecDepth 20000 in
theorem ggX5_spread_X8_isOdd : GoodIn wsX5_spread wsX8_isOdd := goodIn_r _ [20] (by decide +kernel) (by decide +kernel)
set_option maxRecDepth 20000 in
theorem gX5_spread_X8_isOdd_n46 : GoodIn wsX5_spread (wsX8_isOdd) := ggX5_spread_X8_isOdd
set_option maxRecDepth 20000 in
theorem ggX5_spread_X5_setAct : GoodIn wsX5_spread wsX5_setAct := goodIn_r _ [24, 8, 7, 25, 26, 27, 4, 28, 6, 29, 30, 31, 32, 33] (by decide +kernel) (by decide +kernel)
set_option maxRecDepth 20000 in
theorem gX5_spread_X5_setAct : GoodIn wsX5_spread (wsV RX5 50 RX5 yX5_setAct wsX5_setAct) := goodIn_app (goodIn_of _ (by decide +kernel)) ggX5_spread_X5_setAct
set_option maxRecDepth 20000 in
theorem ggX5_ofDegree_X5_degreeOf : GoodIn wsX5_ofDegree wsX5_degreeOf := goodIn_r _ [6, 7, 8, 9, 10, 5, 11, 1, 12, 13, 14, 15, 16] (by decide +kernel) (by decide +kernel)
set_option maxRecDepth 20000 in
theorem gX5_ofDegree_X5_degreeOf : GoodIn wsX5_ofDegree (wsV RX5 54 RX5 yX5_degreeOf wsX5_degreeOf) := goodIn_app (goodIn_of _ (by decide +kernel)) ggX5_ofDegree_X5_degreeOf
set_option maxRecDepth 20000 in
theorem ggX5_apply_X5_acted : GoodIn wsX5_apply wsX5_acted := goodIn_r _ [6, 7, 8, 9, 10, 11, 12] (by decide +kernel) (by decide +kernel)
set_option maxRecDepth 20000 in
theorem gX5_apply_X5_acted : GoodIn wsX5_apply (wsV RX5 57 RX5 yX5_acted wsX5_acted) := goodIn_app (goodIn_of _ (by decide +kernel)) ggX5_apply_X5_acted
set_option maxRecDepth 20000 in
theorem ggX5_isSound_X5_firstFault : GoodIn wsX5_isSound wsX5_firstFault := goodIn_r _ [5, 6, 7, 8, 9, 10, 4, 11, 12, 13, 14, 15, 16, 17, 18, 19, 20, 21, 22, 23, 24, 25, 26, 27, 28, 29, 30, 31, 32, 33, 34, 35, 36, 37] (by decide +kernel) (by decide +kernel)
set_option maxRecDepth 20000 in
theorem gX5_isSound_X5_firstFault : GoodIn wsX5_isSound (wsV RX5 61 RX5 yX5_firstFault wsX5_firstFault) := goodIn_app (goodIn_of _ (by decide +kernel)) ggX5_isSound_X5_firstFault
set_option maxRecDepth 20000 in
theorem ggX5_firstFault_X5_findFault : GoodIn wsX5_firstFault wsX5_findFault := goodIn_r _ [7, 2, 8, 9, 10, 11, 12, 13, 14, 15, 6, 16, 17, 18, 19, 20, 21, 22, 23, 24, 25, 26, 27, 28, 29, 30, 31, 32, 33] (by decide +kernel) (by decide +kernel)
set_option maxRecDepth 20000 in
theorem gX5_firstFault_X5_findFault : GoodIn wsX5_firstFault (wsV RX5 64 RX5 yX5_findFault wsX5_findFault) := goodIn_app (goodIn_of _ (by decide +kernel)) ggX5_firstFault_X5_findFault
set_option maxRecDepth 20000 in
theorem ggX5_findFault_J7_fill_53178 : GoodIn wsX5_findFault wsJ7_fill_53178 := goodIn_r _ [6] (by decide +kernel) (by decide +kernel)
set_option maxRecDepth 20000 in
theorem gX5_findFault_J7_fill_53178 : GoodIn wsX5_findFault (va_wsS RX5 33 yJ7_fill_53178 wsJ7_fill_53178) := goodIn_app (goodIn_of _ (by decide +kernel)) ggX5_findFault_J7_fill_53178
set_option maxRecDepth 20000 in
theorem ggX5_findFault_X5_acted : GoodIn wsX5_findFault wsX5_acted := goodIn_r _ [11, 12, 24, 25, 26, 27, 28] (by decide +kernel) (by decide +kernel)
set_option maxRecDepth 20000 in
theorem gX5_findFault_X5_acted : GoodIn wsX5_findFault (wsV RX5 57 RX5 yX5_acted wsX5_acted) := goodIn_app (goodIn_of _ (by decide +kernel)) ggX5_findFault_X5_acted
set_option maxRecDepth 20000 in
theorem ggX5_findFault_X5_apply : GoodIn wsX5_findFault wsX5_apply := goodIn_r _ [16, 2, 7, 8, 9, 10, 11, 12, 24, 25, 26, 27, 28] (by decide +kernel) (by decide +kernel)
set_option maxRecDepth 20000 in
theorem gX5_findFault_X5_apply : GoodIn wsX5_findFault (wsV RX5 67 RX5 yX5_apply wsX5_apply) := goodIn_app (goodIn_of _ (by decide +kernel)) ggX5_findFault_X5_apply
set_option maxRecDepth 20000 in
theorem ggX5_findFault_X5_byTheRule : GoodIn wsX5_findFault wsX5_byTheRule := goodIn_r _ [20, 21, 22, 23, 13, 14, 15, 10, 16, 2, 7, 8, 9, 11, 12, 24, 25, 26, 27, 28] (by decide +kernel) (by decide +kernel)
set_option maxRecDepth 20000 in
theorem gX5_findFault_X5_byTheRule : GoodIn wsX5_findFault (wsV RX5 70 RX5 yX5_byTheRule wsX5_byTheRule) := goodIn_app (goodIn_of _ (by decide +kernel)) ggX5_findFault_X5_byTheRule
set_option maxRecDepth 20000 in
theorem ggX5_byTheRule_X8_isOdd : GoodIn wsX5_byTheRule wsX8_isOdd := goodIn_r _ [3] (by decide +kernel) (by decide +kernel)
set_option maxRecDepth 20000 in
theorem gX5_byTheRule_X8_isOdd_n46 : GoodIn wsX5_byTheRule (wsX8_isOdd) := ggX5_byTheRule_X8_isOdd
set_option maxRecDepth 20000 in
theorem ggX5_byTheRule_X5_apply : GoodIn wsX5_byTheRule wsX5_apply := goodIn_r _ [8, 9, 10, 11, 12, 7, 13, 14, 15, 16, 17, 18, 19] (by decide +kernel) (by decide +kernel)
set_option maxRecDepth 20000 in
theorem gX5_byTheRule_X5_apply : GoodIn wsX5_byTheRule (wsV RX5 67 RX5 yX5_apply wsX5_apply) := goodIn_app (goodIn_of _ (by decide +kernel)) ggX5_byTheRule_X5_apply
set_option maxRecDepth 20000 in
theorem ggX6_init_X6_fillUnit : GoodIn wsX6_init wsX6_fillUnit := goodIn_r _ [11, 6, 12, 13, 14, 15, 16, 17, 18, 19, 20, 21, 22, 23, 24, 25, 26, 27, 28, 29, 30, 31, 32, 33, 34, 35, 36, 10, 37, 5, 76, 77, 78, 79] (by decide +kernel) (by decide +kernel)
set_option maxRecDepth 20000 in
theorem gX6_init_X6_fillUnit : GoodIn wsX6_init (wsV RX6 19 RX6 yX6_fillUnit wsX6_fillUnit) := goodIn_app (goodIn_of _ (by decide +kernel)) ggX6_init_X6_fillUnit
set_option maxRecDepth 20000 in
theorem ggX6_init_X6_fillSingles : GoodIn wsX6_init wsX6_fillSingles := goodIn_r _ [41, 6, 12, 13, 14, 15, 16, 17, 18, 19, 20, 21, 22, 23, 24, 42, 43, 44, 10, 45, 46, 47, 48, 49, 50, 51, 52, 53, 54, 55, 56, 57, 58, 29, 59, 25, 26, 27, 28, 30, 31, 32, 33, 60, 61, 62, 63, 64, 65, 66, 5, 67, 68, 69, 70, 71, 34, 35, 36, 37, 76, 77, 78, 79] (by decide +kernel) (by decide +kernel)
set_option maxRecDepth 20000 in
theorem gX6_init_X6_fillSingles : GoodIn wsX6_init (wsV RX6 22 RX6 yX6_fillSingles wsX6_fillSingles) := goodIn_app (goodIn_of _ (by decide +kernel)) ggX6_init_X6_fillSingles
set_option maxRecDepth 20000 in
theorem ggX6_init_X6_fillLonger : GoodIn wsX6_init wsX6_fillLonger := goodIn_r _ [75, 6, 12, 13, 14, 15, 16, 17, 18, 19, 20, 21, 22, 23, 24, 42, 43, 44, 10, 45, 50, 51, 52, 53, 54, 55, 56, 57, 58, 29, 59, 63, 64, 65, 66, 5, 67, 68, 69, 70, 71, 31, 32, 33, 34, 35, 36, 37, 76, 77, 78, 79] (by decide +kernel) (by decide +kernel)
set_option maxRecDepth 20000 in
theorem gX6_init_X6_fillLonger : GoodIn wsX6_init (wsV RX6 25 RX6 yX6_fillLonger wsX6_fillLonger) := goodIn_app (goodIn_of _ (by decide +kernel)) ggX6_init_X6_fillLonger
set_option maxRecDepth 20000 in
theorem ggX6_fillUnit_X0_start : GoodIn wsX6_fillUnit wsX0_start := goodIn_r _ [6, 7, 8, 9, 10, 11, 12, 13, 14, 32, 33] (by decide +kernel) (by decide +kernel)
set_option maxRecDepth 20000 in
theorem gX6_fillUnit_X0_start : GoodIn wsX6_fillUnit (wsV RX6 28 RX0 yX0_start wsX0_start) := goodIn_app (goodIn_of _ (by decide +kernel)) ggX6_fillUnit_X0_start
set_option maxRecDepth 20000 in
theorem ggX6_fillUnit_X0_bit : GoodIn wsX6_fillUnit wsX0_bit := goodIn_r _ [18, 19, 3, 4, 5, 6, 7, 8, 9, 10, 11, 12, 13, 14, 20, 21, 22, 23, 32, 33] (by decide +kernel) (by decide +kernel)
set_option maxRecDepth 20000 in
theorem gX6_fillUnit_X0_bit : GoodIn wsX6_fillUnit (wsV RX6 34 RX0 yX0_bit wsX0_bit) := goodIn_app (goodIn_of _ (by decide +kernel)) ggX6_fillUnit_X0_bit
set_option maxRecDepth 20000 in
theorem ggX6_fillUnit_X6_put : GoodIn wsX6_fillUnit wsX6_put := goodIn_r _ [28, 29, 30, 31] (by decide +kernel) (by decide +kernel)
set_option maxRecDepth 20000 in
theorem gX6_fillUnit_X6_put : GoodIn wsX6_fillUnit (wsV RX6 38 RX6 yX6_put wsX6_put) := goodIn_app (goodIn_of _ (by decide +kernel)) ggX6_fillUnit_X6_put
set_option maxRecDepth 20000 in
theorem ggX6_fillSingles_X0_start : GoodIn wsX6_fillSingles wsX0_start := goodIn_r _ [6, 7, 8, 9, 10, 11, 12, 13, 14, 62, 63] (by decide +kernel) (by decide +kernel)
set_option maxRecDepth 20000 in
theorem gX6_fillSingles_X0_start : GoodIn wsX6_fillSingles (wsV RX6 28 RX0 yX0_start wsX0_start) := goodIn_app (goodIn_of _ (by decide +kernel)) ggX6_fillSingles_X0_start
set_option maxRecDepth 20000 in
theorem ggX6_fillSingles_X6_single : GoodIn wsX6_fillSingles wsX6_single := goodIn_r _ [19, 1, 2, 3, 4, 5, 6, 7, 8, 9, 10, 11, 12, 13, 14, 60, 61, 62, 63] (by decide +kernel) (by decide +kernel)
set_option maxRecDepth 20000 in
theorem gX6_fillSingles_X6_single : GoodIn wsX6_fillSingles (wsV RX6 42 RX6 yX6_single wsX6_single) := goodIn_app (goodIn_of _ (by decide +kernel)) ggX6_fillSingles_X6_single
set_option maxRecDepth 20000 in
theorem ggX6_fillSingles_X6_timesTerm : GoodIn wsX6_fillSingles wsX6_timesTerm := goodIn_r _ [23, 1, 24, 25, 26, 5, 27, 28, 29, 30, 31, 32, 33, 3, 4, 6, 7, 8, 9, 10, 11, 12, 13, 14, 34, 35, 36, 37, 38, 39, 40, 41, 42, 43, 44, 45, 15, 16, 17, 18, 19, 2, 46, 47, 48, 49, 50, 51, 52, 53, 54, 55, 60, 61, 62, 63] (by decide +kernel) (by decide +kernel)
set_option maxRecDepth 20000 in
theorem gX6_fillSingles_X6_timesTerm : GoodIn wsX6_fillSingles (wsV RX6 45 RX6 yX6_timesTerm wsX6_timesTerm) := goodIn_app (goodIn_of _ (by decide +kernel)) ggX6_fillSingles_X6_timesTerm
set_option maxRecDepth 20000 in
theorem ggX6_fillSingles_X6_put : GoodIn wsX6_fillSingles wsX6_put := goodIn_r _ [59, 50, 60, 61] (by decide +kernel) (by decide +kernel)
set_option maxRecDepth 20000 in
theorem gX6_fillSingles_X6_put : GoodIn wsX6_fillSingles (wsV RX6 38 RX6 yX6_put wsX6_put) := goodIn_app (goodIn_of _ (by decide +kernel)) ggX6_fillSingles_X6_put
set_option maxRecDepth 20000 in
theorem ggX6_fillLonger_X0_start : GoodIn wsX6_fillLonger wsX0_start := goodIn_r _ [6, 7, 8, 9, 10, 11, 12, 13, 14, 50, 51] (by decide +kernel) (by decide +kernel)
set_option maxRecDepth 20000 in
theorem gX6_fillLonger_X0_start : GoodIn wsX6_fillLonger (wsV RX6 28 RX0 yX0_start wsX0_start) := goodIn_app (goodIn_of _ (by decide +kernel)) ggX6_fillLonger_X0_start
set_option maxRecDepth 20000 in
theorem ggX6_fillLonger_X6_single : GoodIn wsX6_fillLonger wsX6_single := goodIn_r _ [19, 1, 2, 3, 4, 5, 6, 7, 8, 9, 10, 11, 12, 13, 14, 48, 49, 50, 51] (by decide +kernel) (by decide +kernel)
set_option maxRecDepth 20000 in
theorem gX6_fillLonger_X6_single : GoodIn wsX6_fillLonger (wsV RX6 42 RX6 yX6_single wsX6_single) := goodIn_app (goodIn_of _ (by decide +kernel)) ggX6_fillLonger_X6_single
set_option maxRecDepth 20000 in
theorem ggX6_fillLonger_X0_numberAt : GoodIn wsX6_fillLonger wsX0_numberAt := goodIn_r _ [23, 24, 50, 51] (by decide +kernel) (by decide +kernel)
set_option maxRecDepth 20000 in
theorem gX6_fillLonger_X0_numberAt : GoodIn wsX6_fillLonger (wsV RX6 49 RX0 yX0_numberAt wsX0_numberAt) := goodIn_app (goodIn_of _ (by decide +kernel)) ggX6_fillLonger_X0_numberAt
set_option maxRecDepth 20000 in
theorem ggX6_fillLonger_X0_find : GoodIn wsX6_fillLonger wsX0_find := goodIn_r _ [28, 29, 3, 4, 5, 6, 7, 8, 9, 10, 11, 12, 13, 14, 30, 21, 22, 23, 24, 50, 51] (by decide +kernel) (by decide +kernel)
set_option maxRecDepth 20000 in
theorem gX6_fillLonger_X0_find : GoodIn wsX6_fillLonger (wsV RX6 52 RX0 yX0_find wsX0_find) := goodIn_app (goodIn_of _ (by decide +kernel)) ggX6_fillLonger_X0_find
set_option maxRecDepth 20000 in
theorem ggX6_fillLonger_X6_product : GoodIn wsX6_fillLonger wsX6_product := goodIn_r _ [34, 35, 48, 49] (by decide +kernel) (by decide +kernel)
set_option maxRecDepth 20000 in
theorem gX6_fillLonger_X6_product : GoodIn wsX6_fillLonger (wsV RX6 56 RX6 yX6_product wsX6_product) := goodIn_app (goodIn_of _ (by decide +kernel)) ggX6_fillLonger_X6_product
set_option maxRecDepth 20000 in
theorem ggX6_fillLonger_X6_timesSum : GoodIn wsX6_fillLonger wsX6_timesSum := goodIn_r _ [39, 1, 2, 3, 4, 5, 6, 7, 8, 9, 10, 11, 12, 13, 14, 40, 41, 42, 43, 15, 16, 17, 18, 19, 31, 32, 33, 34, 35, 48, 49, 50, 51] (by decide +kernel) (by decide +kernel)
set_option maxRecDepth 20000 in
theorem gX6_fillLonger_X6_timesSum : GoodIn wsX6_fillLonger (wsV RX6 59 RX6 yX6_timesSum wsX6_timesSum) := goodIn_app (goodIn_of _ (by decide +kernel)) ggX6_fillLonger_X6_timesSum
set_option maxRecDepth 20000 in
theorem ggX6_fillLonger_X6_put : GoodIn wsX6_fillLonger wsX6_put := goodIn_r _ [47, 35, 48, 49] (by decide +kernel) (by decide +kernel)
set_option maxRecDepth 20000 in
theorem gX6_fillLonger_X6_put : GoodIn wsX6_fillLonger (wsV RX6 38 RX6 yX6_put wsX6_put) := goodIn_app (goodIn_of _ (by decide +kernel)) ggX6_fillLonger_X6_put
set_option maxRecDepth 20000 in
theorem ggX6_timesTerm_X0_numberAt : GoodIn wsX6_timesTerm wsX0_numberAt := goodIn_r _ [6, 7, 54, 55] (by decide +kernel) (by decide +kernel)
set_option maxRecDepth 20000 in
theorem gX6_timesTerm_X0_numberAt : GoodIn wsX6_timesTerm (wsV RX6 49 RX0 yX0_numberAt wsX0_numberAt) := goodIn_app (goodIn_of _ (by decide +kernel)) ggX6_timesTerm_X0_numberAt
set_option maxRecDepth 20000 in
theorem ggX6_timesTerm_X0_find : GoodIn wsX6_timesTerm wsX0_find := goodIn_r _ [11, 12, 13, 14, 5, 15, 16, 17, 18, 19, 20, 21, 22, 23, 24, 3, 4, 6, 7, 54, 55] (by decide +kernel) (by decide +kernel)
set_option maxRecDepth 20000 in
theorem gX6_timesTerm_X0_find : GoodIn wsX6_timesTerm (wsV RX6 52 RX0 yX0_find wsX0_find) := goodIn_app (goodIn_of _ (by decide +kernel)) ggX6_timesTerm_X0_find
set_option maxRecDepth 20000 in
theorem ggX6_timesTerm_X0_bit : GoodIn wsX6_timesTerm wsX0_bit := goodIn_r _ [28, 12, 13, 14, 5, 15, 16, 17, 18, 19, 20, 21, 22, 23, 29, 30, 31, 32, 54, 55] (by decide +kernel) (by decide +kernel)
set_option maxRecDepth 20000 in
theorem gX6_timesTerm_X0_bit : GoodIn wsX6_timesTerm (wsV RX6 34 RX0 yX0_bit wsX0_bit) := goodIn_app (goodIn_of _ (by decide +kernel)) ggX6_timesTerm_X0_bit
set_option maxRecDepth 20000 in
theorem ggX6_timesTerm_X8_isOdd : GoodIn wsX6_timesTerm wsX8_isOdd := goodIn_r _ [35] (by decide +kernel) (by decide +kernel)
set_option maxRecDepth 20000 in
theorem gX6_timesTerm_X8_isOdd_n62 : GoodIn wsX6_timesTerm (wsX8_isOdd) := ggX6_timesTerm_X8_isOdd
set_option maxRecDepth 20000 in
theorem ggX6_timesTerm_X6_single : GoodIn wsX6_timesTerm wsX6_single := goodIn_r _ [40, 1, 41, 13, 14, 5, 15, 16, 17, 18, 19, 20, 21, 22, 23, 52, 53, 54, 55] (by decide +kernel) (by decide +kernel)
set_option maxRecDepth 20000 in
theorem gX6_timesTerm_X6_single : GoodIn wsX6_timesTerm (wsV RX6 42 RX6 yX6_single wsX6_single) := goodIn_app (goodIn_of _ (by decide +kernel)) ggX6_timesTerm_X6_single
set_option maxRecDepth 20000 in
theorem ggX6_timesTerm_X6_product : GoodIn wsX6_timesTerm wsX6_product := goodIn_r _ [45, 46, 52, 53] (by decide +kernel) (by decide +kernel)
set_option maxRecDepth 20000 in
theorem gX6_timesTerm_X6_product : GoodIn wsX6_timesTerm (wsV RX6 56 RX6 yX6_product wsX6_product) := goodIn_app (goodIn_of _ (by decide +kernel)) ggX6_timesTerm_X6_product
set_option maxRecDepth 20000 in
theorem ggX6_timesTerm_X6_timesSum : GoodIn wsX6_timesTerm wsX6_timesSum := goodIn_r _ [50, 1, 41, 13, 14, 5, 15, 16, 17, 18, 19, 20, 21, 22, 23, 51, 30, 31, 32, 36, 37, 38, 39, 40, 42, 43, 44, 45, 46, 52, 53, 54, 55] (by decide +kernel) (by decide +kernel)
set_option maxRecDepth 20000 in
theorem gX6_timesTerm_X6_timesSum : GoodIn wsX6_timesTerm (wsV RX6 59 RX6 yX6_timesSum wsX6_timesSum) := goodIn_app (goodIn_of _ (by decide +kernel)) ggX6_timesTerm_X6_timesSum
set_option maxRecDepth 20000 in
theorem ggX6_timesSum_X0_start : GoodIn wsX6_timesSum wsX0_start := goodIn_r _ [6, 7, 8, 9, 10, 11, 12, 13, 14, 31, 32] (by decide +kernel) (by decide +kernel)
set_option maxRecDepth 20000 in
theorem gX6_timesSum_X0_start : GoodIn wsX6_timesSum (wsV RX6 28 RX0 yX0_start wsX0_start) := goodIn_app (goodIn_of _ (by decide +kernel)) ggX6_timesSum_X0_start
set_option maxRecDepth 20000 in
theorem ggX6_timesSum_X0_size : GoodIn wsX6_timesSum wsX0_size := goodIn_r _ [18, 7, 31, 32] (by decide +kernel) (by decide +kernel)
set_option maxRecDepth 20000 in
theorem gX6_timesSum_X0_size : GoodIn wsX6_timesSum (wsV RX6 66 RX0 yX0_size wsX0_size) := goodIn_app (goodIn_of _ (by decide +kernel)) ggX6_timesSum_X0_size
set_option maxRecDepth 20000 in
theorem ggX6_timesSum_X6_single : GoodIn wsX6_timesSum wsX6_single := goodIn_r _ [23, 1, 2, 3, 4, 5, 6, 7, 8, 9, 10, 11, 12, 13, 14, 29, 30, 31, 32] (by decide +kernel) (by decide +kernel)
set_option maxRecDepth 20000 in
theorem gX6_timesSum_X6_single : GoodIn wsX6_timesSum (wsV RX6 42 RX6 yX6_single wsX6_single) := goodIn_app (goodIn_of _ (by decide +kernel)) ggX6_timesSum_X6_single
set_option maxRecDepth 20000 in
theorem ggX6_timesSum_X6_product : GoodIn wsX6_timesSum wsX6_product := goodIn_r _ [27, 28, 29, 30] (by decide +kernel) (by decide +kernel)
set_option maxRecDepth 20000 in
theorem gX6_timesSum_X6_product : GoodIn wsX6_timesSum (wsV RX6 56 RX6 yX6_product wsX6_product) := goodIn_app (goodIn_of _ (by decide +kernel)) ggX6_timesSum_X6_product
set_option maxRecDepth 20000 in
theorem ggX6_single_X0_start : GoodIn wsX6_single wsX0_start := goodIn_r _ [6, 7, 8, 9, 10, 11, 12, 13, 14, 17, 18] (by decide +kernel) (by decide +kernel)
set_option maxRecDepth 20000 in
theorem gX6_single_X0_start : GoodIn wsX6_single (wsV RX6 28 RX0 yX0_start wsX0_start) := goodIn_app (goodIn_of _ (by decide +kernel)) ggX6_single_X0_start
set_option maxRecDepth 20000 in
theorem ggJ7_fill_fda19_J7_rangeCheck_23922 : GoodIn wsJ7_fill_fda19 wsJ7_rangeCheck_23922 := goodIn_r _ [4] (by decide +kernel) (by decide +kernel)
set_option maxRecDepth 20000 in
theorem gJ7_fill_fda19_J7_rangeCheck_23922 : GoodIn wsJ7_fill_fda19 (va_wsS RJ7 13 yJ7_rangeCheck_23922 wsJ7_rangeCheck_23922) := goodIn_app (goodIn_of _ (by decide +kernel)) ggJ7_fill_fda19_J7_rangeCheck_23922
end
section
set_option maxRecDepth 20000 in
theorem ggX7_init_X1_init : GoodIn wsX7_init wsX1_init := goodIn_r _ [24, 25, 2, 3, 26, 27, 28, 29, 30, 31, 32, 33, 55, 56, 57] (by decide +kernel) (by decide +kernel)
set_option maxRecDepth 20000 in
theorem gX7_init_X1_init : GoodIn wsX7_init (wsX1_init) := ggX7_init_X1_init
set_option maxRecDepth 20000 in
theorem ggX7_init_X3_init : GoodIn wsX7_init wsX3_init := goodIn_r _ [36, 37, 2, 3, 12, 38, 39, 8, 9, 40, 41, 42, 23, 24, 25, 26, 27, 28, 29, 30, 31, 32, 33, 58, 59, 60, 61, 55, 56, 57] (by decide +kernel) (by decide +kernel)
set_option maxRecDepth 20000 in
theorem gX7_init_X3_init : GoodIn wsX7_init (wsX3_init) := ggX7_init_X3_init
set_option maxRecDepth 20000 in
theorem ggX7_generatorsAt_X3_generatorsOf : GoodIn wsX7_generatorsAt wsX3_generatorsOf := goodIn_r _ [6, 7, 8, 9, 10, 5, 11, 12, 25, 26, 27, 28] (by decide +kernel) (by decide +kernel)
set_option maxRecDepth 20000 in
theorem gX7_generatorsAt_X3_generatorsOf : GoodIn wsX7_generatorsAt (wsV RX7 65 RX3 yX3_generatorsOf wsX3_generatorsOf) := goodIn_app (goodIn_of _ (by decide +kernel)) ggX7_generatorsAt_X3_generatorsOf
set_option maxRecDepth 20000 in
theorem ggX7_turnByTurn_X3_places : GoodIn wsX7_turnByTurn wsX3_places := goodIn_r _ [6, 7, 8, 9, 10, 5, 11, 12, 13, 14, 15, 16, 17, 18, 19, 20, 21, 22, 23, 36, 37, 38, 39, 40, 41] (by decide +kernel) (by decide +kernel)
set_option maxRecDepth 20000 in
theorem gX7_turnByTurn_X3_places : GoodIn wsX7_turnByTurn (wsV RX7 69 RX3 yX3_places wsX3_places) := goodIn_app (goodIn_of _ (by decide +kernel)) ggX7_turnByTurn_X3_places
set_option maxRecDepth 20000 in
theorem ggX7_rankOfJoins_X3_generators : GoodIn wsX7_rankOfJoins wsX3_generators := goodIn_r _ [11, 12, 63, 64, 65, 66] (by decide +kernel) (by decide +kernel)
set_option maxRecDepth 20000 in
theorem gX7_rankOfJoins_X3_generators : GoodIn wsX7_rankOfJoins (wsV RX7 72 RX3 yX3_generators wsX3_generators) := goodIn_app (goodIn_of _ (by decide +kernel)) ggX7_rankOfJoins_X3_generators
set_option maxRecDepth 20000 in
theorem ggX7_rankOfJoins_X3_degreeOf : GoodIn wsX7_rankOfJoins wsX3_degreeOf := goodIn_r _ [16, 17, 63, 64, 65, 66] (by decide +kernel) (by decide +kernel)
set_option maxRecDepth 20000 in
theorem gX7_rankOfJoins_X3_degreeOf : GoodIn wsX7_rankOfJoins (wsV RX7 76 RX3 yX3_degreeOf wsX3_degreeOf) := goodIn_app (goodIn_of _ (by decide +kernel)) ggX7_rankOfJoins_X3_degreeOf
set_option maxRecDepth 20000 in
theorem ggX7_rankOfJoins_X3_goals : GoodIn wsX7_rankOfJoins wsX3_goals := goodIn_r _ [21, 22, 63, 64, 65, 66] (by decide +kernel) (by decide +kernel)
set_option maxRecDepth 20000 in
theorem gX7_rankOfJoins_X3_goals : GoodIn wsX7_rankOfJoins (wsV RX7 79 RX3 yX3_goals wsX3_goals) := goodIn_app (goodIn_of _ (by decide +kernel)) ggX7_rankOfJoins_X3_goals
set_option maxRecDepth 20000 in
theorem ggX7_rankOfJoins_X7_joinsOf : GoodIn wsX7_rankOfJoins wsX7_joinsOf := goodIn_r _ [26, 7, 8, 9, 10, 11, 12, 27, 28, 29, 30, 31, 32, 14, 15, 16, 17, 33, 34, 35, 36, 37, 38, 13, 39, 40, 41, 42, 43, 44, 45, 46, 47, 48, 49, 50, 63, 64, 65, 66, 67, 68, 69, 70, 71] (by decide +kernel) (by decide +kernel)
set_option maxRecDepth 20000 in
theorem gX7_rankOfJoins_X7_joinsOf : GoodIn wsX7_rankOfJoins (va_wsS RX7 83 yX7_joinsOf wsX7_joinsOf) := goodIn_app (goodIn_of _ (by decide +kernel)) ggX7_rankOfJoins_X7_joinsOf
set_option maxRecDepth 20000 in
theorem ggX7_joinsOf_X3_generators : GoodIn wsX7_joinsOf wsX3_generators := goodIn_r _ [5, 6, 36, 37, 38, 39] (by decide +kernel) (by decide +kernel)
set_option maxRecDepth 20000 in
theorem gX7_joinsOf_X3_generators : GoodIn wsX7_joinsOf (wsV RX7 72 RX3 yX3_generators wsX3_generators) := goodIn_app (goodIn_of _ (by decide +kernel)) ggX7_joinsOf_X3_generators
set_option maxRecDepth 20000 in
theorem ggX7_joinsOf_X3_width : GoodIn wsX7_joinsOf wsX3_width := goodIn_r _ [10, 11, 12, 13, 14, 4, 15, 16, 17, 18, 19, 20, 21, 22, 36, 37, 38, 39, 40, 41] (by decide +kernel) (by decide +kernel)
set_option maxRecDepth 20000 in
theorem gX7_joinsOf_X3_width : GoodIn wsX7_joinsOf (wsV RX7 93 RX3 yX3_width wsX3_width) := goodIn_app (goodIn_of _ (by decide +kernel)) ggX7_joinsOf_X3_width
set_option maxRecDepth 20000 in
theorem ggX7_joinsOf_X3_degreeOf : GoodIn wsX7_joinsOf wsX3_degreeOf := goodIn_r _ [15, 16, 36, 37, 38, 39] (by decide +kernel) (by decide +kernel)
set_option maxRecDepth 20000 in
theorem gX7_joinsOf_X3_degreeOf : GoodIn wsX7_joinsOf (wsV RX7 76 RX3 yX3_degreeOf wsX3_degreeOf) := goodIn_app (goodIn_of _ (by decide +kernel)) ggX7_joinsOf_X3_degreeOf
set_option maxRecDepth 20000 in
theorem ggX7_joinsOf_X1_bit : GoodIn wsX7_joinsOf wsX1_bit := goodIn_r _ [28, 29, 30, 31, 27, 32, 33, 34, 35, 42, 43, 44] (by decide +kernel) (by decide +kernel)
set_option maxRecDepth 20000 in
theorem gX7_joinsOf_X1_bit : GoodIn wsX7_joinsOf (wsV RX7 96 RX1 yX1_bit wsX1_bit) := goodIn_app (goodIn_of _ (by decide +kernel)) ggX7_joinsOf_X1_bit
set_option maxRecDepth 20000 in
theorem ggX7_build_X3_restart : GoodIn wsX7_build wsX3_restart := goodIn_r _ [7, 8, 9, 10, 11, 12, 13, 14, 15, 16, 17, 18, 19, 20, 21, 22, 23, 218, 219, 220, 221, 222, 223, 224] (by decide +kernel) (by decide +kernel)
set_option maxRecDepth 20000 in
theorem gX7_build_X3_restart : GoodIn wsX7_build (wsV RX7 99 RX3 yX3_restart wsX3_restart) := goodIn_app (goodIn_of _ (by decide +kernel)) ggX7_build_X3_restart
set_option maxRecDepth 20000 in
theorem ggX7_build_X7_buildDegree : GoodIn wsX7_build wsX7_buildDegree := goodIn_r _ [28, 29, 30, 2, 31, 32, 33, 34, 16, 17, 18, 35, 36, 37, 38, 39, 40, 41, 42, 43, 44, 45, 46, 47, 48, 49, 50, 51, 27, 52, 53, 11, 12, 13, 14, 15, 19, 20, 21, 22, 23, 54, 55, 56, 57, 58, 59, 60, 61, 62, 63, 64, 65, 66, 67, 68, 69, 6, 70, 8, 71, 72, 73, 74, 75, 76, 77, 78, 79, 80, 81, 82, 83, 84, 85, 86, 87, 88, 89, 90, 91, 92, 93, 94, 95, 96, 97, 98, 99, 100, 101, 102, 103, 104, 105, 106, 107, 108, 109, 110, 111, 112, 113, 114, 115, 116, 117, 118, 119, 120, 121, 9, 122, 123, 124, 125, 126, 127, 128, 129, 130, 131, 132, 133, 134, 135, 136, 137, 138, 139, 140, 141, 142, 143, 144, 145, 146, 147, 148, 149, 150, 151, 152, 153, 154, 155, 156, 157, 158, 159, 160, 161, 162, 163, 164, 165, 166, 167, 168, 169, 170, 171, 172, 173, 174, 175, 176, 177, 178, 179, 180, 181, 182, 183, 184, 185, 186, 187, 188, 189, 190, 191, 192, 193, 194, 195, 196, 197, 198, 199, 200, 201, 202, 203, 204, 205, 206, 207, 208, 209, 210, 211, 212, 213, 214, 215, 216, 217, 225, 226, 227, 228, 229, 222, 223, 224, 218, 219, 220, 221, 230, 231, 232, 233] (by decide +kernel) (by decide +kernel)
set_option maxRecDepth 20000 in
theorem gX7_build_X7_buildDegree : GoodIn wsX7_build (wsV RX7 102 RX7 yX7_buildDegree wsX7_buildDegree) := goodIn_app (goodIn_of _ (by decide +kernel)) ggX7_build_X7_buildDegree
set_option maxRecDepth 20000 in
theorem ggX7_buildDegree_X5_ofDegree : GoodIn wsX7_buildDegree wsX5_ofDegree := goodIn_r _ [15, 16, 17, 18, 19, 14, 20, 21, 22, 23, 24, 25, 208, 209, 210, 211, 212] (by decide +kernel) (by decide +kernel)
set_option maxRecDepth 20000 in
theorem gX7_buildDegree_X5_ofDegree : GoodIn wsX7_buildDegree (wsV RX7 105 RX5 yX5_ofDegree wsX5_ofDegree) := goodIn_app (goodIn_of _ (by decide +kernel)) ggX7_buildDegree_X5_ofDegree
set_option maxRecDepth 20000 in
theorem ggX7_buildDegree_X7_listElements : GoodIn wsX7_buildDegree wsX7_listElements := goodIn_r _ [29, 30, 31, 32, 33, 34, 35, 8, 9, 10, 36, 37, 38, 39, 40, 41, 42, 43, 44, 45, 46, 47, 48, 49, 50, 51, 52, 53, 213, 214, 215] (by decide +kernel) (by decide +kernel)
set_option maxRecDepth 20000 in
theorem gX7_buildDegree_X7_listElements : GoodIn wsX7_buildDegree (va_wsS RX7 110 yX7_listElements wsX7_listElements) := goodIn_app (goodIn_of _ (by decide +kernel)) ggX7_buildDegree_X7_listElements
set_option maxRecDepth 20000 in
theorem ggX7_buildDegree_X3_places : GoodIn wsX7_buildDegree wsX3_places := goodIn_r _ [58, 59, 60, 61, 62, 57, 63, 64, 65, 66, 67, 68, 69, 70, 71, 72, 73, 74, 75, 216, 217, 218, 219, 220, 221] (by decide +kernel) (by decide +kernel)
set_option maxRecDepth 20000 in
theorem gX7_buildDegree_X3_places : GoodIn wsX7_buildDegree (wsV RX7 69 RX3 yX3_places wsX3_places) := goodIn_app (goodIn_of _ (by decide +kernel)) ggX7_buildDegree_X3_places
set_option maxRecDepth 20000 in
theorem ggX7_buildDegree_X1_restart : GoodIn wsX7_buildDegree wsX1_restart := goodIn_r _ [34, 35, 8, 9, 10, 36, 37, 38, 39, 40, 213, 214, 215] (by decide +kernel) (by decide +kernel)
set_option maxRecDepth 20000 in
theorem gX7_buildDegree_X1_restart : GoodIn wsX7_buildDegree (wsV RX7 114 RX1 yX1_restart wsX1_restart) := goodIn_app (goodIn_of _ (by decide +kernel)) ggX7_buildDegree_X1_restart
set_option maxRecDepth 20000 in
theorem ggX7_buildDegree_J7_fill_fda19 : GoodIn wsX7_buildDegree wsJ7_fill_fda19 := goodIn_r _ [79, 80, 81, 78, 82] (by decide +kernel) (by decide +kernel)
set_option maxRecDepth 20000 in
theorem gX7_buildDegree_J7_fill_fda19 : GoodIn wsX7_buildDegree (va_wsS RX7 116 yJ7_fill_fda19 wsJ7_fill_fda19) := goodIn_app (goodIn_of _ (by decide +kernel)) ggX7_buildDegree_J7_fill_fda19
set_option maxRecDepth 20000 in
theorem ggX7_buildDegree_X7_carryOver : GoodIn wsX7_buildDegree wsX7_carryOver := goodIn_r _ [86, 87, 4, 5, 88, 89, 90, 57, 91, 59, 92, 66, 67, 68, 69, 93, 94, 95, 28, 96, 97, 98, 99, 100, 101, 73, 102, 75, 103, 8, 9, 10, 104, 37, 38, 105, 61, 62, 63, 64, 65, 70, 71, 72, 74, 106, 41, 42, 43, 33, 44, 40, 39, 45, 46, 47, 48, 49, 50, 51, 52, 53, 107, 108, 109, 110, 111, 112, 113, 114, 115, 116, 117, 118, 119, 120, 121, 122, 123, 124, 125, 126, 127, 128, 129, 130, 131, 132, 133, 134, 135, 136, 137, 138, 139, 140, 141, 142, 143, 144, 145, 146, 147, 2, 148, 149, 150, 151, 152, 153, 154, 155, 14, 156, 16, 157, 158, 159, 160, 161, 162, 163, 164, 165, 6, 166, 167, 168, 169, 170, 171, 172, 173, 174, 175, 176, 177, 178, 179, 180, 181, 182, 36, 196, 197, 198, 199, 200, 201, 202, 203, 204, 205, 206, 207, 216, 217, 218, 219, 220, 221, 213, 214, 215, 222, 223, 208, 209, 210, 211, 212] (by decide +kernel) (by decide +kernel)
set_option maxRecDepth 20000 in
theorem gX7_buildDegree_X7_carryOver : GoodIn wsX7_buildDegree (wsV RX7 122 RX7 yX7_carryOver wsX7_carryOver) := goodIn_app (goodIn_of _ (by decide +kernel)) ggX7_buildDegree_X7_carryOver
set_option maxRecDepth 20000 in
theorem ggX7_buildDegree_X7_cover : GoodIn wsX7_buildDegree wsX7_cover := goodIn_r _ [186, 4, 5, 6, 187, 188, 189, 33, 190, 40, 174, 175, 176, 177, 39, 178, 42, 43, 44, 45, 140, 141, 142, 143, 50, 51, 52, 53, 41, 166, 167, 168, 28, 169, 117, 118, 119, 120, 121, 122, 123, 124, 125, 126, 127, 128, 170, 171, 172, 173, 191, 192, 193, 57, 194, 59, 111, 69, 195, 179, 180, 181, 182, 36, 37, 9, 38, 196, 197, 198, 199, 200, 201, 202, 203, 204, 205, 206, 207, 213, 214, 215, 216, 217, 218, 219] (by decide +kernel) (by decide +kernel)
set_option maxRecDepth 20000 in
theorem gX7_buildDegree_X7_cover : GoodIn wsX7_buildDegree (wsV RX7 126 RX7 yX7_cover wsX7_cover) := goodIn_app (goodIn_of _ (by decide +kernel)) ggX7_buildDegree_X7_cover
set_option maxRecDepth 20000 in
theorem ggX7_listElements_X1_restart : GoodIn wsX7_listElements wsX1_restart := goodIn_r _ [5, 6, 7, 8, 9, 10, 11, 12, 13, 14, 28, 29, 30] (by decide +kernel) (by decide +kernel)
set_option maxRecDepth 20000 in
theorem gX7_listElements_X1_restart : GoodIn wsX7_listElements (wsV RX7 114 RX1 yX1_restart wsX1_restart) := goodIn_app (goodIn_of _ (by decide +kernel)) ggX7_listElements_X1_restart
set_option maxRecDepth 20000 in
theorem ggX7_listElements_X1_open : GoodIn wsX7_listElements wsX1_open := goodIn_r _ [18, 14, 13, 19, 28, 29, 30] (by decide +kernel) (by decide +kernel)
set_option maxRecDepth 20000 in
theorem gX7_listElements_X1_open : GoodIn wsX7_listElements (wsV RX7 130 RX1 yX1_open wsX1_open) := goodIn_app (goodIn_of _ (by decide +kernel)) ggX7_listElements_X1_open
set_option maxRecDepth 20000 in
theorem ggX7_listElements_X1_flip : GoodIn wsX7_listElements wsX1_flip := goodIn_r _ [23, 24, 25, 26, 4, 27, 14, 13, 19, 28, 29, 30] (by decide +kernel) (by decide +kernel)
set_option maxRecDepth 20000 in
theorem gX7_listElements_X1_flip : GoodIn wsX7_listElements (wsV RX7 133 RX1 yX1_flip wsX1_flip) := goodIn_app (goodIn_of _ (by decide +kernel)) ggX7_listElements_X1_flip
set_option maxRecDepth 20000 in
theorem ggX7_carryOver_X3_generators : GoodIn wsX7_carryOver wsX3_generators := goodIn_r _ [8, 9, 155, 156, 157, 158] (by decide +kernel) (by decide +kernel)
set_option maxRecDepth 20000 in
theorem gX7_carryOver_X3_generators : GoodIn wsX7_carryOver (wsV RX7 72 RX3 yX3_generators wsX3_generators) := goodIn_app (goodIn_of _ (by decide +kernel)) ggX7_carryOver_X3_generators
set_option maxRecDepth 20000 in
theorem ggX7_carryOver_X3_degreeOf : GoodIn wsX7_carryOver wsX3_degreeOf := goodIn_r _ [13, 14, 155, 156, 157, 158] (by decide +kernel) (by decide +kernel)
set_option maxRecDepth 20000 in
theorem gX7_carryOver_X3_degreeOf : GoodIn wsX7_carryOver (wsV RX7 76 RX3 yX3_degreeOf wsX3_degreeOf) := goodIn_app (goodIn_of _ (by decide +kernel)) ggX7_carryOver_X3_degreeOf
set_option maxRecDepth 20000 in
theorem ggX7_carryOver_X7_listPlaces : GoodIn wsX7_carryOver wsX7_listPlaces := goodIn_r _ [19, 1, 20, 21, 4, 5, 6, 7, 8, 9, 10, 11, 12, 13, 14, 22, 23, 24, 25, 26, 27, 28, 29, 30, 31, 32, 33, 34, 35, 36, 37, 38, 39, 40, 41, 42, 43, 44, 143, 144, 145, 146, 147, 148, 149, 150, 151, 152, 153, 154, 155, 156, 157, 158, 159, 160] (by decide +kernel) (by decide +kernel)
set_option maxRecDepth 20000 in
theorem gX7_carryOver_X7_listPlaces : GoodIn wsX7_carryOver (wsV RX7 137 RX7 yX7_listPlaces wsX7_listPlaces) := goodIn_app (goodIn_of _ (by decide +kernel)) ggX7_carryOver_X7_listPlaces
set_option maxRecDepth 20000 in
theorem ggX7_carryOver_X0_start : GoodIn wsX7_carryOver wsX0_start := goodIn_r _ [26, 27, 28, 29, 30, 31, 32, 33, 34, 159, 160] (by decide +kernel) (by decide +kernel)
set_option maxRecDepth 20000 in
theorem gX7_carryOver_X0_start : GoodIn wsX7_carryOver (wsV RX7 141 RX0 yX0_start wsX0_start) := goodIn_app (goodIn_of _ (by decide +kernel)) ggX7_carryOver_X0_start
set_option maxRecDepth 20000 in
theorem ggX7_carryOver_X0_size : GoodIn wsX7_carryOver wsX0_size := goodIn_r _ [44, 27, 159, 160] (by decide +kernel) (by decide +kernel)
set_option maxRecDepth 20000 in
theorem gX7_carryOver_X0_size : GoodIn wsX7_carryOver (wsV RX7 146 RX0 yX0_size wsX0_size) := goodIn_app (goodIn_of _ (by decide +kernel)) ggX7_carryOver_X0_size
set_option maxRecDepth 20000 in
theorem ggX7_carryOver_X1_open : GoodIn wsX7_carryOver wsX1_open := goodIn_r _ [50, 51, 52, 53, 161, 162, 163] (by decide +kernel) (by decide +kernel)
set_option maxRecDepth 20000 in
theorem gX7_carryOver_X1_open : GoodIn wsX7_carryOver (wsV RX7 130 RX1 yX1_open wsX1_open) := goodIn_app (goodIn_of _ (by decide +kernel)) ggX7_carryOver_X1_open
set_option maxRecDepth 20000 in
theorem ggX7_carryOver_X1_flip : GoodIn wsX7_carryOver wsX1_flip := goodIn_r _ [57, 58, 59, 60, 49, 61, 51, 52, 53, 161, 162, 163] (by decide +kernel) (by decide +kernel)
set_option maxRecDepth 20000 in
theorem gX7_carryOver_X1_flip : GoodIn wsX7_carryOver (wsV RX7 133 RX1 yX1_flip wsX1_flip) := goodIn_app (goodIn_of _ (by decide +kernel)) ggX7_carryOver_X1_flip
set_option maxRecDepth 20000 in
theorem ggX7_carryOver_X3_goals : GoodIn wsX7_carryOver wsX3_goals := goodIn_r _ [65, 66, 155, 156, 157, 158] (by decide +kernel) (by decide +kernel)
set_option maxRecDepth 20000 in
theorem gX7_carryOver_X3_goals : GoodIn wsX7_carryOver (wsV RX7 79 RX3 yX3_goals wsX3_goals) := goodIn_app (goodIn_of _ (by decide +kernel)) ggX7_carryOver_X3_goals
set_option maxRecDepth 20000 in
theorem ggX7_carryOver_X7_putProduct : GoodIn wsX7_carryOver wsX7_putProduct := goodIn_r _ [70, 20, 21, 2, 71, 72, 73, 74, 49, 75, 51, 76, 52, 53, 77, 78, 79, 80, 81, 82, 83, 84, 85, 86, 87, 88, 89, 54, 55, 56, 57, 58, 59, 60, 61, 143, 144, 145, 146, 147, 148, 149, 150, 151, 152, 153, 154, 161, 162, 163, 164, 165] (by decide +kernel) (by decide +kernel)
set_option maxRecDepth 20000 in
theorem gX7_carryOver_X7_putProduct : GoodIn wsX7_carryOver (wsV RX7 149 RX7 yX7_putProduct wsX7_putProduct) := goodIn_app (goodIn_of _ (by decide +kernel)) ggX7_carryOver_X7_putProduct
set_option maxRecDepth 20000 in
theorem ggX7_carryOver_X1_firstBits : GoodIn wsX7_carryOver wsX1_firstBits := goodIn_r _ [93, 94, 95, 96, 97, 49, 98, 51, 52, 53, 161, 162, 163] (by decide +kernel) (by decide +kernel)
set_option maxRecDepth 20000 in
theorem gX7_carryOver_X1_firstBits : GoodIn wsX7_carryOver (wsV RX7 153 RX1 yX1_firstBits wsX1_firstBits) := goodIn_app (goodIn_of _ (by decide +kernel)) ggX7_carryOver_X1_firstBits
set_option maxRecDepth 20000 in
theorem ggX7_carryOver_X7_applyChain : GoodIn wsX7_carryOver wsX7_applyChain := goodIn_r _ [102, 103, 1, 104, 105, 106, 25, 107, 108, 109, 110, 111, 112, 113, 114, 115, 116, 117, 118, 119, 143, 144, 145, 146, 147, 148, 149, 150, 151, 152, 153, 154, 159, 160, 166, 167, 168, 169, 170] (by decide +kernel) (by decide +kernel)
set_option maxRecDepth 20000 in
theorem gX7_carryOver_X7_applyChain : GoodIn wsX7_carryOver (wsV RX7 156 RX7 yX7_applyChain wsX7_applyChain) := goodIn_app (goodIn_of _ (by decide +kernel)) ggX7_carryOver_X7_applyChain
set_option maxRecDepth 20000 in
theorem ggX7_carryOver_X7_keepOrDrop : GoodIn wsX7_carryOver wsX7_keepOrDrop := goodIn_r _ [123, 124, 3, 2, 125, 126, 127, 18, 128, 72, 73, 74, 49, 75, 51, 76, 52, 53, 77, 78, 79, 80, 81, 82, 83, 129, 130, 131, 132, 133, 134, 135, 136, 137, 47, 48, 50, 95, 96, 97, 98, 58, 59, 60, 61, 138, 139, 140, 141, 142, 33, 30, 34, 143, 144, 145, 146, 147, 148, 149, 150, 151, 152, 153, 154, 161, 162, 163] (by decide +kernel) (by decide +kernel)
set_option maxRecDepth 20000 in
theorem gX7_carryOver_X7_keepOrDrop : GoodIn wsX7_carryOver (wsV RX7 159 RX7 yX7_keepOrDrop wsX7_keepOrDrop) := goodIn_app (goodIn_of _ (by decide +kernel)) ggX7_carryOver_X7_keepOrDrop
set_option maxRecDepth 20000 in
theorem ggX7_listPlaces_X3_generators : GoodIn wsX7_listPlaces wsX3_generators := goodIn_r _ [8, 9, 50, 51, 52, 53] (by decide +kernel) (by decide +kernel)
set_option maxRecDepth 20000 in
theorem gX7_listPlaces_X3_generators : GoodIn wsX7_listPlaces (wsV RX7 72 RX3 yX3_generators wsX3_generators) := goodIn_app (goodIn_of _ (by decide +kernel)) ggX7_listPlaces_X3_generators
set_option maxRecDepth 20000 in
theorem ggX7_listPlaces_X3_degreeOf : GoodIn wsX7_listPlaces wsX3_degreeOf := goodIn_r _ [13, 14, 50, 51, 52, 53] (by decide +kernel) (by decide +kernel)
set_option maxRecDepth 20000 in
theorem gX7_listPlaces_X3_degreeOf : GoodIn wsX7_listPlaces (wsV RX7 76 RX3 yX3_degreeOf wsX3_degreeOf) := goodIn_app (goodIn_of _ (by decide +kernel)) ggX7_listPlaces_X3_degreeOf
set_option maxRecDepth 20000 in
theorem ggX7_listPlaces_X0_start : GoodIn wsX7_listPlaces wsX0_start := goodIn_r _ [19, 20, 21, 22, 23, 24, 25, 26, 27, 54, 55] (by decide +kernel) (by decide +kernel)
set_option maxRecDepth 20000 in
theorem gX7_listPlaces_X0_start : GoodIn wsX7_listPlaces (wsV RX7 141 RX0 yX0_start wsX0_start) := goodIn_app (goodIn_of _ (by decide +kernel)) ggX7_listPlaces_X0_start
set_option maxRecDepth 20000 in
theorem ggX7_listPlaces_X3_width : GoodIn wsX7_listPlaces wsX3_width := goodIn_r _ [31, 32, 33, 11, 12, 7, 13, 14, 34, 35, 36, 18, 37, 20, 50, 51, 52, 53, 54, 55] (by decide +kernel) (by decide +kernel)
set_option maxRecDepth 20000 in
theorem gX7_listPlaces_X3_width : GoodIn wsX7_listPlaces (wsV RX7 93 RX3 yX3_width wsX3_width) := goodIn_app (goodIn_of _ (by decide +kernel)) ggX7_listPlaces_X3_width
set_option maxRecDepth 20000 in
theorem ggX7_putProduct_X1_next : GoodIn wsX7_putProduct wsX1_next := goodIn_r _ [9, 10, 11, 12, 13, 14, 15, 16, 17, 18, 19, 20, 47, 48, 49] (by decide +kernel) (by decide +kernel)
set_option maxRecDepth 20000 in
theorem gX7_putProduct_X1_next : GoodIn wsX7_putProduct (wsV RX7 163 RX1 yX1_next wsX1_next) := goodIn_app (goodIn_of _ (by decide +kernel)) ggX7_putProduct_X1_next
set_option maxRecDepth 20000 in
theorem ggX7_putProduct_X6_product : GoodIn wsX7_putProduct wsX6_product := goodIn_r _ [25, 26, 50, 51] (by decide +kernel) (by decide +kernel)
set_option maxRecDepth 20000 in
theorem gX7_putProduct_X6_product : GoodIn wsX7_putProduct (wsV RX7 166 RX6 yX6_product wsX6_product) := goodIn_app (goodIn_of _ (by decide +kernel)) ggX7_putProduct_X6_product
set_option maxRecDepth 20000 in
theorem ggX7_putProduct_X1_flip : GoodIn wsX7_putProduct wsX1_flip := goodIn_r _ [30, 31, 32, 33, 8, 34, 10, 12, 13, 47, 48, 49] (by decide +kernel) (by decide +kernel)
set_option maxRecDepth 20000 in
theorem gX7_putProduct_X1_flip : GoodIn wsX7_putProduct (wsV RX7 133 RX1 yX1_flip wsX1_flip) := goodIn_app (goodIn_of _ (by decide +kernel)) ggX7_putProduct_X1_flip
set_option maxRecDepth 20000 in
theorem ggX7_applyChain_X0_numberAt : GoodIn wsX7_applyChain wsX0_numberAt := goodIn_r _ [7, 8, 32, 33] (by decide +kernel) (by decide +kernel)
set_option maxRecDepth 20000 in
theorem gX7_applyChain_X0_numberAt : GoodIn wsX7_applyChain (wsV RX7 171 RX0 yX0_numberAt wsX0_numberAt) := goodIn_app (goodIn_of _ (by decide +kernel)) ggX7_applyChain_X0_numberAt
set_option maxRecDepth 20000 in
theorem ggX7_applyChain_X5_apply : GoodIn wsX7_applyChain wsX5_apply := goodIn_r _ [13, 14, 15, 16, 17, 12, 18, 19, 34, 35, 36, 37, 38] (by decide +kernel) (by decide +kernel)
set_option maxRecDepth 20000 in
theorem gX7_applyChain_X5_apply : GoodIn wsX7_applyChain (wsV RX7 174 RX5 yX5_apply wsX5_apply) := goodIn_app (goodIn_of _ (by decide +kernel)) ggX7_applyChain_X5_apply
set_option maxRecDepth 20000 in
theorem ggX7_keepOrDrop_X7_reduce : GoodIn wsX7_keepOrDrop wsX7_reduce := goodIn_r _ [8, 1, 3, 2, 9, 10, 11, 12, 13, 14, 15, 16, 17, 18, 19, 20, 21, 22, 23, 24, 25, 26, 27, 28, 53, 54, 55, 56, 57, 58, 59, 60, 61, 62, 63, 64, 65, 66, 67] (by decide +kernel) (by decide +kernel)
set_option maxRecDepth 20000 in
theorem gX7_keepOrDrop_X7_reduce : GoodIn wsX7_keepOrDrop (wsV RX7 177 RX7 yX7_reduce wsX7_reduce) := goodIn_app (goodIn_of _ (by decide +kernel)) ggX7_keepOrDrop_X7_reduce
set_option maxRecDepth 20000 in
theorem ggX7_keepOrDrop_X1_copy : GoodIn wsX7_keepOrDrop wsX1_copy := goodIn_r _ [32, 16, 33, 34, 35, 12, 36, 14, 17, 37, 38, 39, 40, 41, 42, 43, 44, 65, 66, 67] (by decide +kernel) (by decide +kernel)
set_option maxRecDepth 20000 in
theorem gX7_keepOrDrop_X1_copy : GoodIn wsX7_keepOrDrop (wsV RX7 180 RX1 yX1_copy wsX1_copy) := goodIn_app (goodIn_of _ (by decide +kernel)) ggX7_keepOrDrop_X1_copy
set_option maxRecDepth 20000 in
theorem ggX7_keepOrDrop_X1_dropLast : GoodIn wsX7_keepOrDrop wsX1_dropLast := goodIn_r _ [48, 14, 49, 50, 51, 52, 65, 66, 67] (by decide +kernel) (by decide +kernel)
set_option maxRecDepth 20000 in
theorem gX7_keepOrDrop_X1_dropLast : GoodIn wsX7_keepOrDrop (wsV RX7 184 RX1 yX1_dropLast wsX1_dropLast) := goodIn_app (goodIn_of _ (by decide +kernel)) ggX7_keepOrDrop_X1_dropLast
set_option maxRecDepth 20000 in
theorem ggX7_cover_X1_height : GoodIn wsX7_cover wsX1_height := goodIn_r _ [8, 9, 79, 80, 81] (by decide +kernel) (by decide +kernel)
set_option maxRecDepth 20000 in
theorem gX7_cover_X1_height : GoodIn wsX7_cover (wsV RX7 187 RX1 yX1_height wsX1_height) := goodIn_app (goodIn_of _ (by decide +kernel)) ggX7_cover_X1_height
set_option maxRecDepth 20000 in
theorem ggX7_cover_X1_copy : GoodIn wsX7_cover wsX1_copy := goodIn_r _ [13, 14, 15, 16, 17, 7, 18, 9, 19, 20, 21, 22, 23, 24, 25, 26, 27, 79, 80, 81] (by decide +kernel) (by decide +kernel)
set_option maxRecDepth 20000 in
theorem gX7_cover_X1_copy : GoodIn wsX7_cover (wsV RX7 180 RX1 yX1_copy wsX1_copy) := goodIn_app (goodIn_of _ (by decide +kernel)) ggX7_cover_X1_copy
set_option maxRecDepth 20000 in
theorem ggX7_cover_X1_open : GoodIn wsX7_cover wsX1_open := goodIn_r _ [18, 9, 14, 19, 79, 80, 81] (by decide +kernel) (by decide +kernel)
set_option maxRecDepth 20000 in
theorem gX7_cover_X1_open : GoodIn wsX7_cover (wsV RX7 130 RX1 yX1_open wsX1_open) := goodIn_app (goodIn_of _ (by decide +kernel)) ggX7_cover_X1_open
set_option maxRecDepth 20000 in
theorem ggX7_cover_X7_reduce : GoodIn wsX7_cover wsX7_reduce := goodIn_r _ [33, 3, 1, 2, 34, 35, 36, 7, 37, 9, 38, 14, 19, 39, 40, 41, 42, 43, 44, 45, 46, 47, 48, 49, 67, 68, 69, 70, 71, 72, 73, 74, 75, 76, 77, 78, 79, 80, 81] (by decide +kernel) (by decide +kernel)
set_option maxRecDepth 20000 in
theorem gX7_cover_X7_reduce : GoodIn wsX7_cover (wsV RX7 177 RX7 yX7_reduce wsX7_reduce) := goodIn_app (goodIn_of _ (by decide +kernel)) ggX7_cover_X7_reduce
set_option maxRecDepth 20000 in
theorem ggX7_cover_X3_add : GoodIn wsX7_cover wsX3_add := goodIn_r _ [54, 55, 56, 57, 58, 11, 12, 7, 13, 14, 15, 16, 17, 18, 9, 19, 20, 21, 22, 23, 24, 25, 26, 27, 82, 83, 84, 85, 79, 80, 81] (by decide +kernel) (by decide +kernel)
set_option maxRecDepth 20000 in
theorem gX7_cover_X3_add : GoodIn wsX7_cover (wsV RX7 190 RX3 yX3_add wsX3_add) := goodIn_app (goodIn_of _ (by decide +kernel)) ggX7_cover_X3_add
set_option maxRecDepth 20000 in
theorem ggX7_cover_X1_dropLast : GoodIn wsX7_cover wsX1_dropLast := goodIn_r _ [62, 9, 63, 64, 65, 66, 79, 80, 81] (by decide +kernel) (by decide +kernel)
set_option maxRecDepth 20000 in
theorem gX7_cover_X1_dropLast : GoodIn wsX7_cover (wsV RX7 184 RX1 yX1_dropLast wsX1_dropLast) := goodIn_app (goodIn_of _ (by decide +kernel)) ggX7_cover_X1_dropLast
set_option maxRecDepth 20000 in
theorem ggX7_reduce_X1_next : GoodIn wsX7_reduce wsX1_next := goodIn_r _ [8, 9, 10, 11, 12, 13, 14, 15, 16, 17, 18, 19, 36, 37, 38] (by decide +kernel) (by decide +kernel)
set_option maxRecDepth 20000 in
theorem gX7_reduce_X1_next : GoodIn wsX7_reduce (wsV RX7 163 RX1 yX1_next wsX1_next) := goodIn_app (goodIn_of _ (by decide +kernel)) ggX7_reduce_X1_next
set_option maxRecDepth 20000 in
theorem ggX7_reduce_X1_add : GoodIn wsX7_reduce wsX1_add := goodIn_r _ [23, 9, 11, 12, 36, 37, 38] (by decide +kernel) (by decide +kernel)
set_option maxRecDepth 20000 in
theorem gX7_reduce_X1_add : GoodIn wsX7_reduce (wsV RX7 194 RX1 yX1_add wsX1_add) := goodIn_app (goodIn_of _ (by decide +kernel)) ggX7_reduce_X1_add
set_option maxRecDepth 20000 in
theorem ggX8_init_X0_init : GoodIn wsX8_init wsX0_init := goodIn_r _ [35, 36, 2, 3, 29, 37, 38, 39, 40, 6, 41, 167, 168] (by decide +kernel) (by decide +kernel)
set_option maxRecDepth 20000 in
theorem gX8_init_X0_init : GoodIn wsX8_init (wsX0_init) := ggX8_init_X0_init
set_option maxRecDepth 20000 in
theorem ggX8_init_X6_init : GoodIn wsX8_init wsX6_init := goodIn_r _ [44, 45, 2, 3, 29, 46, 47, 48, 49, 50, 9, 51, 52, 53, 54, 6, 55, 38, 56, 57, 58, 59, 60, 61, 62, 63, 64, 65, 66, 67, 68, 69, 70, 71, 72, 73, 74, 75, 76, 77, 78, 79, 80, 81, 82, 83, 84, 85, 86, 87, 88, 89, 90, 91, 37, 92, 93, 94, 95, 96, 97, 98, 99, 100, 101, 102, 103, 104, 105, 106, 107, 108, 109, 110, 111, 112, 169, 170, 167, 168] (by decide +kernel) (by decide +kernel)
set_option maxRecDepth 20000 in
theorem gX8_init_X6_init : GoodIn wsX8_init (wsX6_init) := ggX8_init_X6_init
set_option maxRecDepth 20000 in
theorem ggX8_init_X5_init : GoodIn wsX8_init wsX5_init := goodIn_r _ [114, 115, 2, 3, 29, 116, 117, 118, 171, 172, 173, 174, 175] (by decide +kernel) (by decide +kernel)
set_option maxRecDepth 20000 in
theorem gX8_init_X5_init_n21 : GoodIn wsX8_init (wsX5_init) := ggX8_init_X5_init
set_option maxRecDepth 20000 in
theorem ggX8_init_X4_init : GoodIn wsX8_init wsX4_init := goodIn_r _ [121, 122, 2, 3, 123, 186] (by decide +kernel) (by decide +kernel)
set_option maxRecDepth 20000 in
theorem gX8_init_X4_init : GoodIn wsX8_init (wsX4_init) := ggX8_init_X4_init
set_option maxRecDepth 20000 in
theorem ggX8_init_X7_init : GoodIn wsX8_init wsX7_init := goodIn_r _ [126, 127, 2, 3, 128, 129, 130, 131, 132, 133, 134, 135, 29, 136, 137, 138, 139, 140, 141, 142, 143, 144, 145, 146, 147, 148, 149, 61, 58, 62, 150, 151, 152, 153, 154, 155, 156, 157, 158, 159, 160, 161, 162, 187, 188, 189, 190, 191, 192, 193, 194, 195, 196, 197, 198, 200, 201, 202, 203, 204, 205, 206] (by decide +kernel) (by decide +kernel)
set_option maxRecDepth 20000 in
theorem gX8_init_X7_init : GoodIn wsX8_init (wsX7_init) := ggX8_init_X7_init
set_option maxRecDepth 20000 in
theorem ggX8_init_X2_init : GoodIn wsX8_init wsX2_init := goodIn_r _ [164, 165, 2, 3, 29, 166, 199] (by decide +kernel) (by decide +kernel)
set_option maxRecDepth 20000 in
theorem gX8_init_X2_init_n55 : GoodIn wsX8_init (wsX2_init) := ggX8_init_X2_init
set_option maxRecDepth 20000 in
theorem ggX8_sum_X8_sumOfAllowed : GoodIn wsX8_sum wsX8_sumOfAllowed := goodIn_r _ [5, 6, 7, 8, 9, 10, 11, 12, 13, 14, 15, 16, 17, 18, 19, 20, 21, 22, 23, 24, 25, 26, 27, 28, 29, 30, 31, 32, 33, 34, 35, 36, 37, 38, 39, 40, 41, 82, 83, 84, 85, 86, 87, 88, 89, 90, 91, 92, 93, 94, 95] (by decide +kernel) (by decide +kernel)
set_option maxRecDepth 20000 in
theorem gX8_sum_X8_sumOfAllowed : GoodIn wsX8_sum (wsV RX8 71 RX8 yX8_sumOfAllowed wsX8_sumOfAllowed) := goodIn_app (goodIn_of _ (by decide +kernel)) ggX8_sum_X8_sumOfAllowed
set_option maxRecDepth 20000 in
theorem ggX8_sum_X8_sumOfRows : GoodIn wsX8_sum wsX8_sumOfRows := goodIn_r _ [45, 6, 7, 8, 9, 10, 11, 46, 47, 48, 49, 50, 51, 52, 53, 30, 31, 22, 32, 24, 54, 20, 21, 23, 25, 26, 27, 28, 55, 56, 57, 58, 59, 60, 61, 62, 63, 64, 65, 66, 67, 68, 69, 70, 71, 72, 73, 74, 82, 83, 84, 85, 86, 87, 88, 89, 90, 91, 96, 94, 95] (by decide +kernel) (by decide +kernel)
set_option maxRecDepth 20000 in
theorem gX8_sum_X8_sumOfRows : GoodIn wsX8_sum (wsV RX8 75 RX8 yX8_sumOfRows wsX8_sumOfRows) := goodIn_app (goodIn_of _ (by decide +kernel)) ggX8_sum_X8_sumOfRows
set_option maxRecDepth 20000 in
theorem ggX8_sum_J6_bitCount_0f7a4 : GoodIn wsX8_sum wsJ6_bitCount_0f7a4 := goodIn_r _ [78, 79, 80, 81] (by decide +kernel) (by decide +kernel)
set_option maxRecDepth 20000 in
theorem gX8_sum_J6_bitCount_0f7a4 : GoodIn wsX8_sum (va_wsS RX8 78 yJ6_bitCount_0f7a4 wsJ6_bitCount_0f7a4) := goodIn_app (goodIn_of _ (by decide +kernel)) ggX8_sum_J6_bitCount_0f7a4
set_option maxRecDepth 20000 in
theorem ggX8_term_X8_sumOfAllowed : GoodIn wsX8_term wsX8_sumOfAllowed := goodIn_r _ [8, 9, 10, 11, 12, 13, 14, 15, 16, 17, 18, 19, 20, 21, 22, 23, 24, 25, 26, 27, 28, 29, 30, 31, 32, 33, 34, 35, 36, 37, 38, 39, 40, 41, 42, 43, 44, 83, 84, 85, 86, 87, 88, 89, 90, 91, 92, 93, 94, 95, 96] (by decide +kernel) (by decide +kernel)
set_option maxRecDepth 20000 in
theorem gX8_term_X8_sumOfAllowed : GoodIn wsX8_term (wsV RX8 71 RX8 yX8_sumOfAllowed wsX8_sumOfAllowed) := goodIn_app (goodIn_of _ (by decide +kernel)) ggX8_term_X8_sumOfAllowed
set_option maxRecDepth 20000 in
theorem ggX8_term_X8_sumOfRows : GoodIn wsX8_term wsX8_sumOfRows := goodIn_r _ [48, 9, 10, 11, 12, 13, 14, 49, 50, 51, 52, 53, 54, 55, 56, 33, 34, 25, 35, 27, 57, 23, 24, 26, 28, 29, 30, 31, 58, 59, 60, 61, 62, 63, 64, 65, 66, 67, 68, 69, 70, 71, 72, 73, 74, 75, 76, 77, 83, 84, 85, 86, 87, 88, 89, 90, 91, 92, 97, 95, 96] (by decide +kernel) (by decide +kernel)
set_option maxRecDepth 20000 in
theorem gX8_term_X8_sumOfRows : GoodIn wsX8_term (wsV RX8 75 RX8 yX8_sumOfRows wsX8_sumOfRows) := goodIn_app (goodIn_of _ (by decide +kernel)) ggX8_term_X8_sumOfRows
set_option maxRecDepth 20000 in
theorem ggX8_term_X8_placeOfBit : GoodIn wsX8_term wsX8_placeOfBit := goodIn_r _ [80] (by decide +kernel) (by decide +kernel)
set_option maxRecDepth 20000 in
theorem gX8_term_X8_placeOfBit : GoodIn wsX8_term (va_wsS RX8 84 yX8_placeOfBit wsX8_placeOfBit) := goodIn_app (goodIn_of _ (by decide +kernel)) ggX8_term_X8_placeOfBit
set_option maxRecDepth 20000 in
theorem ggX8_term_X0_start : GoodIn wsX8_term wsX0_start := goodIn_r _ [26, 27, 28, 12, 13, 14, 29, 30, 31, 95, 96] (by decide +kernel) (by decide +kernel)
set_option maxRecDepth 20000 in
theorem gX8_term_X0_start : GoodIn wsX8_term (wsV RX8 88 RX0 yX0_start wsX0_start) := goodIn_app (goodIn_of _ (by decide +kernel)) ggX8_term_X0_start
set_option maxRecDepth 20000 in
theorem ggX8_term_X0_numberAt : GoodIn wsX8_term wsX0_numberAt := goodIn_r _ [65, 66, 95, 96] (by decide +kernel) (by decide +kernel)
set_option maxRecDepth 20000 in
theorem gX8_term_X0_numberAt : GoodIn wsX8_term (wsV RX8 91 RX0 yX0_numberAt wsX0_numberAt) := goodIn_app (goodIn_of _ (by decide +kernel)) ggX8_term_X0_numberAt
set_option maxRecDepth 20000 in
theorem ggX8_many_X0_size : GoodIn wsX8_many wsX0_size := goodIn_r _ [6, 7, 18, 19] (by decide +kernel) (by decide +kernel)
set_option maxRecDepth 20000 in
theorem gX8_many_X0_size : GoodIn wsX8_many (wsV RX8 94 RX0 yX0_size wsX0_size) := goodIn_app (goodIn_of _ (by decide +kernel)) ggX8_many_X0_size
set_option maxRecDepth 20000 in
theorem ggX8_sumOfAllowed_X6_timesSum : GoodIn wsX8_sumOfAllowed wsX6_timesSum := goodIn_r _ [12, 13, 14, 15, 16, 17, 18, 19, 20, 4, 5, 6, 21, 22, 23, 24, 25, 26, 27, 28, 29, 30, 11, 31, 32, 33, 34, 35, 36, 47, 48, 49, 50] (by decide +kernel) (by decide +kernel)
set_option maxRecDepth 20000 in
theorem gX8_sumOfAllowed_X6_timesSum : GoodIn wsX8_sumOfAllowed (wsV RX8 102 RX6 yX6_timesSum wsX6_timesSum) := goodIn_app (goodIn_of _ (by decide +kernel)) ggX8_sumOfAllowed_X6_timesSum
set_option maxRecDepth 20000 in
theorem ggX8_sumOfRows_X4_timesSum : GoodIn wsX8_sumOfRows wsX4_timesSum := goodIn_r _ [12, 13, 14, 15, 16, 17, 18, 19, 20, 21, 22, 23, 24, 4, 5, 6, 25, 26, 27, 28, 29, 30, 11, 31, 32, 33, 34, 35, 36, 37, 38, 39, 40, 41, 42, 43, 44, 45, 46, 47, 58, 59, 60] (by decide +kernel) (by decide +kernel)
set_option maxRecDepth 20000 in
theorem gX8_sumOfRows_X4_timesSum : GoodIn wsX8_sumOfRows (wsV RX8 106 RX4 yX4_timesSum wsX4_timesSum) := goodIn_app (goodIn_of _ (by decide +kernel)) ggX8_sumOfRows_X4_timesSum
set_option maxRecDepth 20000 in
theorem ggX8_empty_X5_size : GoodIn wsX8_empty wsX5_size := goodIn_r _ [6, 7, 48, 49, 50, 51, 52] (by decide +kernel) (by decide +kernel)
set_option maxRecDepth 20000 in
theorem gX8_empty_X5_size : GoodIn wsX8_empty (wsV RX8 107 RX5 yX5_size wsX5_size) := goodIn_app (goodIn_of _ (by decide +kernel)) ggX8_empty_X5_size
set_option maxRecDepth 20000 in
theorem ggX8_empty_X5_restart : GoodIn wsX8_empty wsX5_restart := goodIn_r _ [11, 7, 12, 13, 14, 15, 16, 17, 48, 49, 50, 51, 52] (by decide +kernel) (by decide +kernel)
set_option maxRecDepth 20000 in
theorem gX8_empty_X5_restart : GoodIn wsX8_empty (wsV RX8 109 RX5 yX5_restart wsX5_restart) := goodIn_app (goodIn_of _ (by decide +kernel)) ggX8_empty_X5_restart
set_option maxRecDepth 20000 in
theorem ggX8_empty_X8_spaceHasChanged : GoodIn wsX8_empty wsX8_spaceHasChanged := goodIn_r _ [22, 23, 24, 25, 26, 27, 28, 29, 30, 31, 32, 33, 34, 35, 36, 37, 15, 16, 17, 38, 39, 40, 41, 42, 43, 44, 45, 46, 47, 53, 54, 55, 56, 57, 58, 59, 60, 61, 62, 63, 64, 65] (by decide +kernel) (by decide +kernel)
set_option maxRecDepth 20000 in
theorem gX8_empty_X8_spaceHasChanged : GoodIn wsX8_empty (wsV RX8 112 RX8 yX8_spaceHasChanged wsX8_spaceHasChanged) := goodIn_app (goodIn_of _ (by decide +kernel)) ggX8_empty_X8_spaceHasChanged
set_option maxRecDepth 20000 in
theorem ggX8_element_X5_size : GoodIn wsX8_element wsX5_size := goodIn_r _ [6, 7, 47, 48, 49, 50, 51] (by decide +kernel) (by decide +kernel)
set_option maxRecDepth 20000 in
theorem gX8_element_X5_size : GoodIn wsX8_element (wsV RX8 107 RX5 yX5_size wsX5_size) := goodIn_app (goodIn_of _ (by decide +kernel)) ggX8_element_X5_size
set_option maxRecDepth 20000 in
theorem ggX8_element_X8_spaceHasChanged : GoodIn wsX8_element wsX8_spaceHasChanged := goodIn_r _ [12, 13, 14, 15, 16, 17, 18, 19, 20, 21, 22, 23, 24, 25, 26, 27, 28, 29, 30, 37, 38, 39, 40, 41, 42, 43, 44, 45, 46, 52, 53, 54, 55, 56, 57, 58, 59, 60, 61, 62, 63, 64] (by decide +kernel) (by decide +kernel)
set_option maxRecDepth 20000 in
theorem gX8_element_X8_spaceHasChanged : GoodIn wsX8_element (wsV RX8 112 RX8 yX8_spaceHasChanged wsX8_spaceHasChanged) := goodIn_app (goodIn_of _ (by decide +kernel)) ggX8_element_X8_spaceHasChanged
set_option maxRecDepth 20000 in
theorem ggX8_element_X5_add : GoodIn wsX8_element wsX5_add := goodIn_r _ [34, 7, 35, 36, 47, 48, 49, 50, 51] (by decide +kernel) (by decide +kernel)
set_option maxRecDepth 20000 in
theorem gX8_element_X5_add : GoodIn wsX8_element (wsV RX8 115 RX5 yX5_add wsX5_add) := goodIn_app (goodIn_of _ (by decide +kernel)) ggX8_element_X5_add
set_option maxRecDepth 20000 in
theorem ggX8_act_X5_has : GoodIn wsX8_act wsX5_has := goodIn_r _ [6, 7, 62, 63, 64, 65, 66] (by decide +kernel) (by decide +kernel)
set_option maxRecDepth 20000 in
theorem gX8_act_X5_has : GoodIn wsX8_act (wsV RX8 118 RX5 yX5_has wsX5_has) := goodIn_app (goodIn_of _ (by decide +kernel)) ggX8_act_X5_has
set_option maxRecDepth 20000 in
theorem ggX8_act_X5_degreeOf : GoodIn wsX8_act wsX5_degreeOf := goodIn_r _ [11, 12, 13, 3, 4, 5, 6, 7, 62, 63, 64, 65, 66] (by decide +kernel) (by decide +kernel)
set_option maxRecDepth 20000 in
theorem gX8_act_X5_degreeOf : GoodIn wsX8_act (wsV RX8 122 RX5 yX5_degreeOf wsX5_degreeOf) := goodIn_app (goodIn_of _ (by decide +kernel)) ggX8_act_X5_degreeOf
set_option maxRecDepth 20000 in
theorem ggX8_act_X5_ofDegree : GoodIn wsX8_act wsX5_ofDegree := goodIn_r _ [17, 7, 18, 9, 10, 5, 11, 12, 13, 3, 4, 6, 62, 63, 64, 65, 66] (by decide +kernel) (by decide +kernel)
set_option maxRecDepth 20000 in
theorem gX8_act_X5_ofDegree : GoodIn wsX8_act (wsV RX8 125 RX5 yX5_ofDegree wsX5_ofDegree) := goodIn_app (goodIn_of _ (by decide +kernel)) ggX8_act_X5_ofDegree
set_option maxRecDepth 20000 in
theorem ggX8_act_X5_acted : GoodIn wsX8_act wsX5_acted := goodIn_r _ [22, 23, 62, 63, 64, 65, 66] (by decide +kernel) (by decide +kernel)
set_option maxRecDepth 20000 in
theorem gX8_act_X5_acted : GoodIn wsX8_act (wsV RX8 128 RX5 yX5_acted wsX5_acted) := goodIn_app (goodIn_of _ (by decide +kernel)) ggX8_act_X5_acted
set_option maxRecDepth 20000 in
theorem ggX8_act_X5_setAct : GoodIn wsX8_act wsX5_setAct := goodIn_r _ [27, 23, 28, 13, 3, 4, 5, 6, 7, 62, 63, 64, 65, 66] (by decide +kernel) (by decide +kernel)
set_option maxRecDepth 20000 in
theorem gX8_act_X5_setAct : GoodIn wsX8_act (wsV RX8 131 RX5 yX5_setAct wsX5_setAct) := goodIn_app (goodIn_of _ (by decide +kernel)) ggX8_act_X5_setAct
set_option maxRecDepth 20000 in
theorem ggX8_act_X8_spaceHasChanged : GoodIn wsX8_act wsX8_spaceHasChanged := goodIn_r _ [33, 34, 35, 36, 37, 38, 39, 40, 41, 42, 43, 44, 45, 46, 47, 48, 49, 50, 51, 52, 53, 54, 55, 56, 57, 58, 59, 60, 61, 67, 68, 69, 70, 71, 72, 73, 74, 75, 76, 77, 78, 79] (by decide +kernel) (by decide +kernel)
set_option maxRecDepth 20000 in
theorem gX8_act_X8_spaceHasChanged : GoodIn wsX8_act (wsV RX8 112 RX8 yX8_spaceHasChanged wsX8_spaceHasChanged) := goodIn_app (goodIn_of _ (by decide +kernel)) ggX8_act_X8_spaceHasChanged
set_option maxRecDepth 20000 in
theorem ggX8_space_X8_isName : GoodIn wsX8_space wsX8_isName := goodIn_r _ [5] (by decide +kernel) (by decide +kernel)
set_option maxRecDepth 20000 in
theorem gX8_space_X8_isName : GoodIn wsX8_space (va_wsS RX8 135 yX8_isName wsX8_isName) := goodIn_app (goodIn_of _ (by decide +kernel)) ggX8_space_X8_isName
set_option maxRecDepth 20000 in
theorem ggX8_space_X5_spread : GoodIn wsX8_space wsX5_spread := goodIn_r _ [10, 11, 12, 13, 9, 14, 15, 16, 17, 18, 19, 20, 21, 22, 23, 24, 25, 26, 27, 4, 28, 29, 30, 31, 32, 33, 34, 35, 36, 70, 71, 72, 73, 74] (by decide +kernel) (by decide +kernel)
set_option maxRecDepth 20000 in
theorem gX8_space_X5_spread : GoodIn wsX8_space (wsV RX8 139 RX5 yX5_spread wsX5_spread) := goodIn_app (goodIn_of _ (by decide +kernel)) ggX8_space_X5_spread
set_option maxRecDepth 20000 in
theorem ggX8_space_X8_spaceHasChanged : GoodIn wsX8_space wsX8_spaceHasChanged := goodIn_r _ [40, 41, 42, 43, 44, 45, 46, 47, 48, 49, 50, 51, 52, 53, 54, 55, 19, 20, 21, 60, 61, 62, 63, 64, 65, 66, 67, 68, 69, 75, 76, 77, 78, 79, 80, 81, 82, 83, 84, 85, 86, 87] (by decide +kernel) (by decide +kernel)
set_option maxRecDepth 20000 in
theorem gX8_space_X8_spaceHasChanged : GoodIn wsX8_space (wsV RX8 112 RX8 yX8_spaceHasChanged wsX8_spaceHasChanged) := goodIn_app (goodIn_of _ (by decide +kernel)) ggX8_space_X8_spaceHasChanged
set_option maxRecDepth 20000 in
theorem ggX8_space_X5_size : GoodIn wsX8_space wsX5_size := goodIn_r _ [59, 15, 70, 71, 72, 73, 74] (by decide +kernel) (by decide +kernel)
set_option maxRecDepth 20000 in
theorem gX8_space_X5_size : GoodIn wsX8_space (wsV RX8 107 RX5 yX5_size wsX5_size) := goodIn_app (goodIn_of _ (by decide +kernel)) ggX8_space_X5_size
set_option maxRecDepth 20000 in
theorem ggX8_does_X5_has : GoodIn wsX8_does wsX5_has := goodIn_r _ [12, 13, 33, 34, 35, 36, 37] (by decide +kernel) (by decide +kernel)
set_option maxRecDepth 20000 in
theorem gX8_does_X5_has : GoodIn wsX8_does (wsV RX8 118 RX5 yX5_has wsX5_has) := goodIn_app (goodIn_of _ (by decide +kernel)) ggX8_does_X5_has
set_option maxRecDepth 20000 in
theorem ggX8_does_X5_apply : GoodIn wsX8_does wsX5_apply := goodIn_r _ [17, 13, 18, 19, 20, 11, 21, 22, 33, 34, 35, 36, 37] (by decide +kernel) (by decide +kernel)
set_option maxRecDepth 20000 in
theorem gX8_does_X5_apply : GoodIn wsX8_does (wsV RX8 142 RX5 yX5_apply wsX5_apply) := goodIn_app (goodIn_of _ (by decide +kernel)) ggX8_does_X5_apply
set_option maxRecDepth 20000 in
theorem ggX8_about_X5_has : GoodIn wsX8_about wsX5_has := goodIn_r _ [6, 7, 29, 30, 31, 32, 33] (by decide +kernel) (by decide +kernel)
set_option maxRecDepth 20000 in
theorem gX8_about_X5_has : GoodIn wsX8_about (wsV RX8 118 RX5 yX5_has wsX5_has) := goodIn_app (goodIn_of _ (by decide +kernel)) ggX8_about_X5_has
set_option maxRecDepth 20000 in
theorem ggX8_about_X5_degreeOf : GoodIn wsX8_about wsX5_degreeOf := goodIn_r _ [11, 12, 13, 3, 4, 5, 6, 7, 29, 30, 31, 32, 33] (by decide +kernel) (by decide +kernel)
set_option maxRecDepth 20000 in
theorem gX8_about_X5_degreeOf : GoodIn wsX8_about (wsV RX8 122 RX5 yX5_degreeOf wsX5_degreeOf) := goodIn_app (goodIn_of _ (by decide +kernel)) ggX8_about_X5_degreeOf
set_option maxRecDepth 20000 in
theorem ggX8_about_X5_acted : GoodIn wsX8_about wsX5_acted := goodIn_r _ [17, 18, 29, 30, 31, 32, 33] (by decide +kernel) (by decide +kernel)
set_option maxRecDepth 20000 in
theorem gX8_about_X5_acted : GoodIn wsX8_about (wsV RX8 128 RX5 yX5_acted wsX5_acted) := goodIn_app (goodIn_of _ (by decide +kernel)) ggX8_about_X5_acted
set_option maxRecDepth 20000 in
theorem ggX8_fault_X5_firstFault : GoodIn wsX8_fault wsX5_firstFault := goodIn_r _ [6, 7, 8, 9, 10, 11, 5, 12, 13, 14, 15, 16, 17, 18, 19, 20, 21, 22, 23, 24, 25, 26, 27, 28, 29, 30, 31, 32, 33, 44, 45, 46, 47, 48] (by decide +kernel) (by decide +kernel)
set_option maxRecDepth 20000 in
theorem gX8_fault_X5_firstFault : GoodIn wsX8_fault (wsV RX8 145 RX5 yX5_firstFault wsX5_firstFault) := goodIn_app (goodIn_of _ (by decide +kernel)) ggX8_fault_X5_firstFault
set_option maxRecDepth 20000 in
theorem ggX8_spaceHasChanged_X7_restart : GoodIn wsX8_spaceHasChanged wsX7_restart := goodIn_r _ [7, 8, 29, 30, 31, 32, 33, 34, 35, 36, 37, 38, 39, 40] (by decide +kernel) (by decide +kernel)
set_option maxRecDepth 20000 in
theorem gX8_spaceHasChanged_X7_restart : GoodIn wsX8_spaceHasChanged (wsV RX8 148 RX7 yX7_restart wsX7_restart) := goodIn_app (goodIn_of _ (by decide +kernel)) ggX8_spaceHasChanged_X7_restart
set_option maxRecDepth 20000 in
theorem ggX8_spaceHasChanged_X2_wipe : GoodIn wsX8_spaceHasChanged wsX2_wipe := goodIn_r _ [13, 14, 15, 16, 17, 18, 41] (by decide +kernel) (by decide +kernel)
set_option maxRecDepth 20000 in
theorem gX8_spaceHasChanged_X2_wipe : GoodIn wsX8_spaceHasChanged (wsV RX8 149 RX2 yX2_wipe wsX2_wipe) := goodIn_app (goodIn_of _ (by decide +kernel)) ggX8_spaceHasChanged_X2_wipe
set_option maxRecDepth 20000 in
theorem ggX8_live_X8_isInChart : GoodIn wsX8_live wsX8_isInChart := goodIn_r _ [6] (by decide +kernel) (by decide +kernel)
set_option maxRecDepth 20000 in
theorem gX8_live_X8_isInChart : GoodIn wsX8_live (va_wsS RX8 152 yX8_isInChart wsX8_isInChart) := goodIn_app (goodIn_of _ (by decide +kernel)) ggX8_live_X8_isInChart
set_option maxRecDepth 20000 in
theorem ggX8_live_X5_isSound : GoodIn wsX8_live wsX5_isSound := goodIn_r _ [11, 12, 13, 14, 10, 15, 16, 17, 18, 19, 20, 21, 22, 23, 24, 25, 26, 27, 28, 29, 30, 31, 32, 33, 34, 35, 36, 37, 38, 39, 40, 5, 41, 258, 259, 260, 261, 262] (by decide +kernel) (by decide +kernel)
set_option maxRecDepth 20000 in
theorem gX8_live_X5_isSound : GoodIn wsX8_live (wsV RX8 156 RX5 yX5_isSound wsX5_isSound) := goodIn_app (goodIn_of _ (by decide +kernel)) ggX8_live_X5_isSound
set_option maxRecDepth 20000 in
theorem ggX8_live_X7_build : GoodIn wsX8_live wsX7_build := goodIn_r _ [46, 47, 48, 49, 50, 51, 52, 53, 54, 55, 56, 57, 58, 59, 60, 61, 62, 63, 64, 65, 66, 67, 68, 69, 70, 71, 72, 45, 73, 74, 75, 76, 77, 78, 79, 80, 81, 82, 10, 83, 22, 84, 85, 86, 87, 88, 89, 90, 91, 92, 93, 94, 95, 96, 97, 98, 99, 100, 101, 102, 103, 104, 105, 106, 107, 108, 109, 110, 111, 112, 113, 114, 115, 116, 117, 118, 119, 120, 121, 122, 123, 124, 125, 126, 127, 128, 129, 130, 131, 25, 132, 133, 134, 135, 136, 137, 138, 139, 140, 141, 142, 143, 144, 145, 146, 147, 148, 149, 150, 151, 152, 153, 154, 155, 156, 157, 158, 159, 160, 161, 162, 163, 164, 165, 166, 167, 168, 169, 170, 171, 172, 173, 174, 175, 176, 177, 178, 179, 180, 181, 182, 183, 184, 185, 186, 187, 188, 189, 190, 191, 192, 193, 194, 195, 196, 197, 198, 199, 200, 201, 202, 203, 204, 205, 33, 34, 35, 27, 28, 29, 30, 31, 206, 207, 208, 209, 210, 211, 212, 213, 214, 215, 216, 217, 218, 219, 220, 221, 222, 223, 224, 225, 226, 227, 228, 229, 230, 231, 232, 233, 234, 235, 236, 237, 238, 239, 263, 264, 265, 266, 267, 268, 269, 270, 271, 272, 273, 274, 275, 276, 277, 278, 279, 280, 281, 258, 259, 260, 261, 262, 282, 283, 284, 285] (by decide +kernel) (by decide +kernel)
set_option maxRecDepth 20000 in
theorem gX8_live_X7_build : GoodIn wsX8_live (wsV RX8 160 RX7 yX7_build wsX7_build) := goodIn_app (goodIn_of _ (by decide +kernel)) ggX8_live_X7_build
set_option maxRecDepth 20000 in
theorem ggX8_live_X7_generatorsAt : GoodIn wsX8_live wsX7_generatorsAt := goodIn_r _ [243, 48, 244, 245, 246, 52, 247, 54, 119, 120, 121, 122, 123, 263, 264, 265, 266, 267, 268, 269, 270, 271, 272, 273, 274, 275, 276, 277, 278] (by decide +kernel) (by decide +kernel)
set_option maxRecDepth 20000 in
theorem gX8_live_X7_generatorsAt : GoodIn wsX8_live (wsV RX8 164 RX7 yX7_generatorsAt wsX7_generatorsAt) := goodIn_app (goodIn_of _ (by decide +kernel)) ggX8_live_X7_generatorsAt
set_option maxRecDepth 20000 in
theorem ggX8_joins_X5_isSound : GoodIn wsX8_joins wsX5_isSound := goodIn_r _ [7, 8, 9, 10, 6, 11, 12, 13, 14, 15, 16, 17, 18, 19, 20, 21, 22, 23, 24, 25, 26, 27, 28, 29, 30, 31, 32, 33, 34, 35, 36, 37, 38, 259, 260, 261, 262, 263] (by decide +kernel) (by decide +kernel)
set_option maxRecDepth 20000 in
theorem gX8_joins_X5_isSound : GoodIn wsX8_joins (wsV RX8 156 RX5 yX5_isSound wsX5_isSound) := goodIn_app (goodIn_of _ (by decide +kernel)) ggX8_joins_X5_isSound
set_option maxRecDepth 20000 in
theorem ggX8_joins_X7_build : GoodIn wsX8_joins wsX7_build := goodIn_r _ [43, 44, 45, 46, 47, 48, 49, 50, 51, 52, 53, 54, 55, 56, 57, 58, 59, 60, 61, 62, 63, 64, 65, 66, 67, 68, 69, 42, 70, 71, 72, 73, 74, 75, 76, 77, 78, 79, 6, 80, 18, 81, 82, 83, 84, 85, 86, 87, 88, 89, 90, 91, 92, 93, 94, 95, 96, 97, 98, 99, 100, 101, 102, 103, 104, 105, 106, 107, 108, 109, 110, 111, 112, 113, 114, 115, 116, 117, 118, 119, 120, 121, 122, 123, 124, 125, 126, 127, 128, 21, 129, 130, 131, 132, 133, 134, 135, 136, 137, 138, 139, 140, 141, 142, 143, 144, 145, 146, 147, 148, 149, 150, 151, 152, 153, 154, 155, 156, 157, 158, 159, 160, 161, 162, 163, 164, 165, 166, 167, 168, 169, 170, 171, 172, 173, 174, 175, 176, 177, 178, 179, 180, 181, 182, 183, 184, 185, 186, 187, 188, 189, 190, 191, 192, 193, 194, 195, 196, 197, 198, 199, 200, 201, 202, 29, 30, 31, 23, 24, 25, 26, 27, 203, 204, 205, 206, 207, 208, 209, 210, 211, 212, 213, 214, 215, 216, 217, 218, 219, 220, 221, 222, 223, 224, 225, 226, 227, 228, 229, 230, 231, 232, 233, 234, 235, 236, 264, 265, 266, 267, 268, 269, 270, 271, 272, 273, 274, 275, 276, 277, 278, 279, 280, 281, 282, 259, 260, 261, 262, 263, 283, 284, 285, 286] (by decide +kernel) (by decide +kernel)
set_option maxRecDepth 20000 in
theorem gX8_joins_X7_build : GoodIn wsX8_joins (wsV RX8 160 RX7 yX7_build wsX7_build) := goodIn_app (goodIn_of _ (by decide +kernel)) ggX8_joins_X7_build
set_option maxRecDepth 20000 in
theorem ggX8_joins_X7_rankOfJoins : GoodIn wsX8_joins wsX7_rankOfJoins := goodIn_r _ [240, 45, 241, 76, 59, 60, 61, 138, 139, 140, 49, 141, 51, 142, 117, 118, 119, 120, 157, 158, 159, 160, 52, 242, 243, 42, 244, 155, 112, 113, 114, 115, 116, 121, 122, 123, 124, 125, 126, 245, 246, 247, 56, 248, 189, 190, 191, 192, 66, 65, 98, 264, 265, 266, 267, 268, 269, 270, 271, 272, 273, 274, 275, 276, 277, 278, 279, 283, 284, 280, 281, 282] (by decide +kernel) (by decide +kernel)
set_option maxRecDepth 20000 in
theorem gX8_joins_X7_rankOfJoins : GoodIn wsX8_joins (wsV RX8 167 RX7 yX7_rankOfJoins wsX7_rankOfJoins) := goodIn_app (goodIn_of _ (by decide +kernel)) ggX8_joins_X7_rankOfJoins
set_option maxRecDepth 20000 in
theorem ggX8_balance_X5_isSound : GoodIn wsX8_balance wsX5_isSound := goodIn_r _ [9, 10, 11, 12, 8, 13, 14, 15, 16, 17, 18, 19, 20, 21, 22, 23, 24, 25, 26, 27, 28, 29, 30, 31, 32, 33, 34, 35, 36, 37, 38, 39, 40, 261, 262, 263, 264, 265] (by decide +kernel) (by decide +kernel)
set_option maxRecDepth 20000 in
theorem gX8_balance_X5_isSound : GoodIn wsX8_balance (wsV RX8 156 RX5 yX5_isSound wsX5_isSound) := goodIn_app (goodIn_of _ (by decide +kernel)) ggX8_balance_X5_isSound
set_option maxRecDepth 20000 in
theorem ggX8_balance_X7_build : GoodIn wsX8_balance wsX7_build := goodIn_r _ [45, 46, 47, 48, 49, 50, 51, 52, 53, 54, 55, 56, 57, 58, 59, 60, 61, 62, 63, 64, 65, 66, 67, 68, 69, 70, 71, 44, 72, 73, 74, 75, 76, 77, 78, 79, 80, 81, 8, 82, 20, 83, 84, 85, 86, 87, 88, 89, 90, 91, 92, 93, 94, 95, 96, 97, 98, 99, 100, 101, 102, 103, 104, 105, 106, 107, 108, 109, 110, 111, 112, 113, 114, 115, 116, 117, 118, 119, 120, 121, 122, 123, 124, 125, 126, 127, 128, 129, 130, 23, 131, 132, 133, 134, 135, 136, 137, 138, 139, 140, 141, 142, 143, 144, 145, 146, 147, 148, 149, 150, 151, 152, 153, 154, 155, 156, 157, 158, 159, 160, 161, 162, 163, 164, 165, 166, 167, 168, 169, 170, 171, 172, 173, 174, 175, 176, 177, 178, 179, 180, 181, 182, 183, 184, 185, 186, 187, 188, 189, 190, 191, 192, 193, 194, 195, 196, 197, 198, 199, 200, 201, 202, 203, 204, 31, 32, 33, 25, 26, 27, 28, 29, 205, 206, 207, 208, 209, 210, 211, 212, 213, 214, 215, 216, 217, 218, 219, 220, 221, 222, 223, 224, 225, 226, 227, 228, 229, 230, 231, 232, 233, 234, 235, 236, 237, 238, 266, 267, 268, 269, 270, 271, 272, 273, 274, 275, 276, 277, 278, 279, 280, 281, 282, 283, 284, 261, 262, 263, 264, 265, 285, 286, 287, 288] (by decide +kernel) (by decide +kernel)
set_option maxRecDepth 20000 in
theorem gX8_balance_X7_build : GoodIn wsX8_balance (wsV RX8 160 RX7 yX7_build wsX7_build) := goodIn_app (goodIn_of _ (by decide +kernel)) ggX8_balance_X7_build
set_option maxRecDepth 20000 in
theorem ggX8_balance_X7_turnByTurn : GoodIn wsX8_balance wsX7_turnByTurn := goodIn_r _ [242, 47, 109, 110, 111, 51, 112, 53, 113, 114, 115, 116, 117, 118, 119, 120, 121, 122, 123, 124, 125, 126, 127, 128, 266, 267, 268, 269, 270, 271, 272, 273, 274, 275, 276, 277, 278, 279, 280, 281, 285, 286] (by decide +kernel) (by decide +kernel)
set_option maxRecDepth 20000 in
theorem gX8_balance_X7_turnByTurn : GoodIn wsX8_balance (wsV RX8 172 RX7 yX7_turnByTurn wsX7_turnByTurn) := goodIn_app (goodIn_of _ (by decide +kernel)) ggX8_balance_X7_turnByTurn
set_option maxRecDepth 20000 in
theorem ggX8_balance_X5_ofDegree : GoodIn wsX8_balance wsX5_ofDegree := goodIn_r _ [82, 20, 83, 84, 85, 8, 86, 87, 88, 89, 90, 91, 261, 262, 263, 264, 265] (by decide +kernel) (by decide +kernel)
set_option maxRecDepth 20000 in
theorem gX8_balance_X5_ofDegree : GoodIn wsX8_balance (wsV RX8 125 RX5 yX5_ofDegree wsX5_ofDegree) := goodIn_app (goodIn_of _ (by decide +kernel)) ggX8_balance_X5_ofDegree
set_option maxRecDepth 20000 in
theorem ggX8_balance_J6_bitCount_0f7a4 : GoodIn wsX8_balance wsJ6_bitCount_0f7a4 := goodIn_r _ [247, 248, 249, 250] (by decide +kernel) (by decide +kernel)
set_option maxRecDepth 20000 in
theorem gX8_balance_J6_bitCount_0f7a4 : GoodIn wsX8_balance (va_wsS RX8 78 yJ6_bitCount_0f7a4 wsJ6_bitCount_0f7a4) := goodIn_app (goodIn_of _ (by decide +kernel)) ggX8_balance_J6_bitCount_0f7a4
set_option maxRecDepth 20000 in
theorem ggX8_differ_X8_isInChart : GoodIn wsX8_differ wsX8_isInChart := goodIn_r _ [7] (by decide +kernel) (by decide +kernel)
set_option maxRecDepth 20000 in
theorem gX8_differ_X8_isInChart : GoodIn wsX8_differ (va_wsS RX8 152 yX8_isInChart wsX8_isInChart) := goodIn_app (goodIn_of _ (by decide +kernel)) ggX8_differ_X8_isInChart
set_option maxRecDepth 20000 in
theorem ggX8_differ_X5_isSound : GoodIn wsX8_differ wsX5_isSound := goodIn_r _ [12, 13, 14, 15, 11, 16, 17, 18, 19, 20, 21, 22, 23, 24, 25, 26, 27, 28, 29, 30, 31, 32, 33, 34, 35, 36, 37, 38, 39, 40, 41, 6, 42, 294, 295, 296, 297, 298] (by decide +kernel) (by decide +kernel)
set_option maxRecDepth 20000 in
theorem gX8_differ_X5_isSound : GoodIn wsX8_differ (wsV RX8 156 RX5 yX5_isSound wsX5_isSound) := goodIn_app (goodIn_of _ (by decide +kernel)) ggX8_differ_X5_isSound
set_option maxRecDepth 20000 in
theorem ggX8_differ_X7_build : GoodIn wsX8_differ wsX7_build := goodIn_r _ [47, 48, 49, 50, 51, 52, 53, 54, 55, 56, 57, 58, 59, 60, 61, 62, 63, 64, 65, 66, 67, 68, 69, 70, 71, 72, 73, 46, 74, 75, 76, 77, 78, 79, 80, 81, 82, 83, 11, 84, 23, 85, 86, 87, 88, 89, 90, 91, 92, 93, 94, 95, 96, 97, 98, 99, 100, 101, 102, 103, 104, 105, 106, 107, 108, 109, 110, 111, 112, 113, 114, 115, 116, 117, 118, 119, 120, 121, 122, 123, 124, 125, 126, 127, 128, 129, 130, 131, 132, 26, 133, 134, 135, 136, 137, 138, 139, 140, 141, 142, 143, 144, 145, 146, 147, 148, 149, 150, 151, 152, 153, 154, 155, 156, 157, 158, 159, 160, 161, 162, 163, 164, 165, 166, 167, 168, 169, 170, 171, 172, 173, 174, 175, 176, 177, 178, 179, 180, 181, 182, 183, 184, 185, 186, 187, 188, 189, 190, 191, 192, 193, 194, 195, 196, 197, 198, 199, 200, 201, 202, 203, 204, 205, 206, 34, 35, 36, 28, 29, 30, 31, 32, 207, 208, 209, 210, 211, 212, 213, 214, 215, 216, 217, 218, 219, 220, 221, 222, 223, 224, 225, 226, 227, 228, 229, 230, 231, 232, 233, 234, 235, 236, 237, 238, 239, 240, 299, 300, 301, 302, 303, 304, 305, 306, 307, 308, 309, 310, 311, 312, 313, 314, 315, 316, 317, 294, 295, 296, 297, 298, 318, 319, 320, 321] (by decide +kernel) (by decide +kernel)
set_option maxRecDepth 20000 in
theorem gX8_differ_X7_build : GoodIn wsX8_differ (wsV RX8 160 RX7 yX7_build wsX7_build) := goodIn_app (goodIn_of _ (by decide +kernel)) ggX8_differ_X7_build
set_option maxRecDepth 20000 in
theorem ggX8_differ_X8_mayBeTold : GoodIn wsX8_differ wsX8_mayBeTold := goodIn_r _ [244, 3, 245, 246, 247, 248, 249, 250, 251, 252, 253, 5, 6, 7, 254, 255, 256, 257, 258, 67, 64, 68, 259, 260, 261, 262, 263, 264, 265, 266, 267, 268, 269, 270, 271, 2, 272, 273, 274, 46, 275, 49, 276, 277, 278, 53, 279, 55, 120, 121, 122, 123, 124, 284, 285, 286, 287, 288, 289, 290, 291, 292, 293, 322, 299, 300, 301, 302, 303, 304, 305, 306, 307, 308, 309, 310, 311, 312, 313, 314] (by decide +kernel) (by decide +kernel)
set_option maxRecDepth 20000 in
theorem gX8_differ_X8_mayBeTold : GoodIn wsX8_differ (wsV RX8 175 RX8 yX8_mayBeTold wsX8_mayBeTold) := goodIn_app (goodIn_of _ (by decide +kernel)) ggX8_differ_X8_mayBeTold
set_option maxRecDepth 20000 in
theorem ggX8_differ_X2_tell : GoodIn wsX8_differ wsX2_tell := goodIn_r _ [283, 250, 251, 252, 248, 253, 5, 6, 7, 322] (by decide +kernel) (by decide +kernel)
set_option maxRecDepth 20000 in
theorem gX8_differ_X2_tell : GoodIn wsX8_differ (wsV RX8 179 RX2 yX2_tell wsX2_tell) := goodIn_app (goodIn_of _ (by decide +kernel)) ggX8_differ_X2_tell
set_option maxRecDepth 20000 in
theorem ggX8_page_X8_isInChart : GoodIn wsX8_page wsX8_isInChart := goodIn_r _ [6] (by decide +kernel) (by decide +kernel)
set_option maxRecDepth 20000 in
theorem gX8_page_X8_isInChart : GoodIn wsX8_page (va_wsS RX8 152 yX8_isInChart wsX8_isInChart) := goodIn_app (goodIn_of _ (by decide +kernel)) ggX8_page_X8_isInChart
set_option maxRecDepth 20000 in
theorem ggX8_page_X5_isSound : GoodIn wsX8_page wsX5_isSound := goodIn_r _ [11, 12, 13, 14, 10, 15, 16, 17, 18, 19, 20, 21, 22, 23, 24, 25, 26, 27, 28, 29, 30, 31, 32, 33, 34, 35, 36, 37, 38, 39, 40, 5, 41, 276, 277, 278, 279, 280] (by decide +kernel) (by decide +kernel)
set_option maxRecDepth 20000 in
theorem gX8_page_X5_isSound : GoodIn wsX8_page (wsV RX8 156 RX5 yX5_isSound wsX5_isSound) := goodIn_app (goodIn_of _ (by decide +kernel)) ggX8_page_X5_isSound
set_option maxRecDepth 20000 in
theorem ggX8_page_X7_build : GoodIn wsX8_page wsX7_build := goodIn_r _ [46, 47, 48, 49, 50, 51, 52, 53, 54, 55, 56, 57, 58, 59, 60, 61, 62, 63, 64, 65, 66, 67, 68, 69, 70, 71, 72, 45, 73, 74, 75, 76, 77, 78, 79, 80, 81, 82, 10, 83, 22, 84, 85, 86, 87, 88, 89, 90, 91, 92, 93, 94, 95, 96, 97, 98, 99, 100, 101, 102, 103, 104, 105, 106, 107, 108, 109, 110, 111, 112, 113, 114, 115, 116, 117, 118, 119, 120, 121, 122, 123, 124, 125, 126, 127, 128, 129, 130, 131, 25, 132, 133, 134, 135, 136, 137, 138, 139, 140, 141, 142, 143, 144, 145, 146, 147, 148, 149, 150, 151, 152, 153, 154, 155, 156, 157, 158, 159, 160, 161, 162, 163, 164, 165, 166, 167, 168, 169, 170, 171, 172, 173, 174, 175, 176, 177, 178, 179, 180, 181, 182, 183, 184, 185, 186, 187, 188, 189, 190, 191, 192, 193, 194, 195, 196, 197, 198, 199, 200, 201, 202, 203, 204, 205, 33, 34, 35, 27, 28, 29, 30, 31, 206, 207, 208, 209, 210, 211, 212, 213, 214, 215, 216, 217, 218, 219, 220, 221, 222, 223, 224, 225, 226, 227, 228, 229, 230, 231, 232, 233, 234, 235, 236, 237, 238, 239, 281, 282, 283, 284, 285, 286, 287, 288, 289, 290, 291, 292, 293, 294, 295, 296, 297, 298, 299, 276, 277, 278, 279, 280, 300, 301, 302, 303] (by decide +kernel) (by decide +kernel)
set_option maxRecDepth 20000 in
theorem gX8_page_X7_build : GoodIn wsX8_page (wsV RX8 160 RX7 yX7_build wsX7_build) := goodIn_app (goodIn_of _ (by decide +kernel)) ggX8_page_X7_build
set_option maxRecDepth 20000 in
theorem ggX8_page_X8_leftOnPage : GoodIn wsX8_page wsX8_leftOnPage := goodIn_r _ [243, 2, 244, 245, 246, 247, 45, 248, 48, 249, 250, 251, 52, 252, 54, 119, 120, 121, 122, 123, 253, 254, 255, 256, 257, 258, 259, 260, 261, 262, 263, 264, 265, 4, 5, 6, 266, 267, 268, 269, 270, 271, 272, 273, 274, 275, 281, 282, 283, 284, 285, 286, 287, 288, 289, 290, 291, 292, 293, 294, 295, 296, 304] (by decide +kernel) (by decide +kernel)
set_option maxRecDepth 20000 in
theorem gX8_page_X8_leftOnPage : GoodIn wsX8_page (wsV RX8 183 RX8 yX8_leftOnPage wsX8_leftOnPage) := goodIn_app (goodIn_of _ (by decide +kernel)) ggX8_page_X8_leftOnPage
set_option maxRecDepth 20000 in
theorem ggX8_count_X5_size : GoodIn wsX8_count wsX5_size := goodIn_r _ [9, 10, 35, 36, 37, 38, 39] (by decide +kernel) (by decide +kernel)
set_option maxRecDepth 20000 in
theorem gX8_count_X5_size : GoodIn wsX8_count (wsV RX8 107 RX5 yX5_size wsX5_size) := goodIn_app (goodIn_of _ (by decide +kernel)) ggX8_count_X5_size
set_option maxRecDepth 20000 in
theorem ggX8_count_X2_told : GoodIn wsX8_count wsX2_told := goodIn_r _ [15, 16, 17, 18, 14, 19, 20, 21, 22, 23, 24, 40] (by decide +kernel) (by decide +kernel)
set_option maxRecDepth 20000 in
theorem gX8_count_X2_told : GoodIn wsX8_count (wsV RX8 186 RX2 yX2_told wsX2_told) := goodIn_app (goodIn_of _ (by decide +kernel)) ggX8_count_X2_told
set_option maxRecDepth 20000 in
theorem ggX8_mayBeTold_X2_rankOf : GoodIn wsX8_mayBeTold wsX2_rankOf := goodIn_r _ [6, 7, 8, 9, 5, 10, 11, 12, 13, 63] (by decide +kernel) (by decide +kernel)
set_option maxRecDepth 20000 in
theorem gX8_mayBeTold_X2_rankOf : GoodIn wsX8_mayBeTold (wsV RX8 189 RX2 yX2_rankOf wsX2_rankOf) := goodIn_app (goodIn_of _ (by decide +kernel)) ggX8_mayBeTold_X2_rankOf
set_option maxRecDepth 20000 in
theorem ggX8_mayBeTold_X2_isLongerTold : GoodIn wsX8_mayBeTold wsX2_isLongerTold := goodIn_r _ [17, 18, 19, 20, 21, 8, 9, 5, 10, 11, 12, 13, 22, 23, 24, 25, 7, 63] (by decide +kernel) (by decide +kernel)
set_option maxRecDepth 20000 in
theorem gX8_mayBeTold_X2_isLongerTold : GoodIn wsX8_mayBeTold (wsV RX8 192 RX2 yX2_isLongerTold wsX2_isLongerTold) := goodIn_app (goodIn_of _ (by decide +kernel)) ggX8_mayBeTold_X2_isLongerTold
set_option maxRecDepth 20000 in
theorem ggX8_mayBeTold_X2_spent : GoodIn wsX8_mayBeTold wsX2_spent := goodIn_r _ [29, 30, 3, 4, 5, 6, 7, 8, 9, 10, 11, 12, 13, 63] (by decide +kernel) (by decide +kernel)
set_option maxRecDepth 20000 in
theorem gX8_mayBeTold_X2_spent : GoodIn wsX8_mayBeTold (wsV RX8 195 RX2 yX2_spent wsX2_spent) := goodIn_app (goodIn_of _ (by decide +kernel)) ggX8_mayBeTold_X2_spent
set_option maxRecDepth 20000 in
theorem ggX8_mayBeTold_X8_leftOnPage : GoodIn wsX8_mayBeTold wsX8_leftOnPage := goodIn_r _ [34, 35, 1, 36, 37, 38, 39, 40, 41, 42, 43, 44, 45, 46, 47, 48, 49, 50, 51, 52, 26, 27, 28, 5, 29, 30, 3, 4, 6, 7, 8, 9, 10, 11, 12, 13, 53, 54, 55, 56, 57, 58, 59, 60, 61, 62, 64, 65, 66, 67, 68, 69, 70, 71, 72, 73, 74, 75, 76, 77, 78, 79, 63] (by decide +kernel) (by decide +kernel)
set_option maxRecDepth 20000 in
theorem gX8_mayBeTold_X8_leftOnPage : GoodIn wsX8_mayBeTold (wsV RX8 183 RX8 yX8_leftOnPage wsX8_leftOnPage) := goodIn_app (goodIn_of _ (by decide +kernel)) ggX8_mayBeTold_X8_leftOnPage
set_option maxRecDepth 20000 in
theorem ggX8_leftOnPage_X7_generatorsAt : GoodIn wsX8_leftOnPage wsX7_generatorsAt := goodIn_r _ [7, 8, 9, 10, 11, 12, 13, 14, 15, 16, 17, 18, 19, 46, 47, 48, 49, 50, 51, 52, 53, 54, 55, 56, 57, 58, 59, 60, 61] (by decide +kernel) (by decide +kernel)
set_option maxRecDepth 20000 in
theorem gX8_leftOnPage_X7_generatorsAt : GoodIn wsX8_leftOnPage (wsV RX8 164 RX7 yX7_generatorsAt wsX7_generatorsAt) := goodIn_app (goodIn_of _ (by decide +kernel)) ggX8_leftOnPage_X7_generatorsAt
set_option maxRecDepth 20000 in
theorem ggX8_leftOnPage_X2_spent : GoodIn wsX8_leftOnPage wsX2_spent := goodIn_r _ [24, 25, 26, 27, 23, 28, 29, 30, 31, 32, 33, 34, 35, 62] (by decide +kernel) (by decide +kernel)
set_option maxRecDepth 20000 in
theorem gX8_leftOnPage_X2_spent : GoodIn wsX8_leftOnPage (wsV RX8 195 RX2 yX2_spent wsX2_spent) := goodIn_app (goodIn_of _ (by decide +kernel)) ggX8_leftOnPage_X2_spent
end
section
set_option maxRecDepth 20000 in
theorem ggX9_init_X9_findWords : GoodIn wsX9_init wsX9_findWords := goodIn_r _ [30, 31, 5, 6, 7, 79, 80, 81, 82, 83, 84, 85, 86, 87, 88, 89, 90, 91, 92, 93, 94, 95, 96, 97, 98, 99, 100, 101, 102, 103, 104, 105, 106, 107, 108] (by decide +kernel) (by decide +kernel)
set_option maxRecDepth 20000 in
theorem gX9_init_X9_findWords : GoodIn wsX9_init (wsV RX9 71 RX9 yX9_findWords wsX9_findWords) := goodIn_app (goodIn_of _ (by decide +kernel)) ggX9_init_X9_findWords
set_option maxRecDepth 20000 in
theorem ggX9_init_X9_findRows : GoodIn wsX9_init wsX9_findRows := goodIn_r _ [35, 8, 79, 80, 81, 82, 83, 84, 85, 86, 87, 88, 89, 90, 91, 92, 93, 94, 95, 96, 97, 98, 99, 100, 101, 102, 103, 104, 105, 106, 107, 108] (by decide +kernel) (by decide +kernel)
set_option maxRecDepth 20000 in
theorem gX9_init_X9_findRows : GoodIn wsX9_init (wsV RX9 74 RX9 yX9_findRows wsX9_findRows) := goodIn_app (goodIn_of _ (by decide +kernel)) ggX9_init_X9_findRows
set_option maxRecDepth 20000 in
theorem ggX9_init_X9_findSquares : GoodIn wsX9_init wsX9_findSquares := goodIn_r _ [39, 5, 9, 10, 40, 41, 42, 29, 43, 7, 6, 44, 45, 46, 47, 48, 49, 50, 51, 52, 53, 54, 55, 56, 57, 58, 59, 60, 61, 62, 63, 64, 65, 66, 8, 67, 68, 69, 70, 79, 80, 81, 82, 83, 84, 85, 86, 87, 88, 89, 90, 91, 92, 93, 94, 95, 96, 97, 98, 99, 100, 101, 102, 103, 104, 105, 106, 107, 108] (by decide +kernel) (by decide +kernel)
set_option maxRecDepth 20000 in
theorem gX9_init_X9_findSquares : GoodIn wsX9_init (wsV RX9 77 RX9 yX9_findSquares wsX9_findSquares) := goodIn_app (goodIn_of _ (by decide +kernel)) ggX9_init_X9_findSquares
set_option maxRecDepth 20000 in
theorem ggX9_init_X9_findProducts : GoodIn wsX9_init wsX9_findProducts := goodIn_r _ [74, 31, 5, 6, 7, 11, 75, 76, 77, 29, 78, 55, 56, 57, 58, 9, 59, 60, 61, 62, 79, 80, 81, 82, 83, 84, 85, 86, 87, 88, 89, 90, 91, 92, 93, 94, 95, 96, 97, 98, 99, 100, 101, 102, 103, 104, 105, 106, 107, 108] (by decide +kernel) (by decide +kernel)
set_option maxRecDepth 20000 in
theorem gX9_init_X9_findProducts : GoodIn wsX9_init (wsV RX9 80 RX9 yX9_findProducts wsX9_findProducts) := goodIn_app (goodIn_of _ (by decide +kernel)) ggX9_init_X9_findProducts
set_option maxRecDepth 20000 in
theorem ggX9_squares_X9_manyOf : GoodIn wsX9_squares wsX9_manyOf := goodIn_r _ [7, 2, 8, 9, 10, 11, 12, 13, 14, 15, 16, 17, 18, 19, 20, 21, 22, 23, 24, 25, 26, 27, 28, 29, 30, 31, 32, 33, 34, 35, 36, 37] (by decide +kernel) (by decide +kernel)
set_option maxRecDepth 20000 in
theorem gX9_squares_X9_manyOf : GoodIn wsX9_squares (wsV RX9 87 RX9 yX9_manyOf wsX9_manyOf) := goodIn_app (goodIn_of _ (by decide +kernel)) ggX9_squares_X9_manyOf
set_option maxRecDepth 20000 in
theorem ggX9_squaresRow_X9_manyOf : GoodIn wsX9_squaresRow wsX9_manyOf := goodIn_r _ [7, 2, 8, 9, 10, 11, 12, 13, 14, 15, 16, 17, 18, 19, 20, 21, 22, 23, 24, 25, 26, 27, 28, 29, 30, 31, 32, 33, 34, 35, 36, 37] (by decide +kernel) (by decide +kernel)
set_option maxRecDepth 20000 in
theorem gX9_squaresRow_X9_manyOf : GoodIn wsX9_squaresRow (wsV RX9 87 RX9 yX9_manyOf wsX9_manyOf) := goodIn_app (goodIn_of _ (by decide +kernel)) ggX9_squaresRow_X9_manyOf
set_option maxRecDepth 20000 in
theorem ggX9_squareOf_X9_placeOf : GoodIn wsX9_squareOf wsX9_placeOf := goodIn_r _ [8, 3, 2, 1, 25, 26, 27, 28, 29, 30, 31, 32, 33, 34, 35, 36, 37, 38, 39, 40, 41, 42, 43, 44, 45, 46, 47, 48, 49, 50, 51, 52, 53, 54] (by decide +kernel) (by decide +kernel)
set_option maxRecDepth 20000 in
theorem gX9_squareOf_X9_placeOf : GoodIn wsX9_squareOf (wsV RX9 91 RX9 yX9_placeOf wsX9_placeOf) := goodIn_app (goodIn_of _ (by decide +kernel)) ggX9_squareOf_X9_placeOf
set_option maxRecDepth 20000 in
theorem ggX9_squareOf_X9_restOf : GoodIn wsX9_squareOf wsX9_restOf := goodIn_r _ [12, 1, 3, 2, 25, 26, 27, 28, 29, 30, 31, 32, 33, 34, 35, 36, 37, 38, 39, 40, 41, 42, 43, 44, 45, 46, 47, 48, 49, 50, 51, 52, 53, 54] (by decide +kernel) (by decide +kernel)
set_option maxRecDepth 20000 in
theorem gX9_squareOf_X9_restOf : GoodIn wsX9_squareOf (wsV RX9 95 RX9 yX9_restOf wsX9_restOf) := goodIn_app (goodIn_of _ (by decide +kernel)) ggX9_squareOf_X9_restOf
set_option maxRecDepth 20000 in
theorem ggX9_squareOf_X9_isOdd : GoodIn wsX9_squareOf wsX9_isOdd := goodIn_r _ [15] (by decide +kernel) (by decide +kernel)
set_option maxRecDepth 20000 in
theorem gX9_squareOf_X9_isOdd : GoodIn wsX9_squareOf (va_wsS RX9 99 yX9_isOdd wsX9_isOdd) := goodIn_app (goodIn_of _ (by decide +kernel)) ggX9_squareOf_X9_isOdd
set_option maxRecDepth 20000 in
theorem ggX9_squareOf_X9_squares : GoodIn wsX9_squareOf wsX9_squares := goodIn_r _ [19, 20, 3, 21, 22, 23, 7, 24, 25, 26, 27, 28, 29, 30, 31, 32, 33, 34, 35, 36, 37, 38, 39, 40, 41, 42, 43, 44, 45, 46, 47, 48, 49, 50, 51, 52, 53, 54] (by decide +kernel) (by decide +kernel)
set_option maxRecDepth 20000 in
theorem gX9_squareOf_X9_squares : GoodIn wsX9_squareOf (wsV RX9 103 RX9 yX9_squares wsX9_squares) := goodIn_app (goodIn_of _ (by decide +kernel)) ggX9_squareOf_X9_squares
set_option maxRecDepth 20000 in
theorem ggX9_squareOfRow_X9_rowAt : GoodIn wsX9_squareOfRow wsX9_rowAt := goodIn_r _ [6, 7, 1, 8, 9, 10, 11, 12, 13, 14, 15, 16, 17, 18, 19, 20, 21, 22, 23, 24, 25, 26, 27, 28, 29, 30, 31, 32, 33, 34, 35, 36, 37] (by decide +kernel) (by decide +kernel)
set_option maxRecDepth 20000 in
theorem gX9_squareOfRow_X9_rowAt : GoodIn wsX9_squareOfRow (wsV RX9 107 RX9 yX9_rowAt wsX9_rowAt) := goodIn_app (goodIn_of _ (by decide +kernel)) ggX9_squareOfRow_X9_rowAt
set_option maxRecDepth 20000 in
theorem ggX9_findSquares_X9_squareOf : GoodIn wsX9_findSquares wsX9_squareOf := goodIn_r _ [8, 9, 10, 1, 11, 12, 13, 7, 14, 15, 16, 17, 18, 19, 20, 21, 22, 23, 24, 25, 2, 26, 27, 28, 29, 39, 40, 41, 42, 43, 44, 45, 46, 47, 48, 49, 50, 51, 52, 53, 54, 55, 56, 57, 58, 59, 60, 61, 62, 63, 64, 65, 66, 67, 68] (by decide +kernel) (by decide +kernel)
set_option maxRecDepth 20000 in
theorem gX9_findSquares_X9_squareOf : GoodIn wsX9_findSquares (wsV RX9 110 RX9 yX9_squareOf wsX9_squareOf) := goodIn_app (goodIn_of _ (by decide +kernel)) ggX9_findSquares_X9_squareOf
set_option maxRecDepth 20000 in
theorem ggX9_findSquares_X9_squareOfRow : GoodIn wsX9_findSquares wsX9_squareOfRow := goodIn_r _ [33, 34, 35, 36, 37, 7, 38, 1, 39, 40, 41, 42, 43, 44, 45, 46, 47, 48, 49, 50, 51, 52, 53, 54, 55, 56, 57, 58, 59, 60, 61, 62, 63, 64, 65, 66, 67, 68] (by decide +kernel) (by decide +kernel)
set_option maxRecDepth 20000 in
theorem gX9_findSquares_X9_squareOfRow : GoodIn wsX9_findSquares (wsV RX9 113 RX9 yX9_squareOfRow wsX9_squareOfRow) := goodIn_app (goodIn_of _ (by decide +kernel)) ggX9_findSquares_X9_squareOfRow
set_option maxRecDepth 20000 in
theorem ggX9_findProducts_X9_degreeOf : GoodIn wsX9_findProducts wsX9_degreeOf := goodIn_r _ [10, 2, 20, 21, 22, 23, 24, 25, 26, 27, 28, 29, 30, 31, 32, 33, 34, 35, 36, 37, 38, 39, 40, 41, 42, 43, 44, 45, 46, 47, 48, 49] (by decide +kernel) (by decide +kernel)
set_option maxRecDepth 20000 in
theorem gX9_findProducts_X9_degreeOf : GoodIn wsX9_findProducts (wsV RX9 116 RX9 yX9_degreeOf wsX9_degreeOf) := goodIn_app (goodIn_of _ (by decide +kernel)) ggX9_findProducts_X9_degreeOf
set_option maxRecDepth 20000 in
theorem ggX9_findProducts_X9_squares : GoodIn wsX9_findProducts wsX9_squares := goodIn_r _ [14, 15, 2, 16, 17, 18, 9, 19, 20, 21, 22, 23, 24, 25, 26, 27, 28, 29, 30, 31, 32, 33, 34, 35, 36, 37, 38, 39, 40, 41, 42, 43, 44, 45, 46, 47, 48, 49] (by decide +kernel) (by decide +kernel)
set_option maxRecDepth 20000 in
theorem gX9_findProducts_X9_squares : GoodIn wsX9_findProducts (wsV RX9 103 RX9 yX9_squares wsX9_squares) := goodIn_app (goodIn_of _ (by decide +kernel)) ggX9_findProducts_X9_squares
set_option maxRecDepth 20000 in
theorem ggX9_square_X9_in : GoodIn wsX9_square wsX9_in := goodIn_r _ [6] (by decide +kernel) (by decide +kernel)
set_option maxRecDepth 20000 in
theorem gX9_square_X9_in : GoodIn wsX9_square (va_wsS RX9 122 yX9_in wsX9_in) := goodIn_app (goodIn_of _ (by decide +kernel)) ggX9_square_X9_in
set_option maxRecDepth 20000 in
theorem ggX9_square_X9_wordDegree : GoodIn wsX9_square wsX9_wordDegree := goodIn_r _ [10, 1, 2, 11, 12, 13, 14, 15, 16, 17, 18, 19, 20, 21, 22, 23, 24, 25, 26, 27, 28, 29, 30, 31, 32, 33, 34, 35, 36, 37, 38, 39, 40] (by decide +kernel) (by decide +kernel)
set_option maxRecDepth 20000 in
theorem gX9_square_X9_wordDegree : GoodIn wsX9_square (wsV RX9 126 RX9 yX9_wordDegree wsX9_wordDegree) := goodIn_app (goodIn_of _ (by decide +kernel)) ggX9_square_X9_wordDegree
set_option maxRecDepth 20000 in
theorem ggX9_sumOf_X9_squares : GoodIn wsX9_sumOf wsX9_squares := goodIn_r _ [7, 8, 9, 10, 11, 12, 6, 13, 19, 20, 21, 22, 23, 24, 25, 26, 27, 28, 29, 30, 31, 32, 33, 34, 35, 36, 37, 38, 39, 40, 41, 42, 43, 44, 45, 46, 47, 48] (by decide +kernel) (by decide +kernel)
set_option maxRecDepth 20000 in
theorem gX9_sumOf_X9_squares : GoodIn wsX9_sumOf (wsV RX9 103 RX9 yX9_squares wsX9_squares) := goodIn_app (goodIn_of _ (by decide +kernel)) ggX9_sumOf_X9_squares
set_option maxRecDepth 20000 in
theorem ggX9_sumOf_X9_squaresRow : GoodIn wsX9_sumOf wsX9_squaresRow := goodIn_r _ [17, 18, 9, 10, 11, 12, 6, 13, 19, 20, 21, 22, 23, 24, 25, 26, 27, 28, 29, 30, 31, 32, 33, 34, 35, 36, 37, 38, 39, 40, 41, 42, 43, 44, 45, 46, 47, 48] (by decide +kernel) (by decide +kernel)
set_option maxRecDepth 20000 in
theorem gX9_sumOf_X9_squaresRow : GoodIn wsX9_sumOf (wsV RX9 130 RX9 yX9_squaresRow wsX9_squaresRow) := goodIn_app (goodIn_of _ (by decide +kernel)) ggX9_sumOf_X9_squaresRow
set_option maxRecDepth 20000 in
theorem ggX9_sum_X9_in : GoodIn wsX9_sum wsX9_in := goodIn_r _ [4] (by decide +kernel) (by decide +kernel)
set_option maxRecDepth 20000 in
theorem gX9_sum_X9_in : GoodIn wsX9_sum (va_wsS RX9 122 yX9_in wsX9_in) := goodIn_app (goodIn_of _ (by decide +kernel)) ggX9_sum_X9_in
set_option maxRecDepth 20000 in
theorem ggX9_sum_X9_sumOf : GoodIn wsX9_sum wsX9_sumOf := goodIn_r _ [8, 9, 10, 11, 12, 13, 3, 14, 15, 16, 17, 18, 19, 20, 21, 22, 23, 24, 25, 29, 30, 31, 32, 33, 34, 35, 36, 37, 38, 39, 40, 41, 42, 43, 44, 45, 46, 47, 48, 49, 50, 51, 52, 53, 54, 55, 56, 57, 58] (by decide +kernel) (by decide +kernel)
set_option maxRecDepth 20000 in
theorem gX9_sum_X9_sumOf : GoodIn wsX9_sum (wsV RX9 133 RX9 yX9_sumOf wsX9_sumOf) := goodIn_app (goodIn_of _ (by decide +kernel)) ggX9_sum_X9_sumOf
set_option maxRecDepth 20000 in
theorem ggX9_sum_X9_ones : GoodIn wsX9_sum wsX9_ones := goodIn_r _ [28] (by decide +kernel) (by decide +kernel)
set_option maxRecDepth 20000 in
theorem gX9_sum_X9_ones : GoodIn wsX9_sum (va_wsS RX9 136 yX9_ones wsX9_ones) := goodIn_app (goodIn_of _ (by decide +kernel)) ggX9_sum_X9_ones
set_option maxRecDepth 20000 in
theorem ggX9_term_X9_in : GoodIn wsX9_term wsX9_in := goodIn_r _ [8] (by decide +kernel) (by decide +kernel)
set_option maxRecDepth 20000 in
theorem gX9_term_X9_in : GoodIn wsX9_term (va_wsS RX9 122 yX9_in wsX9_in) := goodIn_app (goodIn_of _ (by decide +kernel)) ggX9_term_X9_in
set_option maxRecDepth 20000 in
theorem ggX9_term_X9_sumOf : GoodIn wsX9_term wsX9_sumOf := goodIn_r _ [12, 13, 14, 15, 16, 17, 7, 18, 19, 1, 20, 21, 22, 23, 24, 25, 26, 27, 28, 36, 37, 38, 39, 40, 41, 42, 43, 44, 45, 46, 47, 48, 49, 50, 51, 52, 53, 54, 55, 56, 57, 58, 59, 60, 61, 62, 63, 64, 65] (by decide +kernel) (by decide +kernel)
set_option maxRecDepth 20000 in
theorem gX9_term_X9_sumOf : GoodIn wsX9_term (wsV RX9 133 RX9 yX9_sumOf wsX9_sumOf) := goodIn_app (goodIn_of _ (by decide +kernel)) ggX9_term_X9_sumOf
set_option maxRecDepth 20000 in
theorem ggX9_term_X9_ones : GoodIn wsX9_term wsX9_ones := goodIn_r _ [31] (by decide +kernel) (by decide +kernel)
set_option maxRecDepth 20000 in
theorem gX9_term_X9_ones : GoodIn wsX9_term (va_wsS RX9 136 yX9_ones wsX9_ones) := goodIn_app (goodIn_of _ (by decide +kernel)) ggX9_term_X9_ones
set_option maxRecDepth 20000 in
theorem ggX9_term_X9_wordDegree : GoodIn wsX9_term wsX9_wordDegree := goodIn_r _ [35, 13, 14, 36, 37, 38, 39, 40, 41, 42, 43, 44, 45, 46, 47, 48, 49, 50, 51, 52, 53, 54, 55, 56, 57, 58, 59, 60, 61, 62, 63, 64, 65] (by decide +kernel) (by decide +kernel)
set_option maxRecDepth 20000 in
theorem gX9_term_X9_wordDegree : GoodIn wsX9_term (wsV RX9 126 RX9 yX9_wordDegree wsX9_wordDegree) := goodIn_app (goodIn_of _ (by decide +kernel)) ggX9_term_X9_wordDegree
set_option maxRecDepth 20000 in
theorem ggX9_many_X9_in : GoodIn wsX9_many wsX9_in := goodIn_r _ [4] (by decide +kernel) (by decide +kernel)
set_option maxRecDepth 20000 in
theorem gX9_many_X9_in : GoodIn wsX9_many (va_wsS RX9 122 yX9_in wsX9_in) := goodIn_app (goodIn_of _ (by decide +kernel)) ggX9_many_X9_in
set_option maxRecDepth 20000 in
theorem ggX9_many_X9_manyOf : GoodIn wsX9_many wsX9_manyOf := goodIn_r _ [8, 9, 10, 11, 12, 13, 14, 15, 16, 17, 18, 19, 20, 21, 22, 23, 24, 25, 26, 27, 28, 29, 30, 31, 32, 33, 34, 35, 36, 37, 38, 39] (by decide +kernel) (by decide +kernel)
set_option maxRecDepth 20000 in
theorem gX9_many_X9_manyOf : GoodIn wsX9_many (wsV RX9 87 RX9 yX9_manyOf wsX9_manyOf) := goodIn_app (goodIn_of _ (by decide +kernel)) ggX9_many_X9_manyOf
set_option maxRecDepth 20000 in
theorem ggX9_empty_X9_changes : GoodIn wsX9_empty wsX9_changes := goodIn_r _ [6, 7, 8, 9, 10, 11, 12, 13, 14, 15, 16, 17, 18, 19, 20, 21, 22, 23, 24, 25, 26, 27, 28, 29, 30, 31, 32, 33, 34, 35, 36, 37, 38, 39] (by decide +kernel) (by decide +kernel)
set_option maxRecDepth 20000 in
theorem gX9_empty_X9_changes : GoodIn wsX9_empty (wsV RX9 149 RX9 yX9_changes wsX9_changes) := goodIn_app (goodIn_of _ (by decide +kernel)) ggX9_empty_X9_changes
set_option maxRecDepth 20000 in
theorem ggX9_element_X9_in : GoodIn wsX9_element wsX9_in := goodIn_r _ [5] (by decide +kernel) (by decide +kernel)
set_option maxRecDepth 20000 in
theorem gX9_element_X9_in : GoodIn wsX9_element (va_wsS RX9 122 yX9_in wsX9_in) := goodIn_app (goodIn_of _ (by decide +kernel)) ggX9_element_X9_in
set_option maxRecDepth 20000 in
theorem ggX9_element_X9_comes : GoodIn wsX9_element wsX9_comes := goodIn_r _ [9, 10, 1, 11, 19, 20, 21, 22, 23, 24, 25, 26, 27, 28, 29, 30, 31, 32, 33, 34, 35, 36, 37, 38, 39, 40, 41, 42, 43, 44, 45, 46, 47, 48] (by decide +kernel) (by decide +kernel)
set_option maxRecDepth 20000 in
theorem gX9_element_X9_comes : GoodIn wsX9_element (wsV RX9 152 RX9 yX9_comes wsX9_comes) := goodIn_app (goodIn_of _ (by decide +kernel)) ggX9_element_X9_comes
set_option maxRecDepth 20000 in
theorem ggX9_element_X9_changes : GoodIn wsX9_element wsX9_changes := goodIn_r _ [15, 16, 17, 18, 19, 20, 21, 22, 23, 24, 25, 26, 27, 28, 29, 30, 31, 32, 33, 34, 35, 36, 37, 38, 39, 40, 41, 42, 43, 44, 45, 46, 47, 48] (by decide +kernel) (by decide +kernel)
set_option maxRecDepth 20000 in
theorem gX9_element_X9_changes : GoodIn wsX9_element (wsV RX9 149 RX9 yX9_changes wsX9_changes) := goodIn_app (goodIn_of _ (by decide +kernel)) ggX9_element_X9_changes
set_option maxRecDepth 20000 in
theorem ggX9_isElement_X9_in : GoodIn wsX9_isElement wsX9_in := goodIn_r _ [5] (by decide +kernel) (by decide +kernel)
set_option maxRecDepth 20000 in
theorem gX9_isElement_X9_in : GoodIn wsX9_isElement (va_wsS RX9 122 yX9_in wsX9_in) := goodIn_app (goodIn_of _ (by decide +kernel)) ggX9_isElement_X9_in
set_option maxRecDepth 20000 in
theorem ggX9_act_X9_in : GoodIn wsX9_act wsX9_in := goodIn_r _ [6] (by decide +kernel) (by decide +kernel)
set_option maxRecDepth 20000 in
theorem gX9_act_X9_in : GoodIn wsX9_act (va_wsS RX9 122 yX9_in wsX9_in) := goodIn_app (goodIn_of _ (by decide +kernel)) ggX9_act_X9_in
set_option maxRecDepth 20000 in
theorem ggX9_act_X9_isElement : GoodIn wsX9_act wsX9_isElement := goodIn_r _ [10, 11, 3, 4, 5, 6, 23, 24, 25, 26, 27, 28, 29, 30, 31, 32, 33, 34, 35, 36, 37, 38, 39, 40, 41, 42, 43, 44, 45, 46, 47, 48, 49, 50, 51, 52] (by decide +kernel) (by decide +kernel)
set_option maxRecDepth 20000 in
theorem gX9_act_X9_isElement : GoodIn wsX9_act (wsV RX9 156 RX9 yX9_isElement wsX9_isElement) := goodIn_app (goodIn_of _ (by decide +kernel)) ggX9_act_X9_isElement
set_option maxRecDepth 20000 in
theorem ggX9_act_X9_ofDegree : GoodIn wsX9_act wsX9_ofDegree := goodIn_r _ [15, 11, 1, 23, 24, 25, 26, 27, 28, 29, 30, 31, 32, 33, 34, 35, 36, 37, 38, 39, 40, 41, 42, 43, 44, 45, 46, 47, 48, 49, 50, 51, 52] (by decide +kernel) (by decide +kernel)
set_option maxRecDepth 20000 in
theorem gX9_act_X9_ofDegree : GoodIn wsX9_act (wsV RX9 160 RX9 yX9_ofDegree wsX9_ofDegree) := goodIn_app (goodIn_of _ (by decide +kernel)) ggX9_act_X9_ofDegree
set_option maxRecDepth 20000 in
theorem ggX9_act_X9_changes : GoodIn wsX9_act wsX9_changes := goodIn_r _ [19, 20, 21, 22, 23, 24, 25, 26, 27, 28, 29, 30, 31, 32, 33, 34, 35, 36, 37, 38, 39, 40, 41, 42, 43, 44, 45, 46, 47, 48, 49, 50, 51, 52] (by decide +kernel) (by decide +kernel)
set_option maxRecDepth 20000 in
theorem gX9_act_X9_changes : GoodIn wsX9_act (wsV RX9 149 RX9 yX9_changes wsX9_changes) := goodIn_app (goodIn_of _ (by decide +kernel)) ggX9_act_X9_changes
set_option maxRecDepth 20000 in
theorem ggX9_space_X9_in : GoodIn wsX9_space wsX9_in := goodIn_r _ [6] (by decide +kernel) (by decide +kernel)
set_option maxRecDepth 20000 in
theorem gX9_space_X9_in : GoodIn wsX9_space (va_wsS RX9 122 yX9_in wsX9_in) := goodIn_app (goodIn_of _ (by decide +kernel)) ggX9_space_X9_in
set_option maxRecDepth 20000 in
theorem ggX9_space_X9_comes : GoodIn wsX9_space wsX9_comes := goodIn_r _ [10, 11, 1, 2, 22, 23, 24, 25, 26, 27, 28, 29, 30, 31, 32, 33, 34, 35, 36, 37, 38, 39, 40, 41, 42, 43, 44, 45, 46, 47, 48, 49, 50, 51] (by decide +kernel) (by decide +kernel)
set_option maxRecDepth 20000 in
theorem gX9_space_X9_comes : GoodIn wsX9_space (wsV RX9 152 RX9 yX9_comes wsX9_comes) := goodIn_app (goodIn_of _ (by decide +kernel)) ggX9_space_X9_comes
set_option maxRecDepth 20000 in
theorem ggX9_space_X9_isOdd : GoodIn wsX9_space wsX9_isOdd := goodIn_r _ [14] (by decide +kernel) (by decide +kernel)
set_option maxRecDepth 20000 in
theorem gX9_space_X9_isOdd : GoodIn wsX9_space (va_wsS RX9 99 yX9_isOdd wsX9_isOdd) := goodIn_app (goodIn_of _ (by decide +kernel)) ggX9_space_X9_isOdd
set_option maxRecDepth 20000 in
theorem ggX9_space_X9_changes : GoodIn wsX9_space wsX9_changes := goodIn_r _ [18, 19, 20, 21, 22, 23, 24, 25, 26, 27, 28, 29, 30, 31, 32, 33, 34, 35, 36, 37, 38, 39, 40, 41, 42, 43, 44, 45, 46, 47, 48, 49, 50, 51] (by decide +kernel) (by decide +kernel)
set_option maxRecDepth 20000 in
theorem gX9_space_X9_changes : GoodIn wsX9_space (wsV RX9 149 RX9 yX9_changes wsX9_changes) := goodIn_app (goodIn_of _ (by decide +kernel)) ggX9_space_X9_changes
set_option maxRecDepth 20000 in
theorem ggX9_does_X9_isElement : GoodIn wsX9_does wsX9_isElement := goodIn_r _ [7, 8, 9, 10, 6, 11, 17, 18, 19, 20, 21, 22, 23, 24, 25, 26, 27, 28, 29, 30, 31, 32, 33, 34, 35, 36, 37, 38, 39, 40, 41, 42, 43, 44, 45, 46] (by decide +kernel) (by decide +kernel)
set_option maxRecDepth 20000 in
theorem gX9_does_X9_isElement : GoodIn wsX9_does (wsV RX9 156 RX9 yX9_isElement wsX9_isElement) := goodIn_app (goodIn_of _ (by decide +kernel)) ggX9_does_X9_isElement
set_option maxRecDepth 20000 in
theorem ggX9_does_X9_acted : GoodIn wsX9_does wsX9_acted := goodIn_r _ [15, 8, 16, 17, 18, 19, 20, 21, 22, 23, 24, 25, 26, 27, 28, 29, 30, 31, 32, 33, 34, 35, 36, 37, 38, 39, 40, 41, 42, 43, 44, 45, 46] (by decide +kernel) (by decide +kernel)
set_option maxRecDepth 20000 in
theorem gX9_does_X9_acted : GoodIn wsX9_does (wsV RX9 163 RX9 yX9_acted wsX9_acted) := goodIn_app (goodIn_of _ (by decide +kernel)) ggX9_does_X9_acted
set_option maxRecDepth 20000 in
theorem ggX9_about_X9_isElement : GoodIn wsX9_about wsX9_isElement := goodIn_r _ [7, 8, 9, 10, 6, 11, 12, 13, 14, 15, 16, 17, 18, 19, 20, 21, 22, 23, 24, 25, 26, 27, 28, 29, 30, 31, 32, 33, 34, 35, 36, 37, 38, 39, 40, 41] (by decide +kernel) (by decide +kernel)
set_option maxRecDepth 20000 in
theorem gX9_about_X9_isElement : GoodIn wsX9_about (wsV RX9 156 RX9 yX9_isElement wsX9_isElement) := goodIn_app (goodIn_of _ (by decide +kernel)) ggX9_about_X9_isElement
set_option maxRecDepth 20000 in
theorem ggX9_about_X9_in : GoodIn wsX9_about wsX9_in := goodIn_r _ [11] (by decide +kernel) (by decide +kernel)
set_option maxRecDepth 20000 in
theorem gX9_about_X9_in : GoodIn wsX9_about (va_wsS RX9 122 yX9_in wsX9_in) := goodIn_app (goodIn_of _ (by decide +kernel)) ggX9_about_X9_in
set_option maxRecDepth 20000 in
theorem ggX9_findFault_X9_acted : GoodIn wsX9_findFault wsX9_acted := goodIn_r _ [8, 1, 9, 13, 14, 15, 16, 17, 18, 19, 20, 21, 22, 23, 24, 25, 26, 27, 28, 29, 30, 31, 32, 33, 34, 35, 36, 37, 38, 39, 40, 41, 42] (by decide +kernel) (by decide +kernel)
set_option maxRecDepth 20000 in
theorem gX9_findFault_X9_acted : GoodIn wsX9_findFault (wsV RX9 163 RX9 yX9_acted wsX9_acted) := goodIn_app (goodIn_of _ (by decide +kernel)) ggX9_findFault_X9_acted
set_option maxRecDepth 20000 in
theorem ggX9_findFault_X9_isOdd : GoodIn wsX9_findFault wsX9_isOdd := goodIn_r _ [12] (by decide +kernel) (by decide +kernel)
set_option maxRecDepth 20000 in
theorem gX9_findFault_X9_isOdd : GoodIn wsX9_findFault (va_wsS RX9 99 yX9_isOdd wsX9_isOdd) := goodIn_app (goodIn_of _ (by decide +kernel)) ggX9_findFault_X9_isOdd
set_option maxRecDepth 20000 in
theorem ggX9_isSound_X9_findFault : GoodIn wsX9_isSound wsX9_findFault := goodIn_r _ [5, 6, 7, 8, 9, 10, 11, 4, 12, 13, 14, 15, 16, 17, 18, 19, 20, 21, 22, 23, 24, 25, 26, 27, 28, 29, 30, 31, 32, 33, 34, 35, 36, 37, 38, 39, 40, 41, 42, 43, 44, 45, 46] (by decide +kernel) (by decide +kernel)
set_option maxRecDepth 20000 in
theorem gX9_isSound_X9_findFault : GoodIn wsX9_isSound (wsV RX9 172 RX9 yX9_findFault wsX9_findFault) := goodIn_app (goodIn_of _ (by decide +kernel)) ggX9_isSound_X9_findFault
set_option maxRecDepth 20000 in
theorem ggX9_fault_X9_in : GoodIn wsX9_fault wsX9_in := goodIn_r _ [6] (by decide +kernel) (by decide +kernel)
set_option maxRecDepth 20000 in
theorem gX9_fault_X9_in : GoodIn wsX9_fault (va_wsS RX9 122 yX9_in wsX9_in) := goodIn_app (goodIn_of _ (by decide +kernel)) ggX9_fault_X9_in
set_option maxRecDepth 20000 in
theorem ggX9_fault_X9_findFault : GoodIn wsX9_fault wsX9_findFault := goodIn_r _ [10, 11, 1, 2, 12, 13, 14, 5, 15, 16, 17, 18, 19, 20, 21, 22, 23, 24, 25, 26, 27, 28, 29, 30, 31, 32, 33, 34, 35, 36, 37, 38, 39, 40, 41, 42, 43, 44, 45, 46, 47, 48, 49] (by decide +kernel) (by decide +kernel)
set_option maxRecDepth 20000 in
theorem gX9_fault_X9_findFault : GoodIn wsX9_fault (wsV RX9 172 RX9 yX9_findFault wsX9_findFault) := goodIn_app (goodIn_of _ (by decide +kernel)) ggX9_fault_X9_findFault
set_option maxRecDepth 20000 in
theorem ggX9_offset_X9_manyOf : GoodIn wsX9_offset wsX9_manyOf := goodIn_r _ [6, 7, 8, 9, 10, 11, 12, 13, 14, 15, 16, 17, 18, 19, 20, 21, 22, 23, 24, 25, 26, 27, 28, 29, 30, 31, 32, 33, 34, 35, 36, 37] (by decide +kernel) (by decide +kernel)
set_option maxRecDepth 20000 in
theorem gX9_offset_X9_manyOf : GoodIn wsX9_offset (wsV RX9 87 RX9 yX9_manyOf wsX9_manyOf) := goodIn_app (goodIn_of _ (by decide +kernel)) ggX9_offset_X9_manyOf
set_option maxRecDepth 20000 in
theorem ggX9_wide_X9_offset : GoodIn wsX9_wide wsX9_offset := goodIn_r _ [6, 7, 8, 9, 10, 5, 11, 12, 13, 14, 15, 16, 17, 18, 19, 20, 21, 22, 23, 24, 25, 26, 27, 28, 29, 30, 31, 32, 33, 34, 35, 36, 37, 38, 39, 40, 41, 42] (by decide +kernel) (by decide +kernel)
set_option maxRecDepth 20000 in
theorem gX9_wide_X9_offset : GoodIn wsX9_wide (wsV RX9 175 RX9 yX9_offset wsX9_offset) := goodIn_app (goodIn_of _ (by decide +kernel)) ggX9_wide_X9_offset
set_option maxRecDepth 20000 in
theorem ggX9_goes_X9_acted : GoodIn wsX9_goes wsX9_acted := goodIn_r _ [13, 14, 15, 24, 25, 26, 27, 28, 29, 30, 31, 32, 33, 34, 35, 36, 37, 38, 39, 40, 41, 42, 43, 44, 45, 46, 47, 48, 49, 50, 51, 52, 53] (by decide +kernel) (by decide +kernel)
set_option maxRecDepth 20000 in
theorem gX9_goes_X9_acted : GoodIn wsX9_goes (wsV RX9 163 RX9 yX9_acted wsX9_acted) := goodIn_app (goodIn_of _ (by decide +kernel)) ggX9_goes_X9_acted
set_option maxRecDepth 20000 in
theorem ggX9_goes_X9_manyOf : GoodIn wsX9_goes wsX9_manyOf := goodIn_r _ [19, 8, 24, 25, 26, 27, 28, 29, 30, 31, 32, 33, 34, 35, 36, 37, 38, 39, 40, 41, 42, 43, 44, 45, 46, 47, 48, 49, 50, 51, 52, 53] (by decide +kernel) (by decide +kernel)
set_option maxRecDepth 20000 in
theorem gX9_goes_X9_manyOf : GoodIn wsX9_goes (wsV RX9 87 RX9 yX9_manyOf wsX9_manyOf) := goodIn_app (goodIn_of _ (by decide +kernel)) ggX9_goes_X9_manyOf
set_option maxRecDepth 20000 in
theorem ggX9_goes_X9_turns : GoodIn wsX9_goes wsX9_turns := goodIn_r _ [23, 4, 24, 25, 26, 27, 28, 29, 30, 31, 32, 33, 34, 35, 36, 37, 38, 39, 40, 41, 42, 43, 44, 45, 46, 47, 48, 49, 50, 51, 52, 53] (by decide +kernel) (by decide +kernel)
set_option maxRecDepth 20000 in
theorem gX9_goes_X9_turns : GoodIn wsX9_goes (wsV RX9 178 RX9 yX9_turns wsX9_turns) := goodIn_app (goodIn_of _ (by decide +kernel)) ggX9_goes_X9_turns
set_option maxRecDepth 20000 in
theorem ggX9_reduces_X9_lead : GoodIn wsX9_reduces wsX9_lead := goodIn_r _ [9, 3, 10, 11, 12, 13, 14, 15, 16, 17, 18, 19, 20, 21, 22, 23, 24, 25, 26, 27, 28, 29, 30, 31, 32, 33, 34, 35, 36, 37, 38, 39] (by decide +kernel) (by decide +kernel)
set_option maxRecDepth 20000 in
theorem gX9_reduces_X9_lead : GoodIn wsX9_reduces (wsV RX9 184 RX9 yX9_lead wsX9_lead) := goodIn_app (goodIn_of _ (by decide +kernel)) ggX9_reduces_X9_lead
set_option maxRecDepth 20000 in
theorem ggX9_lays_X9_clearNow : GoodIn wsX9_lays wsX9_clearNow := goodIn_r _ [17, 6, 56, 57, 58, 59, 60, 61, 62, 63, 64, 65, 66, 67, 68, 69, 70, 71, 72, 73, 74, 75, 76, 77, 78, 79, 80, 81, 82, 83, 84, 85] (by decide +kernel) (by decide +kernel)
set_option maxRecDepth 20000 in
theorem gX9_lays_X9_clearNow : GoodIn wsX9_lays (wsV RX9 190 RX9 yX9_clearNow wsX9_clearNow) := goodIn_app (goodIn_of _ (by decide +kernel)) ggX9_lays_X9_clearNow
set_option maxRecDepth 20000 in
theorem ggX9_lays_X9_goes : GoodIn wsX9_lays wsX9_goes := goodIn_r _ [21, 12, 22, 23, 6, 4, 3, 24, 5, 25, 26, 27, 16, 28, 8, 29, 30, 31, 32, 33, 34, 35, 36, 37, 56, 57, 58, 59, 60, 61, 62, 63, 64, 65, 66, 67, 68, 69, 70, 71, 72, 73, 74, 75, 76, 77, 78, 79, 80, 81, 82, 83, 84, 85] (by decide +kernel) (by decide +kernel)
set_option maxRecDepth 20000 in
theorem gX9_lays_X9_goes : GoodIn wsX9_lays (wsV RX9 193 RX9 yX9_goes wsX9_goes) := goodIn_app (goodIn_of _ (by decide +kernel)) ggX9_lays_X9_goes
set_option maxRecDepth 20000 in
theorem ggX9_lays_X9_reduces : GoodIn wsX9_lays wsX9_reduces := goodIn_r _ [41, 1, 42, 6, 43, 44, 45, 46, 16, 47, 56, 57, 58, 59, 60, 61, 62, 63, 64, 65, 66, 67, 68, 69, 70, 71, 72, 73, 74, 75, 76, 77, 78, 79, 80, 81, 82, 83, 84, 85] (by decide +kernel) (by decide +kernel)
set_option maxRecDepth 20000 in
theorem gX9_lays_X9_reduces : GoodIn wsX9_lays (wsV RX9 197 RX9 yX9_reduces wsX9_reduces) := goodIn_app (goodIn_of _ (by decide +kernel)) ggX9_lays_X9_reduces
set_option maxRecDepth 20000 in
theorem ggX9_lays_X9_keeps : GoodIn wsX9_lays wsX9_keeps := goodIn_r _ [51, 43, 1, 6, 42, 56, 57, 58, 59, 60, 61, 62, 63, 64, 65, 66, 67, 68, 69, 70, 71, 72, 73, 74, 75, 76, 77, 78, 79, 80, 81, 82, 83, 84, 85] (by decide +kernel) (by decide +kernel)
set_option maxRecDepth 20000 in
theorem gX9_lays_X9_keeps : GoodIn wsX9_lays (wsV RX9 200 RX9 yX9_keeps wsX9_keeps) := goodIn_app (goodIn_of _ (by decide +kernel)) ggX9_lays_X9_keeps
set_option maxRecDepth 20000 in
theorem ggX9_lays_X9_comesGenerator : GoodIn wsX9_lays wsX9_comesGenerator := goodIn_r _ [55, 3, 4, 56, 57, 58, 59, 60, 61, 62, 63, 64, 65, 66, 67, 68, 69, 70, 71, 72, 73, 74, 75, 76, 77, 78, 79, 80, 81, 82, 83, 84, 85] (by decide +kernel) (by decide +kernel)
set_option maxRecDepth 20000 in
theorem gX9_lays_X9_comesGenerator : GoodIn wsX9_lays (wsV RX9 206 RX9 yX9_comesGenerator wsX9_comesGenerator) := goodIn_app (goodIn_of _ (by decide +kernel)) ggX9_lays_X9_comesGenerator
set_option maxRecDepth 20000 in
theorem ggX9_layAll_X9_lays : GoodIn wsX9_layAll wsX9_lays := goodIn_r _ [8, 9, 10, 2, 11, 12, 13, 14, 15, 3, 16, 17, 18, 19, 20, 21, 7, 22, 23, 24, 25, 26, 27, 28, 29, 30, 31, 32, 33, 34, 35, 36, 37, 38, 39, 40, 41, 42, 43, 44, 45, 46, 47, 48, 49, 50, 51, 52, 53, 54, 55, 56, 57, 58, 59, 60, 61, 62, 63, 64, 65, 66, 67, 68, 69, 70, 71, 72, 73, 74, 75, 76, 77, 78, 79, 80, 81, 82, 83, 84, 85, 86, 87, 88, 89, 90] (by decide +kernel) (by decide +kernel)
set_option maxRecDepth 20000 in
theorem gX9_layAll_X9_lays : GoodIn wsX9_layAll (wsV RX9 210 RX9 yX9_lays wsX9_lays) := goodIn_app (goodIn_of _ (by decide +kernel)) ggX9_layAll_X9_lays
set_option maxRecDepth 20000 in
theorem ggX9_isPlace_X9_in : GoodIn wsX9_isPlace wsX9_in := goodIn_r _ [4] (by decide +kernel) (by decide +kernel)
set_option maxRecDepth 20000 in
theorem gX9_isPlace_X9_in : GoodIn wsX9_isPlace (va_wsS RX9 122 yX9_in wsX9_in) := goodIn_app (goodIn_of _ (by decide +kernel)) ggX9_isPlace_X9_in
set_option maxRecDepth 20000 in
theorem ggX9_liveAt_X9_layAll : GoodIn wsX9_liveAt wsX9_layAll := goodIn_r _ [7, 8, 1, 9, 10, 11, 12, 6, 13, 14, 15, 2, 16, 17, 18, 19, 20, 21, 22, 23, 24, 25, 26, 27, 28, 29, 30, 31, 32, 33, 34, 35, 36, 37, 38, 39, 40, 41, 42, 43, 44, 45, 46, 47, 48, 49, 50, 51, 52, 53, 54, 55, 56, 57, 58, 59, 60, 61, 62, 63, 64, 65, 66, 67, 68, 69, 70, 71, 72, 73, 74, 75, 76, 77, 78, 79, 80, 81, 82, 83, 84, 85, 86, 87, 88, 89, 90, 91, 92, 93, 94] (by decide +kernel) (by decide +kernel)
set_option maxRecDepth 20000 in
theorem gX9_liveAt_X9_layAll : GoodIn wsX9_liveAt (wsV RX9 213 RX9 yX9_layAll wsX9_layAll) := goodIn_app (goodIn_of _ (by decide +kernel)) ggX9_liveAt_X9_layAll
set_option maxRecDepth 20000 in
theorem ggX9_live_X9_isPlace : GoodIn wsX9_live wsX9_isPlace := goodIn_r _ [4, 5, 6, 3, 7] (by decide +kernel) (by decide +kernel)
set_option maxRecDepth 20000 in
theorem gX9_live_X9_isPlace : GoodIn wsX9_live (va_wsS RX9 216 yX9_isPlace wsX9_isPlace) := goodIn_app (goodIn_of _ (by decide +kernel)) ggX9_live_X9_isPlace
set_option maxRecDepth 20000 in
theorem ggX9_live_X9_isSound : GoodIn wsX9_live wsX9_isSound := goodIn_r _ [11, 12, 13, 14, 3, 15, 16, 17, 18, 19, 20, 21, 22, 23, 24, 25, 26, 88, 89, 90, 91, 92, 93, 94, 95, 96, 97, 98, 99, 100, 101, 102, 103, 104, 105, 106, 107, 108, 109, 110, 111, 112, 113, 114, 115, 116, 117] (by decide +kernel) (by decide +kernel)
set_option maxRecDepth 20000 in
theorem gX9_live_X9_isSound : GoodIn wsX9_live (wsV RX9 219 RX9 yX9_isSound wsX9_isSound) := goodIn_app (goodIn_of _ (by decide +kernel)) ggX9_live_X9_isSound
set_option maxRecDepth 20000 in
theorem ggX9_live_X9_liveAt : GoodIn wsX9_live wsX9_liveAt := goodIn_r _ [30, 31, 32, 33, 34, 35, 3, 36, 37, 38, 39, 40, 41, 42, 43, 44, 45, 46, 47, 16, 48, 49, 50, 51, 52, 53, 54, 55, 56, 57, 58, 59, 60, 61, 19, 20, 21, 22, 23, 62, 63, 64, 65, 66, 67, 68, 69, 70, 71, 72, 73, 74, 75, 76, 77, 78, 79, 80, 81, 82, 83, 84, 85, 86, 87, 88, 89, 90, 91, 92, 93, 94, 95, 96, 97, 98, 99, 100, 101, 102, 103, 104, 105, 106, 107, 108, 109, 110, 111, 112, 113, 114, 115, 116, 117] (by decide +kernel) (by decide +kernel)
set_option maxRecDepth 20000 in
theorem gX9_live_X9_liveAt : GoodIn wsX9_live (wsV RX9 223 RX9 yX9_liveAt wsX9_liveAt) := goodIn_app (goodIn_of _ (by decide +kernel)) ggX9_live_X9_liveAt
set_option maxRecDepth 20000 in
theorem ggX9_joins_X9_in : GoodIn wsX9_joins wsX9_in := goodIn_r _ [8] (by decide +kernel) (by decide +kernel)
set_option maxRecDepth 20000 in
theorem gX9_joins_X9_in : GoodIn wsX9_joins (va_wsS RX9 122 yX9_in wsX9_in) := goodIn_app (goodIn_of _ (by decide +kernel)) ggX9_joins_X9_in
set_option maxRecDepth 20000 in
theorem ggX9_joins_X9_isSound : GoodIn wsX9_joins wsX9_isSound := goodIn_r _ [12, 13, 14, 15, 7, 16, 17, 18, 19, 20, 21, 22, 23, 24, 25, 26, 27, 90, 91, 92, 93, 94, 95, 96, 97, 98, 99, 100, 101, 102, 103, 104, 105, 106, 107, 108, 109, 110, 111, 112, 113, 114, 115, 116, 117, 118, 119] (by decide +kernel) (by decide +kernel)
set_option maxRecDepth 20000 in
theorem gX9_joins_X9_isSound : GoodIn wsX9_joins (wsV RX9 219 RX9 yX9_isSound wsX9_isSound) := goodIn_app (goodIn_of _ (by decide +kernel)) ggX9_joins_X9_isSound
set_option maxRecDepth 20000 in
theorem ggX9_joins_X9_layAll : GoodIn wsX9_joins wsX9_layAll := goodIn_r _ [31, 32, 1, 33, 34, 35, 36, 7, 37, 38, 39, 2, 40, 41, 42, 17, 43, 44, 4, 45, 46, 47, 48, 49, 50, 51, 52, 53, 54, 55, 20, 21, 22, 23, 24, 56, 57, 58, 59, 60, 61, 62, 63, 64, 65, 66, 67, 68, 69, 70, 71, 72, 73, 74, 75, 76, 77, 78, 79, 80, 81, 90, 91, 92, 93, 94, 95, 96, 97, 98, 99, 100, 101, 102, 103, 104, 105, 106, 107, 108, 109, 110, 111, 112, 113, 114, 115, 116, 117, 118, 119] (by decide +kernel) (by decide +kernel)
set_option maxRecDepth 20000 in
theorem gX9_joins_X9_layAll : GoodIn wsX9_joins (wsV RX9 213 RX9 yX9_layAll wsX9_layAll) := goodIn_app (goodIn_of _ (by decide +kernel)) ggX9_joins_X9_layAll
set_option maxRecDepth 20000 in
theorem ggX9_joins_X9_manyOf : GoodIn wsX9_joins wsX9_manyOf := goodIn_r _ [59, 40, 90, 91, 92, 93, 94, 95, 96, 97, 98, 99, 100, 101, 102, 103, 104, 105, 106, 107, 108, 109, 110, 111, 112, 113, 114, 115, 116, 117, 118, 119] (by decide +kernel) (by decide +kernel)
set_option maxRecDepth 20000 in
theorem gX9_joins_X9_manyOf : GoodIn wsX9_joins (wsV RX9 87 RX9 yX9_manyOf wsX9_manyOf) := goodIn_app (goodIn_of _ (by decide +kernel)) ggX9_joins_X9_manyOf
set_option maxRecDepth 20000 in
theorem ggX9_joins_X9_offset : GoodIn wsX9_joins wsX9_offset := goodIn_r _ [85, 2, 56, 57, 58, 7, 59, 40, 90, 91, 92, 93, 94, 95, 96, 97, 98, 99, 100, 101, 102, 103, 104, 105, 106, 107, 108, 109, 110, 111, 112, 113, 114, 115, 116, 117, 118, 119] (by decide +kernel) (by decide +kernel)
set_option maxRecDepth 20000 in
theorem gX9_joins_X9_offset : GoodIn wsX9_joins (wsV RX9 175 RX9 yX9_offset wsX9_offset) := goodIn_app (goodIn_of _ (by decide +kernel)) ggX9_joins_X9_offset
set_option maxRecDepth 20000 in
theorem ggX9_joins_X9_rankOf : GoodIn wsX9_joins wsX9_rankOf := goodIn_r _ [89] (by decide +kernel) (by decide +kernel)
set_option maxRecDepth 20000 in
theorem gX9_joins_X9_rankOf : GoodIn wsX9_joins (wsV RX9 226 RX9 yX9_rankOf wsX9_rankOf) := goodIn_app (goodIn_of _ (by decide +kernel)) ggX9_joins_X9_rankOf
set_option maxRecDepth 20000 in
theorem ggX9_balance_X9_in : GoodIn wsX9_balance wsX9_in := goodIn_r _ [6] (by decide +kernel) (by decide +kernel)
set_option maxRecDepth 20000 in
theorem gX9_balance_X9_in : GoodIn wsX9_balance (va_wsS RX9 122 yX9_in wsX9_in) := goodIn_app (goodIn_of _ (by decide +kernel)) ggX9_balance_X9_in
set_option maxRecDepth 20000 in
theorem ggX9_balance_X9_isSound : GoodIn wsX9_balance wsX9_isSound := goodIn_r _ [10, 11, 12, 13, 5, 14, 15, 16, 17, 18, 19, 20, 21, 22, 23, 24, 25, 98, 99, 100, 101, 102, 103, 104, 105, 106, 107, 108, 109, 110, 111, 112, 113, 114, 115, 116, 117, 118, 119, 120, 121, 122, 123, 124, 125, 126, 127] (by decide +kernel) (by decide +kernel)
set_option maxRecDepth 20000 in
theorem gX9_balance_X9_isSound : GoodIn wsX9_balance (wsV RX9 219 RX9 yX9_isSound wsX9_isSound) := goodIn_app (goodIn_of _ (by decide +kernel)) ggX9_balance_X9_isSound
set_option maxRecDepth 20000 in
theorem ggX9_balance_X9_layAll : GoodIn wsX9_balance wsX9_layAll := goodIn_r _ [29, 30, 31, 32, 33, 34, 35, 5, 36, 37, 38, 39, 40, 41, 42, 15, 43, 44, 45, 46, 47, 48, 49, 50, 51, 52, 53, 54, 55, 56, 18, 19, 20, 21, 22, 57, 58, 59, 60, 61, 62, 63, 64, 65, 66, 67, 68, 69, 70, 71, 72, 73, 74, 75, 76, 77, 78, 79, 80, 81, 82, 98, 99, 100, 101, 102, 103, 104, 105, 106, 107, 108, 109, 110, 111, 112, 113, 114, 115, 116, 117, 118, 119, 120, 121, 122, 123, 124, 125, 126, 127] (by decide +kernel) (by decide +kernel)
set_option maxRecDepth 20000 in
theorem gX9_balance_X9_layAll : GoodIn wsX9_balance (wsV RX9 213 RX9 yX9_layAll wsX9_layAll) := goodIn_app (goodIn_of _ (by decide +kernel)) ggX9_balance_X9_layAll
set_option maxRecDepth 20000 in
theorem ggX9_balance_X9_ofDegree : GoodIn wsX9_balance wsX9_ofDegree := goodIn_r _ [86, 15, 43, 98, 99, 100, 101, 102, 103, 104, 105, 106, 107, 108, 109, 110, 111, 112, 113, 114, 115, 116, 117, 118, 119, 120, 121, 122, 123, 124, 125, 126, 127] (by decide +kernel) (by decide +kernel)
set_option maxRecDepth 20000 in
theorem gX9_balance_X9_ofDegree : GoodIn wsX9_balance (wsV RX9 160 RX9 yX9_ofDegree wsX9_ofDegree) := goodIn_app (goodIn_of _ (by decide +kernel)) ggX9_balance_X9_ofDegree
set_option maxRecDepth 20000 in
theorem ggX9_balance_X9_ones : GoodIn wsX9_balance wsX9_ones := goodIn_r _ [89] (by decide +kernel) (by decide +kernel)
set_option maxRecDepth 20000 in
theorem gX9_balance_X9_ones : GoodIn wsX9_balance (va_wsS RX9 136 yX9_ones wsX9_ones) := goodIn_app (goodIn_of _ (by decide +kernel)) ggX9_balance_X9_ones
set_option maxRecDepth 20000 in
theorem ggX9_balance_X9_wide : GoodIn wsX9_balance wsX9_wide := goodIn_r _ [93, 31, 94, 95, 96, 5, 97, 39, 57, 58, 59, 60, 40, 98, 99, 100, 101, 102, 103, 104, 105, 106, 107, 108, 109, 110, 111, 112, 113, 114, 115, 116, 117, 118, 119, 120, 121, 122, 123, 124, 125, 126, 127] (by decide +kernel) (by decide +kernel)
set_option maxRecDepth 20000 in
theorem gX9_balance_X9_wide : GoodIn wsX9_balance (wsV RX9 232 RX9 yX9_wide wsX9_wide) := goodIn_app (goodIn_of _ (by decide +kernel)) ggX9_balance_X9_wide
set_option maxRecDepth 20000 in
theorem ggX9_rankAt_X9_isPlace : GoodIn wsX9_rankAt wsX9_isPlace := goodIn_r _ [5, 6, 7, 4, 8] (by decide +kernel) (by decide +kernel)
set_option maxRecDepth 20000 in
theorem gX9_rankAt_X9_isPlace : GoodIn wsX9_rankAt (va_wsS RX9 216 yX9_isPlace wsX9_isPlace) := goodIn_app (goodIn_of _ (by decide +kernel)) ggX9_rankAt_X9_isPlace
set_option maxRecDepth 20000 in
theorem ggX9_rankBoth_X9_rankAt : GoodIn wsX9_rankBoth wsX9_rankAt := goodIn_r _ [5, 6, 7, 8, 4, 9, 10, 11, 12, 13, 14, 15, 16, 17, 18, 19, 20, 21, 22, 23, 24, 25, 26, 27, 28, 29, 30, 31, 32, 33, 34, 35, 36, 37, 38, 39, 40, 41, 42] (by decide +kernel) (by decide +kernel)
set_option maxRecDepth 20000 in
theorem gX9_rankBoth_X9_rankAt : GoodIn wsX9_rankBoth (wsV RX9 235 RX9 yX9_rankAt wsX9_rankAt) := goodIn_app (goodIn_of _ (by decide +kernel)) ggX9_rankBoth_X9_rankAt
set_option maxRecDepth 20000 in
theorem ggX9_pageAt_X9_liveAt : GoodIn wsX9_pageAt wsX9_liveAt := goodIn_r _ [5, 6, 7, 8, 9, 10, 4, 11, 12, 13, 14, 15, 16, 17, 18, 19, 20, 21, 22, 23, 24, 25, 26, 27, 28, 29, 30, 31, 32, 33, 34, 35, 36, 37, 38, 39, 40, 41, 42, 43, 44, 45, 46, 47, 48, 49, 50, 51, 52, 53, 54, 55, 56, 57, 58, 59, 60, 61, 62, 63, 64, 65, 66, 67, 68, 84, 85, 86, 87, 88, 89, 90, 91, 92, 93, 94, 95, 96, 97, 98, 99, 100, 101, 102, 103, 104, 105, 106, 107, 108, 109, 110, 111, 112, 113] (by decide +kernel) (by decide +kernel)
set_option maxRecDepth 20000 in
theorem gX9_pageAt_X9_liveAt : GoodIn wsX9_pageAt (wsV RX9 223 RX9 yX9_liveAt wsX9_liveAt) := goodIn_app (goodIn_of _ (by decide +kernel)) ggX9_pageAt_X9_liveAt
set_option maxRecDepth 20000 in
theorem ggX9_pageAt_X9_rankBoth : GoodIn wsX9_pageAt wsX9_rankBoth := goodIn_r _ [72, 73, 74, 75, 4, 76, 77, 78, 79, 80, 81, 82, 83, 84, 85, 86, 87, 88, 89, 90, 91, 92, 93, 94, 95, 96, 97, 98, 99, 100, 101, 102, 103, 104, 105, 106, 107, 108, 109, 110, 111, 112, 113] (by decide +kernel) (by decide +kernel)
set_option maxRecDepth 20000 in
theorem gX9_pageAt_X9_rankBoth : GoodIn wsX9_pageAt (wsV RX9 238 RX9 yX9_rankBoth wsX9_rankBoth) := goodIn_app (goodIn_of _ (by decide +kernel)) ggX9_pageAt_X9_rankBoth
set_option maxRecDepth 20000 in
theorem ggX9_differ_X9_in : GoodIn wsX9_differ wsX9_in := goodIn_r _ [6] (by decide +kernel) (by decide +kernel)
set_option maxRecDepth 20000 in
theorem gX9_differ_X9_in : GoodIn wsX9_differ (va_wsS RX9 122 yX9_in wsX9_in) := goodIn_app (goodIn_of _ (by decide +kernel)) ggX9_differ_X9_in
set_option maxRecDepth 20000 in
theorem ggX9_differ_X9_isPlace : GoodIn wsX9_differ wsX9_isPlace := goodIn_r _ [9, 3, 4, 5, 6] (by decide +kernel) (by decide +kernel)
set_option maxRecDepth 20000 in
theorem gX9_differ_X9_isPlace : GoodIn wsX9_differ (va_wsS RX9 216 yX9_isPlace wsX9_isPlace) := goodIn_app (goodIn_of _ (by decide +kernel)) ggX9_differ_X9_isPlace
set_option maxRecDepth 20000 in
theorem ggX9_differ_X9_isSound : GoodIn wsX9_differ wsX9_isSound := goodIn_r _ [13, 14, 15, 16, 5, 17, 18, 19, 20, 21, 22, 23, 24, 25, 26, 27, 28, 102, 103, 104, 105, 106, 107, 108, 109, 110, 111, 112, 113, 114, 115, 116, 117, 118, 119, 120, 121, 122, 123, 124, 125, 126, 127, 128, 129, 130, 131] (by decide +kernel) (by decide +kernel)
set_option maxRecDepth 20000 in
theorem gX9_differ_X9_isSound : GoodIn wsX9_differ (wsV RX9 219 RX9 yX9_isSound wsX9_isSound) := goodIn_app (goodIn_of _ (by decide +kernel)) ggX9_differ_X9_isSound
set_option maxRecDepth 20000 in
theorem ggX9_differ_X9_rankAt : GoodIn wsX9_differ wsX9_rankAt := goodIn_r _ [32, 1, 7, 8, 5, 9, 3, 4, 6, 102, 103, 104, 105, 106, 107, 108, 109, 110, 111, 112, 113, 114, 115, 116, 117, 118, 119, 120, 121, 122, 123, 124, 125, 126, 127, 128, 129, 130, 131] (by decide +kernel) (by decide +kernel)
set_option maxRecDepth 20000 in
theorem gX9_differ_X9_rankAt : GoodIn wsX9_differ (wsV RX9 235 RX9 yX9_rankAt wsX9_rankAt) := goodIn_app (goodIn_of _ (by decide +kernel)) ggX9_differ_X9_rankAt
set_option maxRecDepth 20000 in
theorem ggX9_differ_X9_rankBoth : GoodIn wsX9_differ wsX9_rankBoth := goodIn_r _ [36, 29, 30, 31, 5, 32, 1, 7, 8, 9, 3, 4, 6, 102, 103, 104, 105, 106, 107, 108, 109, 110, 111, 112, 113, 114, 115, 116, 117, 118, 119, 120, 121, 122, 123, 124, 125, 126, 127, 128, 129, 130, 131] (by decide +kernel) (by decide +kernel)
set_option maxRecDepth 20000 in
theorem gX9_differ_X9_rankBoth : GoodIn wsX9_differ (wsV RX9 238 RX9 yX9_rankBoth wsX9_rankBoth) := goodIn_app (goodIn_of _ (by decide +kernel)) ggX9_differ_X9_rankBoth
set_option maxRecDepth 20000 in
theorem ggX9_differ_X9_pageAt : GoodIn wsX9_differ wsX9_pageAt := goodIn_r _ [40, 41, 42, 43, 5, 44, 45, 46, 47, 48, 49, 50, 51, 52, 53, 54, 55, 56, 57, 58, 59, 60, 61, 18, 62, 63, 64, 65, 66, 67, 68, 69, 70, 71, 72, 73, 74, 75, 21, 22, 23, 24, 25, 76, 77, 78, 79, 80, 81, 82, 83, 84, 85, 86, 87, 88, 89, 90, 91, 92, 93, 94, 95, 96, 97, 98, 99, 100, 101, 33, 34, 35, 36, 29, 30, 31, 32, 1, 7, 8, 9, 3, 4, 6, 102, 103, 104, 105, 106, 107, 108, 109, 110, 111, 112, 113, 114, 115, 116, 117, 118, 119, 120, 121, 122, 123, 124, 125, 126, 127, 128, 129, 130, 131] (by decide +kernel) (by decide +kernel)
set_option maxRecDepth 20000 in
theorem gX9_differ_X9_pageAt : GoodIn wsX9_differ (wsV RX9 241 RX9 yX9_pageAt wsX9_pageAt) := goodIn_app (goodIn_of _ (by decide +kernel)) ggX9_differ_X9_pageAt
set_option maxRecDepth 20000 in
theorem ggX9_page_X9_in : GoodIn wsX9_page wsX9_in := goodIn_r _ [4] (by decide +kernel) (by decide +kernel)
set_option maxRecDepth 20000 in
theorem gX9_page_X9_in : GoodIn wsX9_page (va_wsS RX9 122 yX9_in wsX9_in) := goodIn_app (goodIn_of _ (by decide +kernel)) ggX9_page_X9_in
set_option maxRecDepth 20000 in
theorem ggX9_page_X9_isPlace : GoodIn wsX9_page wsX9_isPlace := goodIn_r _ [7, 1, 2, 3, 4] (by decide +kernel) (by decide +kernel)
set_option maxRecDepth 20000 in
theorem gX9_page_X9_isPlace : GoodIn wsX9_page (va_wsS RX9 216 yX9_isPlace wsX9_isPlace) := goodIn_app (goodIn_of _ (by decide +kernel)) ggX9_page_X9_isPlace
set_option maxRecDepth 20000 in
theorem ggX9_page_X9_isSound : GoodIn wsX9_page wsX9_isSound := goodIn_r _ [11, 12, 13, 14, 3, 15, 16, 17, 18, 19, 20, 21, 22, 23, 24, 25, 26, 101, 102, 103, 104, 105, 106, 107, 108, 109, 110, 111, 112, 113, 114, 115, 116, 117, 118, 119, 120, 121, 122, 123, 124, 125, 126, 127, 128, 129, 130] (by decide +kernel) (by decide +kernel)
set_option maxRecDepth 20000 in
theorem gX9_page_X9_isSound : GoodIn wsX9_page (wsV RX9 219 RX9 yX9_isSound wsX9_isSound) := goodIn_app (goodIn_of _ (by decide +kernel)) ggX9_page_X9_isSound
set_option maxRecDepth 20000 in
theorem ggX9_page_X9_pageAt : GoodIn wsX9_page wsX9_pageAt := goodIn_r _ [30, 31, 32, 33, 3, 34, 35, 36, 37, 38, 39, 40, 41, 42, 43, 44, 45, 46, 47, 48, 49, 50, 51, 16, 52, 53, 54, 55, 56, 57, 58, 59, 60, 61, 62, 63, 64, 65, 19, 20, 21, 22, 23, 66, 67, 68, 69, 70, 71, 72, 73, 74, 75, 76, 77, 78, 79, 80, 81, 82, 83, 84, 85, 86, 87, 88, 89, 90, 91, 92, 93, 94, 95, 96, 97, 98, 99, 100, 5, 6, 7, 1, 2, 4, 101, 102, 103, 104, 105, 106, 107, 108, 109, 110, 111, 112, 113, 114, 115, 116, 117, 118, 119, 120, 121, 122, 123, 124, 125, 126, 127, 128, 129, 130] (by decide +kernel) (by decide +kernel)
set_option maxRecDepth 20000 in
theorem gX9_page_X9_pageAt : GoodIn wsX9_page (wsV RX9 241 RX9 yX9_pageAt wsX9_pageAt) := goodIn_app (goodIn_of _ (by decide +kernel)) ggX9_page_X9_pageAt
set_option maxRecDepth 20000 in
theorem ggX9_count_X9_wordDegree : GoodIn wsX9_count wsX9_wordDegree := goodIn_r _ [8, 1, 9, 10, 11, 12, 13, 14, 15, 16, 17, 18, 19, 20, 21, 22, 23, 24, 25, 26, 27, 28, 29, 30, 31, 32, 33, 34, 35, 36, 37, 38, 39] (by decide +kernel) (by decide +kernel)
set_option maxRecDepth 20000 in
theorem gX9_count_X9_wordDegree : GoodIn wsX9_count (wsV RX9 126 RX9 yX9_wordDegree wsX9_wordDegree) := goodIn_app (goodIn_of _ (by decide +kernel)) ggX9_count_X9_wordDegree
end
