section
-- ===== PART A: goes FIRST, ahead of the names: the tables' words, and 'selects' of the private methods out of them =====
/-- a private method of a class that the tables say can be made, by its rows of tables_1 -/
def lw_okq (q : MethodName × Nat) : Prop := (q.1.cls ≠ "java/lang/invoke/MethodHandle" ∧ q.1.cls ≠ "java/lang/invoke/VarHandle") ∧ Cond.instantiable q.1.cls q.2 ∈ tables_1 ∧ Cond.privateMethod q.1 ∈ tables_1 ∧ Cond.instanceMethod q.1 ∈ tables_1
theorem lw_p0 : lw_okq (⟨"FigureHeads$Tape", "takes", "(C)Z"⟩, 3) := ⟨⟨by decide +kernel, by decide +kernel⟩, List.mem_of_getElem? (i := 27) (by decide +kernel), List.mem_of_getElem? (i := 281) (by decide +kernel), List.mem_of_getElem? (i := 282) (by decide +kernel)⟩
theorem lw_p1 : lw_okq (⟨"FigureHeads$Tape", "here", "()I"⟩, 3) := ⟨⟨by decide +kernel, by decide +kernel⟩, List.mem_of_getElem? (i := 27) (by decide +kernel), List.mem_of_getElem? (i := 285) (by decide +kernel), List.mem_of_getElem? (i := 286) (by decide +kernel)⟩
theorem lw_p2 : lw_okq (⟨"FigureHeads$Tape", "readSea", "(LFigureHeads$Sea;)Z"⟩, 3) := ⟨⟨by decide +kernel, by decide +kernel⟩, List.mem_of_getElem? (i := 27) (by decide +kernel), List.mem_of_getElem? (i := 289) (by decide +kernel), List.mem_of_getElem? (i := 290) (by decide +kernel)⟩
theorem lw_p3 : lw_okq (⟨"FigureHeads$Tape", "readRow", "(LFigureHeads$Sea;I)Z"⟩, 3) := ⟨⟨by decide +kernel, by decide +kernel⟩, List.mem_of_getElem? (i := 27) (by decide +kernel), List.mem_of_getElem? (i := 293) (by decide +kernel), List.mem_of_getElem? (i := 294) (by decide +kernel)⟩
theorem lw_p4 : lw_okq (⟨"FigureHeads$Tape", "oneOf", "(Ljava/lang/String;)I"⟩, 3) := ⟨⟨by decide +kernel, by decide +kernel⟩, List.mem_of_getElem? (i := 27) (by decide +kernel), List.mem_of_getElem? (i := 298) (by decide +kernel), List.mem_of_getElem? (i := 299) (by decide +kernel)⟩
theorem lw_p5 : lw_okq (⟨"FigureHeads$Tape", "readShips", "(LFigureHeads$Fleet;)Z"⟩, 3) := ⟨⟨by decide +kernel, by decide +kernel⟩, List.mem_of_getElem? (i := 27) (by decide +kernel), List.mem_of_getElem? (i := 391) (by decide +kernel), List.mem_of_getElem? (i := 392) (by decide +kernel)⟩
theorem lw_p6 : lw_okq (⟨"FigureHeads$Tape", "readShip", "(LFigureHeads$Fleet;I)Z"⟩, 3) := ⟨⟨by decide +kernel, by decide +kernel⟩, List.mem_of_getElem? (i := 27) (by decide +kernel), List.mem_of_getElem? (i := 395) (by decide +kernel), List.mem_of_getElem? (i := 396) (by decide +kernel)⟩
theorem lw_p7 : lw_okq (⟨"FigureHeads$Tape", "readCell", "(LFigureHeads$Fleet;I)Z"⟩, 3) := ⟨⟨by decide +kernel, by decide +kernel⟩, List.mem_of_getElem? (i := 27) (by decide +kernel), List.mem_of_getElem? (i := 400) (by decide +kernel), List.mem_of_getElem? (i := 401) (by decide +kernel)⟩
theorem lw_p8 : lw_okq (⟨"FigureHeads$Tape", "figureBelow", "(I)I"⟩, 3) := ⟨⟨by decide +kernel, by decide +kernel⟩, List.mem_of_getElem? (i := 27) (by decide +kernel), List.mem_of_getElem? (i := 404) (by decide +kernel), List.mem_of_getElem? (i := 405) (by decide +kernel)⟩
theorem lw_p9 : lw_okq (⟨"FigureHeads$Tape", "readCredit", "(LFigureHeads$Fleet;)Z"⟩, 3) := ⟨⟨by decide +kernel, by decide +kernel⟩, List.mem_of_getElem? (i := 27) (by decide +kernel), List.mem_of_getElem? (i := 417) (by decide +kernel), List.mem_of_getElem? (i := 418) (by decide +kernel)⟩
theorem lw_p10 : lw_okq (⟨"FigureHeads", "setOut", "(I)LFigureHeads$Voyage;"⟩, 9) := ⟨⟨by decide +kernel, by decide +kernel⟩, List.mem_of_getElem? (i := 19) (by decide +kernel), List.mem_of_getElem? (i := 491) (by decide +kernel), List.mem_of_getElem? (i := 492) (by decide +kernel)⟩
theorem lw_p11 : lw_okq (⟨"FigureHeads$Voyage", "beWormed", "()V"⟩, 6) := ⟨⟨by decide +kernel, by decide +kernel⟩, List.mem_of_getElem? (i := 127) (by decide +kernel), List.mem_of_getElem? (i := 534) (by decide +kernel), List.mem_of_getElem? (i := 535) (by decide +kernel)⟩
theorem lw_p12 : lw_okq (⟨"FigureHeads$Voyage", "settle", "(IZ)V"⟩, 6) := ⟨⟨by decide +kernel, by decide +kernel⟩, List.mem_of_getElem? (i := 127) (by decide +kernel), List.mem_of_getElem? (i := 539) (by decide +kernel), List.mem_of_getElem? (i := 540) (by decide +kernel)⟩
theorem lw_p13 : lw_okq (⟨"FigureHeads", "arrive", "(ILFigureHeads$Voyage;)I"⟩, 9) := ⟨⟨by decide +kernel, by decide +kernel⟩, List.mem_of_getElem? (i := 19) (by decide +kernel), List.mem_of_getElem? (i := 544) (by decide +kernel), List.mem_of_getElem? (i := 545) (by decide +kernel)⟩
theorem lw_p14 : lw_okq (⟨"FigureHeads$Voyage", "beTorn", "(II)V"⟩, 6) := ⟨⟨by decide +kernel, by decide +kernel⟩, List.mem_of_getElem? (i := 127) (by decide +kernel), List.mem_of_getElem? (i := 560) (by decide +kernel), List.mem_of_getElem? (i := 561) (by decide +kernel)⟩
theorem lw_p15 : lw_okq (⟨"FigureHeads$Chart", "mark", "(IIII)V"⟩, 6) := ⟨⟨by decide +kernel, by decide +kernel⟩, List.mem_of_getElem? (i := 176) (by decide +kernel), List.mem_of_getElem? (i := 618) (by decide +kernel), List.mem_of_getElem? (i := 619) (by decide +kernel)⟩
def lw_privs_1 : List (MethodName × Nat) := [(⟨"FigureHeads$Tape", "takes", "(C)Z"⟩, 3), (⟨"FigureHeads$Tape", "here", "()I"⟩, 3), (⟨"FigureHeads$Tape", "readSea", "(LFigureHeads$Sea;)Z"⟩, 3), (⟨"FigureHeads$Tape", "readRow", "(LFigureHeads$Sea;I)Z"⟩, 3), (⟨"FigureHeads$Tape", "oneOf", "(Ljava/lang/String;)I"⟩, 3), (⟨"FigureHeads$Tape", "readShips", "(LFigureHeads$Fleet;)Z"⟩, 3), (⟨"FigureHeads$Tape", "readShip", "(LFigureHeads$Fleet;I)Z"⟩, 3), (⟨"FigureHeads$Tape", "readCell", "(LFigureHeads$Fleet;I)Z"⟩, 3), (⟨"FigureHeads$Tape", "figureBelow", "(I)I"⟩, 3), (⟨"FigureHeads$Tape", "readCredit", "(LFigureHeads$Fleet;)Z"⟩, 3), (⟨"FigureHeads", "setOut", "(I)LFigureHeads$Voyage;"⟩, 9), (⟨"FigureHeads$Voyage", "beWormed", "()V"⟩, 6), (⟨"FigureHeads$Voyage", "settle", "(IZ)V"⟩, 6), (⟨"FigureHeads", "arrive", "(ILFigureHeads$Voyage;)I"⟩, 9), (⟨"FigureHeads$Voyage", "beTorn", "(II)V"⟩, 6), (⟨"FigureHeads$Chart", "mark", "(IIII)V"⟩, 6)]
theorem lw_r1 : ∀ q ∈ lw_privs_1, lw_okq q := List.forall_mem_cons.mpr ⟨lw_p0, List.forall_mem_cons.mpr ⟨lw_p1, List.forall_mem_cons.mpr ⟨lw_p2, List.forall_mem_cons.mpr ⟨lw_p3, List.forall_mem_cons.mpr ⟨lw_p4, List.forall_mem_cons.mpr ⟨lw_p5, List.forall_mem_cons.mpr ⟨lw_p6, List.forall_mem_cons.mpr ⟨lw_p7, List.forall_mem_cons.mpr ⟨lw_p8, List.forall_mem_cons.mpr ⟨lw_p9, List.forall_mem_cons.mpr ⟨lw_p10, List.forall_mem_cons.mpr ⟨lw_p11, List.forall_mem_cons.mpr ⟨lw_p12, List.forall_mem_cons.mpr ⟨lw_p13, List.forall_mem_cons.mpr ⟨lw_p14, List.forall_mem_cons.mpr ⟨lw_p15, fun _ h => absurd h List.not_mem_nil⟩⟩⟩⟩⟩⟩⟩⟩⟩⟩⟩⟩⟩⟩⟩⟩
theorem lw_p16 : lw_okq (⟨"FigureHeads$Chart", "spread", "(IIZ)V"⟩, 6) := ⟨⟨by decide +kernel, by decide +kernel⟩, List.mem_of_getElem? (i := 176) (by decide +kernel), List.mem_of_getElem? (i := 622) (by decide +kernel), List.mem_of_getElem? (i := 623) (by decide +kernel)⟩
theorem lw_p17 : lw_okq (⟨"FigureHeads", "mostCrewed", "(II)I"⟩, 9) := ⟨⟨by decide +kernel, by decide +kernel⟩, List.mem_of_getElem? (i := 19) (by decide +kernel), List.mem_of_getElem? (i := 636) (by decide +kernel), List.mem_of_getElem? (i := 637) (by decide +kernel)⟩
theorem lw_p18 : lw_okq (⟨"FigureHeads", "mayTake", "(III)Z"⟩, 9) := ⟨⟨by decide +kernel, by decide +kernel⟩, List.mem_of_getElem? (i := 19) (by decide +kernel), List.mem_of_getElem? (i := 640) (by decide +kernel), List.mem_of_getElem? (i := 641) (by decide +kernel)⟩
theorem lw_p19 : lw_okq (⟨"FigureHeads", "crewOf", "(I)I"⟩, 9) := ⟨⟨by decide +kernel, by decide +kernel⟩, List.mem_of_getElem? (i := 19) (by decide +kernel), List.mem_of_getElem? (i := 645) (by decide +kernel), List.mem_of_getElem? (i := 646) (by decide +kernel)⟩
theorem lw_p20 : lw_okq (⟨"FigureHeads", "firstTeller", "(II)I"⟩, 9) := ⟨⟨by decide +kernel, by decide +kernel⟩, List.mem_of_getElem? (i := 19) (by decide +kernel), List.mem_of_getElem? (i := 649) (by decide +kernel), List.mem_of_getElem? (i := 650) (by decide +kernel)⟩
theorem lw_p21 : lw_okq (⟨"FigureHeads$Fleet", "nearAny", "(II)I"⟩, 8) := ⟨⟨by decide +kernel, by decide +kernel⟩, List.mem_of_getElem? (i := 46) (by decide +kernel), List.mem_of_getElem? (i := 668) (by decide +kernel), List.mem_of_getElem? (i := 669) (by decide +kernel)⟩
theorem lw_p22 : lw_okq (⟨"FigureHeads", "talked", "(IIII)I"⟩, 9) := ⟨⟨by decide +kernel, by decide +kernel⟩, List.mem_of_getElem? (i := 19) (by decide +kernel), List.mem_of_getElem? (i := 697) (by decide +kernel), List.mem_of_getElem? (i := 698) (by decide +kernel)⟩
theorem lw_p23 : lw_okq (⟨"FigureHeads", "canGoDeeper", "(II)Z"⟩, 9) := ⟨⟨by decide +kernel, by decide +kernel⟩, List.mem_of_getElem? (i := 19) (by decide +kernel), List.mem_of_getElem? (i := 701) (by decide +kernel), List.mem_of_getElem? (i := 702) (by decide +kernel)⟩
theorem lw_p24 : lw_okq (⟨"FigureHeads", "nextVoyage", "(I)LFigureHeads$Voyage;"⟩, 9) := ⟨⟨by decide +kernel, by decide +kernel⟩, List.mem_of_getElem? (i := 19) (by decide +kernel), List.mem_of_getElem? (i := 711) (by decide +kernel), List.mem_of_getElem? (i := 712) (by decide +kernel)⟩
theorem lw_p25 : lw_okq (⟨"FigureHeads", "passDecade", "(J)V"⟩, 9) := ⟨⟨by decide +kernel, by decide +kernel⟩, List.mem_of_getElem? (i := 19) (by decide +kernel), List.mem_of_getElem? (i := 729) (by decide +kernel), List.mem_of_getElem? (i := 730) (by decide +kernel)⟩
theorem lw_p26 : lw_okq (⟨"FigureHeads", "refusalOf", "(IIII)I"⟩, 9) := ⟨⟨by decide +kernel, by decide +kernel⟩, List.mem_of_getElem? (i := 19) (by decide +kernel), List.mem_of_getElem? (i := 772) (by decide +kernel), List.mem_of_getElem? (i := 773) (by decide +kernel)⟩
theorem lw_p27 : lw_okq (⟨"FigureHeads$Sheet", "narrowed", "(J)J"⟩, 4) := ⟨⟨by decide +kernel, by decide +kernel⟩, List.mem_of_getElem? (i := 204) (by decide +kernel), List.mem_of_getElem? (i := 784) (by decide +kernel), List.mem_of_getElem? (i := 785) (by decide +kernel)⟩
theorem lw_p28 : lw_okq (⟨"FigureHeads", "canTell", "(IIII)Z"⟩, 9) := ⟨⟨by decide +kernel, by decide +kernel⟩, List.mem_of_getElem? (i := 19) (by decide +kernel), List.mem_of_getElem? (i := 797) (by decide +kernel), List.mem_of_getElem? (i := 798) (by decide +kernel)⟩
theorem lw_p29 : lw_okq (⟨"FigureHeads", "countRows", "(IILFigureHeads$Sheet;II)I"⟩, 9) := ⟨⟨by decide +kernel, by decide +kernel⟩, List.mem_of_getElem? (i := 19) (by decide +kernel), List.mem_of_getElem? (i := 810) (by decide +kernel), List.mem_of_getElem? (i := 811) (by decide +kernel)⟩
theorem lw_p30 : lw_okq (⟨"FigureHeads", "leadsTo", "(IIIJ)Z"⟩, 9) := ⟨⟨by decide +kernel, by decide +kernel⟩, List.mem_of_getElem? (i := 19) (by decide +kernel), List.mem_of_getElem? (i := 814) (by decide +kernel), List.mem_of_getElem? (i := 815) (by decide +kernel)⟩
theorem lw_p31 : lw_okq (⟨"FigureHeads", "firstRow", "(IIILFigureHeads$Sheet;II)I"⟩, 9) := ⟨⟨by decide +kernel, by decide +kernel⟩, List.mem_of_getElem? (i := 19) (by decide +kernel), List.mem_of_getElem? (i := 818) (by decide +kernel), List.mem_of_getElem? (i := 819) (by decide +kernel)⟩
def lw_privs_2 : List (MethodName × Nat) := [(⟨"FigureHeads$Chart", "spread", "(IIZ)V"⟩, 6), (⟨"FigureHeads", "mostCrewed", "(II)I"⟩, 9), (⟨"FigureHeads", "mayTake", "(III)Z"⟩, 9), (⟨"FigureHeads", "crewOf", "(I)I"⟩, 9), (⟨"FigureHeads", "firstTeller", "(II)I"⟩, 9), (⟨"FigureHeads$Fleet", "nearAny", "(II)I"⟩, 8), (⟨"FigureHeads", "talked", "(IIII)I"⟩, 9), (⟨"FigureHeads", "canGoDeeper", "(II)Z"⟩, 9), (⟨"FigureHeads", "nextVoyage", "(I)LFigureHeads$Voyage;"⟩, 9), (⟨"FigureHeads", "passDecade", "(J)V"⟩, 9), (⟨"FigureHeads", "refusalOf", "(IIII)I"⟩, 9), (⟨"FigureHeads$Sheet", "narrowed", "(J)J"⟩, 4), (⟨"FigureHeads", "canTell", "(IIII)Z"⟩, 9), (⟨"FigureHeads", "countRows", "(IILFigureHeads$Sheet;II)I"⟩, 9), (⟨"FigureHeads", "leadsTo", "(IIIJ)Z"⟩, 9), (⟨"FigureHeads", "firstRow", "(IIILFigureHeads$Sheet;II)I"⟩, 9)]
theorem lw_r2 : ∀ q ∈ lw_privs_2, lw_okq q := List.forall_mem_cons.mpr ⟨lw_p16, List.forall_mem_cons.mpr ⟨lw_p17, List.forall_mem_cons.mpr ⟨lw_p18, List.forall_mem_cons.mpr ⟨lw_p19, List.forall_mem_cons.mpr ⟨lw_p20, List.forall_mem_cons.mpr ⟨lw_p21, List.forall_mem_cons.mpr ⟨lw_p22, List.forall_mem_cons.mpr ⟨lw_p23, List.forall_mem_cons.mpr ⟨lw_p24, List.forall_mem_cons.mpr ⟨lw_p25, List.forall_mem_cons.mpr ⟨lw_p26, List.forall_mem_cons.mpr ⟨lw_p27, List.forall_mem_cons.mpr ⟨lw_p28, List.forall_mem_cons.mpr ⟨lw_p29, List.forall_mem_cons.mpr ⟨lw_p30, List.forall_mem_cons.mpr ⟨lw_p31, fun _ h => absurd h List.not_mem_nil⟩⟩⟩⟩⟩⟩⟩⟩⟩⟩⟩⟩⟩⟩⟩⟩
theorem lw_p32 : lw_okq (⟨"FigureHeads", "fittingKinds", "(IILFigureHeads$Sheet;II)I"⟩, 9) := ⟨⟨by decide +kernel, by decide +kernel⟩, List.mem_of_getElem? (i := 19) (by decide +kernel), List.mem_of_getElem? (i := 826) (by decide +kernel), List.mem_of_getElem? (i := 827) (by decide +kernel)⟩
theorem lw_p33 : lw_okq (⟨"FigureHeads", "wordToTry", "(II)I"⟩, 9) := ⟨⟨by decide +kernel, by decide +kernel⟩, List.mem_of_getElem? (i := 19) (by decide +kernel), List.mem_of_getElem? (i := 835) (by decide +kernel), List.mem_of_getElem? (i := 836) (by decide +kernel)⟩
theorem lw_p34 : lw_okq (⟨"FigureHeads", "greatestPart", "(III)I"⟩, 9) := ⟨⟨by decide +kernel, by decide +kernel⟩, List.mem_of_getElem? (i := 19) (by decide +kernel), List.mem_of_getElem? (i := 839) (by decide +kernel), List.mem_of_getElem? (i := 840) (by decide +kernel)⟩
theorem lw_p35 : lw_okq (⟨"FigureHeads", "cellBehind", "(LFigureHeads$Voyage;II)I"⟩, 9) := ⟨⟨by decide +kernel, by decide +kernel⟩, List.mem_of_getElem? (i := 19) (by decide +kernel), List.mem_of_getElem? (i := 843) (by decide +kernel), List.mem_of_getElem? (i := 844) (by decide +kernel)⟩
theorem lw_p36 : lw_okq (⟨"FigureHeads", "partAlike", "(II)I"⟩, 9) := ⟨⟨by decide +kernel, by decide +kernel⟩, List.mem_of_getElem? (i := 19) (by decide +kernel), List.mem_of_getElem? (i := 847) (by decide +kernel), List.mem_of_getElem? (i := 848) (by decide +kernel)⟩
theorem lw_p37 : lw_okq (⟨"FigureHeads", "fogged", "(IILFigureHeads$Sheet;III)I"⟩, 9) := ⟨⟨by decide +kernel, by decide +kernel⟩, List.mem_of_getElem? (i := 19) (by decide +kernel), List.mem_of_getElem? (i := 855) (by decide +kernel), List.mem_of_getElem? (i := 856) (by decide +kernel)⟩
theorem lw_p38 : lw_okq (⟨"FigureHeadsModel", "takesAll", "()Z"⟩, 14) := ⟨⟨by decide +kernel, by decide +kernel⟩, List.mem_of_getElem? (i := 874) (by decide +kernel), List.mem_of_getElem? (i := 935) (by decide +kernel), List.mem_of_getElem? (i := 936) (by decide +kernel)⟩
theorem lw_p39 : lw_okq (⟨"FigureHeadsModel", "takes", "(I)Z"⟩, 14) := ⟨⟨by decide +kernel, by decide +kernel⟩, List.mem_of_getElem? (i := 874) (by decide +kernel), List.mem_of_getElem? (i := 939) (by decide +kernel), List.mem_of_getElem? (i := 940) (by decide +kernel)⟩
theorem lw_p40 : lw_okq (⟨"FigureHeadsModel", "here", "()I"⟩, 14) := ⟨⟨by decide +kernel, by decide +kernel⟩, List.mem_of_getElem? (i := 874) (by decide +kernel), List.mem_of_getElem? (i := 943) (by decide +kernel), List.mem_of_getElem? (i := 944) (by decide +kernel)⟩
theorem lw_p41 : lw_okq (⟨"FigureHeadsModel", "takesRow", "()Z"⟩, 14) := ⟨⟨by decide +kernel, by decide +kernel⟩, List.mem_of_getElem? (i := 874) (by decide +kernel), List.mem_of_getElem? (i := 947) (by decide +kernel), List.mem_of_getElem? (i := 948) (by decide +kernel)⟩
theorem lw_p42 : lw_okq (⟨"FigureHeadsModel", "takesShip", "()Z"⟩, 14) := ⟨⟨by decide +kernel, by decide +kernel⟩, List.mem_of_getElem? (i := 874) (by decide +kernel), List.mem_of_getElem? (i := 954) (by decide +kernel), List.mem_of_getElem? (i := 955) (by decide +kernel)⟩
theorem lw_p43 : lw_okq (⟨"FigureHeadsModel", "figure", "(I)I"⟩, 14) := ⟨⟨by decide +kernel, by decide +kernel⟩, List.mem_of_getElem? (i := 874) (by decide +kernel), List.mem_of_getElem? (i := 961) (by decide +kernel), List.mem_of_getElem? (i := 962) (by decide +kernel)⟩
theorem lw_p44 : lw_okq (⟨"FigureHeadsModel", "isCellIn", "(III)Z"⟩, 14) := ⟨⟨by decide +kernel, by decide +kernel⟩, List.mem_of_getElem? (i := 874) (by decide +kernel), List.mem_of_getElem? (i := 966) (by decide +kernel), List.mem_of_getElem? (i := 967) (by decide +kernel)⟩
theorem lw_p45 : lw_okq (⟨"FigureHeadsModel", "bring", "(III)V"⟩, 14) := ⟨⟨by decide +kernel, by decide +kernel⟩, List.mem_of_getElem? (i := 874) (by decide +kernel), List.mem_of_getElem? (i := 973) (by decide +kernel), List.mem_of_getElem? (i := 974) (by decide +kernel)⟩
theorem lw_p46 : lw_okq (⟨"FigureHeadsModel", "isShip", "(I)Z"⟩, 14) := ⟨⟨by decide +kernel, by decide +kernel⟩, List.mem_of_getElem? (i := 874) (by decide +kernel), List.mem_of_getElem? (i := 981) (by decide +kernel), List.mem_of_getElem? (i := 982) (by decide +kernel)⟩
theorem lw_p47 : lw_okq (⟨"FigureHeadsModel", "isCell", "(I)Z"⟩, 14) := ⟨⟨by decide +kernel, by decide +kernel⟩, List.mem_of_getElem? (i := 874) (by decide +kernel), List.mem_of_getElem? (i := 997) (by decide +kernel), List.mem_of_getElem? (i := 998) (by decide +kernel)⟩
def lw_privs_3 : List (MethodName × Nat) := [(⟨"FigureHeads", "fittingKinds", "(IILFigureHeads$Sheet;II)I"⟩, 9), (⟨"FigureHeads", "wordToTry", "(II)I"⟩, 9), (⟨"FigureHeads", "greatestPart", "(III)I"⟩, 9), (⟨"FigureHeads", "cellBehind", "(LFigureHeads$Voyage;II)I"⟩, 9), (⟨"FigureHeads", "partAlike", "(II)I"⟩, 9), (⟨"FigureHeads", "fogged", "(IILFigureHeads$Sheet;III)I"⟩, 9), (⟨"FigureHeadsModel", "takesAll", "()Z"⟩, 14), (⟨"FigureHeadsModel", "takes", "(I)Z"⟩, 14), (⟨"FigureHeadsModel", "here", "()I"⟩, 14), (⟨"FigureHeadsModel", "takesRow", "()Z"⟩, 14), (⟨"FigureHeadsModel", "takesShip", "()Z"⟩, 14), (⟨"FigureHeadsModel", "figure", "(I)I"⟩, 14), (⟨"FigureHeadsModel", "isCellIn", "(III)Z"⟩, 14), (⟨"FigureHeadsModel", "bring", "(III)V"⟩, 14), (⟨"FigureHeadsModel", "isShip", "(I)Z"⟩, 14), (⟨"FigureHeadsModel", "isCell", "(I)Z"⟩, 14)]
theorem lw_r3 : ∀ q ∈ lw_privs_3, lw_okq q := List.forall_mem_cons.mpr ⟨lw_p32, List.forall_mem_cons.mpr ⟨lw_p33, List.forall_mem_cons.mpr ⟨lw_p34, List.forall_mem_cons.mpr ⟨lw_p35, List.forall_mem_cons.mpr ⟨lw_p36, List.forall_mem_cons.mpr ⟨lw_p37, List.forall_mem_cons.mpr ⟨lw_p38, List.forall_mem_cons.mpr ⟨lw_p39, List.forall_mem_cons.mpr ⟨lw_p40, List.forall_mem_cons.mpr ⟨lw_p41, List.forall_mem_cons.mpr ⟨lw_p42, List.forall_mem_cons.mpr ⟨lw_p43, List.forall_mem_cons.mpr ⟨lw_p44, List.forall_mem_cons.mpr ⟨lw_p45, List.forall_mem_cons.mpr ⟨lw_p46, List.forall_mem_cons.mpr ⟨lw_p47, fun _ h => absurd h List.not_mem_nil⟩⟩⟩⟩⟩⟩⟩⟩⟩⟩⟩⟩⟩⟩⟩⟩
theorem lw_p48 : lw_okq (⟨"FigureHeadsModel", "isFleet", "()Z"⟩, 14) := ⟨⟨by decide +kernel, by decide +kernel⟩, List.mem_of_getElem? (i := 874) (by decide +kernel), List.mem_of_getElem? (i := 1005) (by decide +kernel), List.mem_of_getElem? (i := 1006) (by decide +kernel)⟩
theorem lw_p49 : lw_okq (⟨"FigureHeadsModel", "doubtIn", "(III)I"⟩, 14) := ⟨⟨by decide +kernel, by decide +kernel⟩, List.mem_of_getElem? (i := 874) (by decide +kernel), List.mem_of_getElem? (i := 1017) (by decide +kernel), List.mem_of_getElem? (i := 1018) (by decide +kernel)⟩
theorem lw_p50 : lw_okq (⟨"FigureHeadsModel", "oak", "(II)I"⟩, 14) := ⟨⟨by decide +kernel, by decide +kernel⟩, List.mem_of_getElem? (i := 874) (by decide +kernel), List.mem_of_getElem? (i := 1021) (by decide +kernel), List.mem_of_getElem? (i := 1022) (by decide +kernel)⟩
theorem lw_p51 : lw_okq (⟨"FigureHeadsModel", "minds", "()V"⟩, 14) := ⟨⟨by decide +kernel, by decide +kernel⟩, List.mem_of_getElem? (i := 874) (by decide +kernel), List.mem_of_getElem? (i := 1033) (by decide +kernel), List.mem_of_getElem? (i := 1034) (by decide +kernel)⟩
theorem lw_p52 : lw_okq (⟨"FigureHeadsModel", "says", "(IIII)V"⟩, 14) := ⟨⟨by decide +kernel, by decide +kernel⟩, List.mem_of_getElem? (i := 874) (by decide +kernel), List.mem_of_getElem? (i := 1037) (by decide +kernel), List.mem_of_getElem? (i := 1038) (by decide +kernel)⟩
theorem lw_p53 : lw_okq (⟨"FigureHeadsModel", "believesIn", "(III)Z"⟩, 14) := ⟨⟨by decide +kernel, by decide +kernel⟩, List.mem_of_getElem? (i := 874) (by decide +kernel), List.mem_of_getElem? (i := 1041) (by decide +kernel), List.mem_of_getElem? (i := 1042) (by decide +kernel)⟩
theorem lw_p54 : lw_okq (⟨"FigureHeadsModel", "turned", "(III)I"⟩, 14) := ⟨⟨by decide +kernel, by decide +kernel⟩, List.mem_of_getElem? (i := 874) (by decide +kernel), List.mem_of_getElem? (i := 1045) (by decide +kernel), List.mem_of_getElem? (i := 1046) (by decide +kernel)⟩
theorem lw_p55 : lw_okq (⟨"FigureHeadsModel", "goes", "(II)Z"⟩, 14) := ⟨⟨by decide +kernel, by decide +kernel⟩, List.mem_of_getElem? (i := 874) (by decide +kernel), List.mem_of_getElem? (i := 1049) (by decide +kernel), List.mem_of_getElem? (i := 1050) (by decide +kernel)⟩
theorem lw_p56 : lw_okq (⟨"FigureHeadsModel", "nextOf", "(III)I"⟩, 14) := ⟨⟨by decide +kernel, by decide +kernel⟩, List.mem_of_getElem? (i := 874) (by decide +kernel), List.mem_of_getElem? (i := 1053) (by decide +kernel), List.mem_of_getElem? (i := 1054) (by decide +kernel)⟩
theorem lw_p57 : lw_okq (⟨"FigureHeadsModel", "wormed", "(II)V"⟩, 14) := ⟨⟨by decide +kernel, by decide +kernel⟩, List.mem_of_getElem? (i := 874) (by decide +kernel), List.mem_of_getElem? (i := 1057) (by decide +kernel), List.mem_of_getElem? (i := 1058) (by decide +kernel)⟩
theorem lw_p58 : lw_okq (⟨"FigureHeadsModel", "credits", "(III)V"⟩, 14) := ⟨⟨by decide +kernel, by decide +kernel⟩, List.mem_of_getElem? (i := 874) (by decide +kernel), List.mem_of_getElem? (i := 1061) (by decide +kernel), List.mem_of_getElem? (i := 1062) (by decide +kernel)⟩
theorem lw_p59 : lw_okq (⟨"FigureHeadsModel", "storms", "(IIIIII)V"⟩, 14) := ⟨⟨by decide +kernel, by decide +kernel⟩, List.mem_of_getElem? (i := 874) (by decide +kernel), List.mem_of_getElem? (i := 1069) (by decide +kernel), List.mem_of_getElem? (i := 1070) (by decide +kernel)⟩
theorem lw_p60 : lw_okq (⟨"FigureHeadsModel", "laysLeft", "(IZI)V"⟩, 14) := ⟨⟨by decide +kernel, by decide +kernel⟩, List.mem_of_getElem? (i := 874) (by decide +kernel), List.mem_of_getElem? (i := 1109) (by decide +kernel), List.mem_of_getElem? (i := 1110) (by decide +kernel)⟩
theorem lw_p61 : lw_okq (⟨"FigureHeadsModel", "leads", "(IZII)I"⟩, 14) := ⟨⟨by decide +kernel, by decide +kernel⟩, List.mem_of_getElem? (i := 874) (by decide +kernel), List.mem_of_getElem? (i := 1114) (by decide +kernel), List.mem_of_getElem? (i := 1115) (by decide +kernel)⟩
theorem lw_p62 : lw_okq (⟨"FigureHeadsModel", "bestCrew", "()I"⟩, 14) := ⟨⟨by decide +kernel, by decide +kernel⟩, List.mem_of_getElem? (i := 874) (by decide +kernel), List.mem_of_getElem? (i := 1122) (by decide +kernel), List.mem_of_getElem? (i := 1123) (by decide +kernel)⟩
theorem lw_p63 : lw_okq (⟨"FigureHeadsModel", "hearing", "(III)I"⟩, 14) := ⟨⟨by decide +kernel, by decide +kernel⟩, List.mem_of_getElem? (i := 874) (by decide +kernel), List.mem_of_getElem? (i := 1134) (by decide +kernel), List.mem_of_getElem? (i := 1135) (by decide +kernel)⟩
def lw_privs_4 : List (MethodName × Nat) := [(⟨"FigureHeadsModel", "isFleet", "()Z"⟩, 14), (⟨"FigureHeadsModel", "doubtIn", "(III)I"⟩, 14), (⟨"FigureHeadsModel", "oak", "(II)I"⟩, 14), (⟨"FigureHeadsModel", "minds", "()V"⟩, 14), (⟨"FigureHeadsModel", "says", "(IIII)V"⟩, 14), (⟨"FigureHeadsModel", "believesIn", "(III)Z"⟩, 14), (⟨"FigureHeadsModel", "turned", "(III)I"⟩, 14), (⟨"FigureHeadsModel", "goes", "(II)Z"⟩, 14), (⟨"FigureHeadsModel", "nextOf", "(III)I"⟩, 14), (⟨"FigureHeadsModel", "wormed", "(II)V"⟩, 14), (⟨"FigureHeadsModel", "credits", "(III)V"⟩, 14), (⟨"FigureHeadsModel", "storms", "(IIIIII)V"⟩, 14), (⟨"FigureHeadsModel", "laysLeft", "(IZI)V"⟩, 14), (⟨"FigureHeadsModel", "leads", "(IZII)I"⟩, 14), (⟨"FigureHeadsModel", "bestCrew", "()I"⟩, 14), (⟨"FigureHeadsModel", "hearing", "(III)I"⟩, 14)]
theorem lw_r4 : ∀ q ∈ lw_privs_4, lw_okq q := List.forall_mem_cons.mpr ⟨lw_p48, List.forall_mem_cons.mpr ⟨lw_p49, List.forall_mem_cons.mpr ⟨lw_p50, List.forall_mem_cons.mpr ⟨lw_p51, List.forall_mem_cons.mpr ⟨lw_p52, List.forall_mem_cons.mpr ⟨lw_p53, List.forall_mem_cons.mpr ⟨lw_p54, List.forall_mem_cons.mpr ⟨lw_p55, List.forall_mem_cons.mpr ⟨lw_p56, List.forall_mem_cons.mpr ⟨lw_p57, List.forall_mem_cons.mpr ⟨lw_p58, List.forall_mem_cons.mpr ⟨lw_p59, List.forall_mem_cons.mpr ⟨lw_p60, List.forall_mem_cons.mpr ⟨lw_p61, List.forall_mem_cons.mpr ⟨lw_p62, List.forall_mem_cons.mpr ⟨lw_p63, fun _ h => absurd h List.not_mem_nil⟩⟩⟩⟩⟩⟩⟩⟩⟩⟩⟩⟩⟩⟩⟩⟩
theorem lw_p64 : lw_okq (⟨"FigureHeadsModel", "harbourFrom", "(I)I"⟩, 14) := ⟨⟨by decide +kernel, by decide +kernel⟩, List.mem_of_getElem? (i := 874) (by decide +kernel), List.mem_of_getElem? (i := 1152) (by decide +kernel), List.mem_of_getElem? (i := 1153) (by decide +kernel)⟩
theorem lw_p65 : lw_okq (⟨"FigureHeadsModel", "tries", "()V"⟩, 14) := ⟨⟨by decide +kernel, by decide +kernel⟩, List.mem_of_getElem? (i := 874) (by decide +kernel), List.mem_of_getElem? (i := 1156) (by decide +kernel), List.mem_of_getElem? (i := 1157) (by decide +kernel)⟩
theorem lw_p66 : lw_okq (⟨"FigureHeadsModel", "wormAll", "(I)I"⟩, 14) := ⟨⟨by decide +kernel, by decide +kernel⟩, List.mem_of_getElem? (i := 874) (by decide +kernel), List.mem_of_getElem? (i := 1173) (by decide +kernel), List.mem_of_getElem? (i := 1174) (by decide +kernel)⟩
theorem lw_p67 : lw_okq (⟨"FigureHeadsModel", "creditAll", "(I)I"⟩, 14) := ⟨⟨by decide +kernel, by decide +kernel⟩, List.mem_of_getElem? (i := 874) (by decide +kernel), List.mem_of_getElem? (i := 1177) (by decide +kernel), List.mem_of_getElem? (i := 1178) (by decide +kernel)⟩
theorem lw_p68 : lw_okq (⟨"FigureHeadsModel", "against", "(IIII)I"⟩, 14) := ⟨⟨by decide +kernel, by decide +kernel⟩, List.mem_of_getElem? (i := 874) (by decide +kernel), List.mem_of_getElem? (i := 1200) (by decide +kernel), List.mem_of_getElem? (i := 1201) (by decide +kernel)⟩
theorem lw_p69 : lw_okq (⟨"FigureHeadsModel", "areWords", "(III)Z"⟩, 14) := ⟨⟨by decide +kernel, by decide +kernel⟩, List.mem_of_getElem? (i := 874) (by decide +kernel), List.mem_of_getElem? (i := 1216) (by decide +kernel), List.mem_of_getElem? (i := 1217) (by decide +kernel)⟩
theorem lw_p70 : lw_okq (⟨"FigureHeadsModel", "isSo", "(IIIII)Z"⟩, 14) := ⟨⟨by decide +kernel, by decide +kernel⟩, List.mem_of_getElem? (i := 874) (by decide +kernel), List.mem_of_getElem? (i := 1230) (by decide +kernel), List.mem_of_getElem? (i := 1231) (by decide +kernel)⟩
theorem lw_p71 : lw_okq (⟨"FigureHeadsModel", "bestTry", "(IIIII)I"⟩, 14) := ⟨⟨by decide +kernel, by decide +kernel⟩, List.mem_of_getElem? (i := 874) (by decide +kernel), List.mem_of_getElem? (i := 1234) (by decide +kernel), List.mem_of_getElem? (i := 1235) (by decide +kernel)⟩
theorem lw_p72 : lw_okq (⟨"FigureHeadsModel", "harbours", "()I"⟩, 14) := ⟨⟨by decide +kernel, by decide +kernel⟩, List.mem_of_getElem? (i := 874) (by decide +kernel), List.mem_of_getElem? (i := 1246) (by decide +kernel), List.mem_of_getElem? (i := 1247) (by decide +kernel)⟩
theorem lw_p73 : lw_okq (⟨"FigureHeadsModel", "inHarbour", "()I"⟩, 14) := ⟨⟨by decide +kernel, by decide +kernel⟩, List.mem_of_getElem? (i := 874) (by decide +kernel), List.mem_of_getElem? (i := 1250) (by decide +kernel), List.mem_of_getElem? (i := 1251) (by decide +kernel)⟩
def lw_privs_5 : List (MethodName × Nat) := [(⟨"FigureHeadsModel", "harbourFrom", "(I)I"⟩, 14), (⟨"FigureHeadsModel", "tries", "()V"⟩, 14), (⟨"FigureHeadsModel", "wormAll", "(I)I"⟩, 14), (⟨"FigureHeadsModel", "creditAll", "(I)I"⟩, 14), (⟨"FigureHeadsModel", "against", "(IIII)I"⟩, 14), (⟨"FigureHeadsModel", "areWords", "(III)Z"⟩, 14), (⟨"FigureHeadsModel", "isSo", "(IIIII)Z"⟩, 14), (⟨"FigureHeadsModel", "bestTry", "(IIIII)I"⟩, 14), (⟨"FigureHeadsModel", "harbours", "()I"⟩, 14), (⟨"FigureHeadsModel", "inHarbour", "()I"⟩, 14)]
theorem lw_r5 : ∀ q ∈ lw_privs_5, lw_okq q := List.forall_mem_cons.mpr ⟨lw_p64, List.forall_mem_cons.mpr ⟨lw_p65, List.forall_mem_cons.mpr ⟨lw_p66, List.forall_mem_cons.mpr ⟨lw_p67, List.forall_mem_cons.mpr ⟨lw_p68, List.forall_mem_cons.mpr ⟨lw_p69, List.forall_mem_cons.mpr ⟨lw_p70, List.forall_mem_cons.mpr ⟨lw_p71, List.forall_mem_cons.mpr ⟨lw_p72, List.forall_mem_cons.mpr ⟨lw_p73, fun _ h => absurd h List.not_mem_nil⟩⟩⟩⟩⟩⟩⟩⟩⟩⟩
def lw_privs : List (MethodName × Nat) := lw_privs_1 ++ (lw_privs_2 ++ (lw_privs_3 ++ (lw_privs_4 ++ (lw_privs_5))))
def lw_tbl : List Cond := k2_sels lw_privs ++ tables_1
theorem lw_privs_ok : ∀ q ∈ lw_privs, lw_okq q := by
  show ∀ q ∈ lw_privs_1 ++ (lw_privs_2 ++ (lw_privs_3 ++ (lw_privs_4 ++ (lw_privs_5)))), lw_okq q
  exact List.forall_mem_append.mpr ⟨lw_r1, List.forall_mem_append.mpr ⟨lw_r2, List.forall_mem_append.mpr ⟨lw_r3, List.forall_mem_append.mpr ⟨lw_r4, lw_r5⟩⟩⟩⟩
-- ===== end of PART A; then your names; then what follows =====
end
section
/-! ===== BEGIN words of one list among another's, by their places ===== -/
theorem goodIn_r {big : List Cond} (ws : List Cond) (ps : List Nat) (hp : ws = ps.filterMap (fun i => big[i]?)) (h : ws.all goodWord = true) : GoodIn big ws := by
  intro w hw
  have h1 := List.all_eq_true.mp h w hw
  rw [hp] at hw
  obtain ⟨i, -, hi⟩ := List.mem_filterMap.mp hw
  have hm : w ∈ big := by first | exact List.mem_of_getElem? hi | exact List.getElem?_mem hi
  exact ⟨hm, good_of_word h1⟩
theorem goodIn_app {big a b : List Cond} (ha : GoodIn big a) (hb : GoodIn big b) : GoodIn big (a ++ b) := fun w h => (List.mem_append.mp h).elim (ha w) (hb w)
theorem goodIn_ca {big a b : List Cond} {c : Cond} (ha : GoodIn big (c :: a)) (hb : GoodIn big b) : GoodIn big (c :: (a ++ b)) := fun w h => (List.mem_cons.mp h).elim (fun e => ha w (List.mem_cons.mpr (Or.inl e))) (fun h => (List.mem_append.mp h).elim (fun h => ha w (List.mem_cons.mpr (Or.inr h))) (hb w))
theorem goodIn_sub {big ws : List Cond} (hm : ∀ w ∈ ws, w ∈ big) (h : ws.all goodWord = true) : GoodIn big ws := fun w hw => ⟨hm w hw, good_of_word (List.all_eq_true.mp h w hw)⟩
/-! ===== END ===== -/

/-! ===== BEGIN printed: names, fields, word lists, decode rows ===== -/
def RX0 : String := "FigureHeads$Acts"
def TX0 : u_T := fun k => match k with
  | 0 => ("FigureHeads$Acts", "before", "[LFigureHeads$Voyage;", true)
  | 1 => ("FigureHeads$Acts", "ship", "[I", true)
  | 2 => ("FigureHeads$Acts", "turn", "[I", true)
  | 3 => ("FigureHeads$Acts", "kept", "I", false)
  | _ => ("FigureHeads$Acts", "next", "I", false)
def tyX0 : Nat → FieldType := fun k => match k with
  | 0 => .array (.object "FigureHeads$Voyage")
  | 1 => .array .int
  | 2 => .array .int
  | 3 => .int
  | _ => .int
abbrev wsX00 : List Cond := u_ws RX0 TX0 5
theorem nmX0 : ∀ a, a < 5 → ∀ b, b < 5 → a ≠ b → (TX0 a).2.1 ≠ (TX0 b).2.1 := by decide +kernel
theorem tyX0_ok : ∀ k, k < 5 → parseFieldDescriptor (TX0 k).2.2.1 = some (tyX0 k) := by decide +kernel
abbrev cX0_init : ByteArray := prog_2_method_1_code
def yX0_init : MethodName := ⟨RX0, "<init>", "(LFigureHeads$Sea;)V"⟩
abbrev cX0_forget : ByteArray := prog_2_method_2_code
def yX0_forget : MethodName := ⟨RX0, "forget", "()V"⟩
abbrev cX0_keep : ByteArray := prog_2_method_3_code
def yX0_keep : MethodName := ⟨RX0, "keep", "(LFigureHeads$Fleet;I)V"⟩
abbrev cX0_giveBack : ByteArray := prog_2_method_4_code
def yX0_giveBack : MethodName := ⟨RX0, "giveBack", "(LFigureHeads$Fleet;)Z"⟩
def RX1 : String := "FigureHeads$Chart"
def TX1 : u_T := fun k => match k with
  | 0 => ("FigureHeads$Chart", "sea", "LFigureHeads$Sea;", true)
  | 1 => ("FigureHeads$Chart", "queue", "[I", true)
  | 2 => ("FigureHeads$Chart", "from", "[I", true)
  | 3 => ("FigureHeads$Chart", "word", "[I", true)
  | 4 => ("FigureHeads$Chart", "depth", "[I", true)
  | _ => ("FigureHeads$Chart", "found", "I", false)
def tyX1 : Nat → FieldType := fun k => match k with
  | 0 => .object "FigureHeads$Sea"
  | 1 => .array .int
  | 2 => .array .int
  | 3 => .array .int
  | 4 => .array .int
  | _ => .int
abbrev wsX10 : List Cond := u_ws RX1 TX1 6
theorem nmX1 : ∀ a, a < 6 → ∀ b, b < 6 → a ≠ b → (TX1 a).2.1 ≠ (TX1 b).2.1 := by decide +kernel
theorem tyX1_ok : ∀ k, k < 6 → parseFieldDescriptor (TX1 k).2.2.1 = some (tyX1 k) := by decide +kernel
abbrev cX1_init : ByteArray := prog_3_method_1_code
def yX1_init : MethodName := ⟨RX1, "<init>", "(LFigureHeads$Sea;)V"⟩
abbrev cX1_search : ByteArray := prog_3_method_2_code
def yX1_search : MethodName := ⟨RX1, "search", "(LFigureHeads$Voyage;II)I"⟩
abbrev cX1_spread : ByteArray := prog_3_method_3_code
def yX1_spread : MethodName := ⟨RX1, "spread", "(IIZ)V"⟩
abbrev cX1_mark : ByteArray := prog_3_method_4_code
def yX1_mark : MethodName := ⟨RX1, "mark", "(IIII)V"⟩
abbrev cX1_wordTo : ByteArray := prog_3_method_5_code
def yX1_wordTo : MethodName := ⟨RX1, "wordTo", "(II)I"⟩
def RX2 : String := "FigureHeads$Fleet"
def TX2 : u_T := fun k => match k with
  | 0 => ("FigureHeads$Fleet", "sea", "LFigureHeads$Sea;", true)
  | 1 => ("FigureHeads$Fleet", "kind", "[I", true)
  | 2 => ("FigureHeads$Fleet", "cell", "[I", true)
  | 3 => ("FigureHeads$Fleet", "looking", "[I", true)
  | 4 => ("FigureHeads$Fleet", "worm", "[I", true)
  | 5 => ("FigureHeads$Fleet", "credit", "[I", true)
  | 6 => ("FigureHeads$Fleet", "ships", "I", false)
  | _ => ("FigureHeads$Fleet", "turn", "I", false)
def tyX2 : Nat → FieldType := fun k => match k with
  | 0 => .object "FigureHeads$Sea"
  | 1 => .array .int
  | 2 => .array .int
  | 3 => .array .int
  | 4 => .array .int
  | 5 => .array .int
  | 6 => .int
  | _ => .int
abbrev wsX20 : List Cond := u_ws RX2 TX2 8
theorem nmX2 : ∀ a, a < 8 → ∀ b, b < 8 → a ≠ b → (TX2 a).2.1 ≠ (TX2 b).2.1 := by decide +kernel
theorem tyX2_ok : ∀ k, k < 8 → parseFieldDescriptor (TX2 k).2.2.1 = some (tyX2 k) := by decide +kernel
abbrev cX2_init : ByteArray := prog_4_method_1_code
def yX2_init : MethodName := ⟨RX2, "<init>", "()V"⟩
abbrev cX2_become : ByteArray := prog_4_method_2_code
def yX2_become : MethodName := ⟨RX2, "become", "(LFigureHeads$Fleet;)V"⟩
abbrev cX2_empty : ByteArray := prog_4_method_3_code
def yX2_empty : MethodName := ⟨RX2, "empty", "()V"⟩
abbrev cX2_stands : ByteArray := prog_4_method_4_code
def yX2_stands : MethodName := ⟨RX2, "stands", "()Z"⟩
abbrev cX2_hasShip : ByteArray := prog_4_method_5_code
def yX2_hasShip : MethodName := ⟨RX2, "hasShip", "(I)Z"⟩
abbrev cX2_everyShip : ByteArray := prog_4_method_6_code
def yX2_everyShip : MethodName := ⟨RX2, "everyShip", "()I"⟩
abbrev cX2_doubtOf : ByteArray := prog_4_method_7_code
def yX2_doubtOf : MethodName := ⟨RX2, "doubtOf", "(II)I"⟩
abbrev cX2_trusts : ByteArray := prog_4_method_8_code
def yX2_trusts : MethodName := ⟨RX2, "trusts", "(II)Z"⟩
abbrev cX2_allWorm : ByteArray := prog_4_method_9_code
def yX2_allWorm : MethodName := ⟨RX2, "allWorm", "()I"⟩
abbrev cX2_allCredit : ByteArray := prog_4_method_10_code
def yX2_allCredit : MethodName := ⟨RX2, "allCredit", "()I"⟩
abbrev cX2_harboured : ByteArray := prog_4_method_11_code
def yX2_harboured : MethodName := ⟨RX2, "harboured", "()I"⟩
abbrev cX2_heardBy : ByteArray := prog_4_method_12_code
def yX2_heardBy : MethodName := ⟨RX2, "heardBy", "(III)I"⟩
abbrev cX2_nearAny : ByteArray := prog_4_method_13_code
def yX2_nearAny : MethodName := ⟨RX2, "nearAny", "(II)I"⟩
abbrev cX2_isLink : ByteArray := prog_4_method_14_code
def yX2_isLink : MethodName := ⟨RX2, "isLink", "(II)Z"⟩
def RX3 : String := "FigureHeads$Sea"
def TX3 : u_T := fun k => match k with
  | 0 => ("FigureHeads$Sea", "cells", "[I", true)
  | 1 => ("FigureHeads$Sea", "rows", "I", false)
  | _ => ("FigureHeads$Sea", "columns", "I", false)
def tyX3 : Nat → FieldType := fun k => match k with
  | 0 => .array .int
  | 1 => .int
  | _ => .int
abbrev wsX30 : List Cond := u_ws RX3 TX3 3
theorem nmX3 : ∀ a, a < 3 → ∀ b, b < 3 → a ≠ b → (TX3 a).2.1 ≠ (TX3 b).2.1 := by decide +kernel
theorem tyX3_ok : ∀ k, k < 3 → parseFieldDescriptor (TX3 k).2.2.1 = some (tyX3 k) := by decide +kernel
abbrev cX3_init : ByteArray := prog_5_method_1_code
def yX3_init : MethodName := ⟨RX3, "<init>", "()V"⟩
abbrev cX3_become : ByteArray := prog_5_method_2_code
def yX3_become : MethodName := ⟨RX3, "become", "(LFigureHeads$Sea;)V"⟩
abbrev cX3_empty : ByteArray := prog_5_method_3_code
def yX3_empty : MethodName := ⟨RX3, "empty", "()V"⟩
abbrev cX3_cellOf : ByteArray := prog_5_method_4_code
def yX3_cellOf : MethodName := ⟨RX3, "cellOf", "(II)I"⟩
abbrev cX3_has : ByteArray := prog_5_method_5_code
def yX3_has : MethodName := ⟨RX3, "has", "(I)Z"⟩
abbrev cX3_at : ByteArray := prog_5_method_6_code
def yX3_at : MethodName := ⟨RX3, "at", "(I)I"⟩
abbrev cX3_ahead : ByteArray := prog_5_method_7_code
def yX3_ahead : MethodName := ⟨RX3, "ahead", "(II)I"⟩
abbrev cX3_away : ByteArray := prog_5_method_8_code
def yX3_away : MethodName := ⟨RX3, "away", "(II)I"⟩
abbrev cX3_harbours : ByteArray := prog_5_method_9_code
def yX3_harbours : MethodName := ⟨RX3, "harbours", "()I"⟩
abbrev cX3_awayFromHarbour : ByteArray := prog_5_method_10_code
def yX3_awayFromHarbour : MethodName := ⟨RX3, "awayFromHarbour", "(I)I"⟩
def RX4 : String := "FigureHeads$Sheet"
def TX4 : u_T := fun k => match k with
  | 0 => ("FigureHeads$Sheet", "items", "[J", true)
  | 1 => ("FigureHeads$Sheet", "there", "Z", false)
  | 2 => ("FigureHeads$Sheet", "lane", "I", false)
  | _ => ("FigureHeads$Sheet", "length", "I", false)
def tyX4 : Nat → FieldType := fun k => match k with
  | 0 => .array .long
  | 1 => .boolean
  | 2 => .int
  | _ => .int
abbrev wsX40 : List Cond := u_ws RX4 TX4 4
theorem nmX4 : ∀ a, a < 4 → ∀ b, b < 4 → a ≠ b → (TX4 a).2.1 ≠ (TX4 b).2.1 := by decide +kernel
theorem tyX4_ok : ∀ k, k < 4 → parseFieldDescriptor (TX4 k).2.2.1 = some (tyX4 k) := by decide +kernel
abbrev cX4_init : ByteArray := prog_6_method_1_code
def yX4_init : MethodName := ⟨RX4, "<init>", "()V"⟩
abbrev cX4_renew : ByteArray := prog_6_method_2_code
def yX4_renew : MethodName := ⟨RX4, "renew", "(II)V"⟩
abbrev cX4_holds : ByteArray := prog_6_method_3_code
def yX4_holds : MethodName := ⟨RX4, "holds", "(II)Z"⟩
abbrev cX4_holdsWords : ByteArray := prog_6_method_4_code
def yX4_holdsWords : MethodName := ⟨RX4, "holdsWords", "(III)Z"⟩
abbrev cX4_put : ByteArray := prog_6_method_5_code
def yX4_put : MethodName := ⟨RX4, "put", "(IJ)J"⟩
abbrev cX4_narrowed : ByteArray := prog_6_method_6_code
def yX4_narrowed : MethodName := ⟨RX4, "narrowed", "(J)J"⟩
def RX5 : String := "FigureHeads$Tape"
def TX5 : u_T := fun k => match k with
  | 0 => ("FigureHeads$Tape", "bytes", "[I", true)
  | 1 => ("FigureHeads$Tape", "length", "I", false)
  | _ => ("FigureHeads$Tape", "place", "I", false)
def tyX5 : Nat → FieldType := fun k => match k with
  | 0 => .array .int
  | 1 => .int
  | _ => .int
abbrev wsX50 : List Cond := u_ws RX5 TX5 3
theorem nmX5 : ∀ a, a < 3 → ∀ b, b < 3 → a ≠ b → (TX5 a).2.1 ≠ (TX5 b).2.1 := by decide +kernel
theorem tyX5_ok : ∀ k, k < 3 → parseFieldDescriptor (TX5 k).2.2.1 = some (tyX5 k) := by decide +kernel
abbrev cX5_init : ByteArray := prog_7_method_1_code
def yX5_init : MethodName := ⟨RX5, "<init>", "()V"⟩
abbrev cX5_add : ByteArray := prog_7_method_2_code
def yX5_add : MethodName := ⟨RX5, "add", "(I)Z"⟩
abbrev cX5_readFleet : ByteArray := prog_7_method_3_code
def yX5_readFleet : MethodName := ⟨RX5, "readFleet", "(LFigureHeads$Fleet;)Z"⟩
abbrev cX5_here : ByteArray := prog_7_method_4_code
def yX5_here : MethodName := ⟨RX5, "here", "()I"⟩
abbrev cX5_takes : ByteArray := prog_7_method_5_code
def yX5_takes : MethodName := ⟨RX5, "takes", "(C)Z"⟩
abbrev cX5_oneOf : ByteArray := prog_7_method_6_code
def yX5_oneOf : MethodName := ⟨RX5, "oneOf", "(Ljava/lang/String;)I"⟩
abbrev cX5_figureBelow : ByteArray := prog_7_method_7_code
def yX5_figureBelow : MethodName := ⟨RX5, "figureBelow", "(I)I"⟩
abbrev cX5_readSea : ByteArray := prog_7_method_8_code
def yX5_readSea : MethodName := ⟨RX5, "readSea", "(LFigureHeads$Sea;)Z"⟩
abbrev cX5_readRow : ByteArray := prog_7_method_9_code
def yX5_readRow : MethodName := ⟨RX5, "readRow", "(LFigureHeads$Sea;I)Z"⟩
abbrev cX5_readShips : ByteArray := prog_7_method_10_code
def yX5_readShips : MethodName := ⟨RX5, "readShips", "(LFigureHeads$Fleet;)Z"⟩
abbrev cX5_readShip : ByteArray := prog_7_method_11_code
def yX5_readShip : MethodName := ⟨RX5, "readShip", "(LFigureHeads$Fleet;I)Z"⟩
abbrev cX5_readCell : ByteArray := prog_7_method_12_code
def yX5_readCell : MethodName := ⟨RX5, "readCell", "(LFigureHeads$Fleet;I)Z"⟩
abbrev cX5_readCredit : ByteArray := prog_7_method_13_code
def yX5_readCredit : MethodName := ⟨RX5, "readCredit", "(LFigureHeads$Fleet;)Z"⟩
def RX6 : String := "FigureHeads$Voyage"
def TX6 : u_T := fun k => match k with
  | 0 => ("FigureHeads$Voyage", "sea", "LFigureHeads$Sea;", true)
  | 1 => ("FigureHeads$Voyage", "credit", "[I", true)
  | 2 => ("FigureHeads$Voyage", "kind", "I", false)
  | 3 => ("FigureHeads$Voyage", "cell", "I", false)
  | 4 => ("FigureHeads$Voyage", "looking", "I", false)
  | _ => ("FigureHeads$Voyage", "worm", "I", false)
def tyX6 : Nat → FieldType := fun k => match k with
  | 0 => .object "FigureHeads$Sea"
  | 1 => .array .int
  | 2 => .int
  | 3 => .int
  | 4 => .int
  | _ => .int
abbrev wsX60 : List Cond := u_ws RX6 TX6 6
theorem nmX6 : ∀ a, a < 6 → ∀ b, b < 6 → a ≠ b → (TX6 a).2.1 ≠ (TX6 b).2.1 := by decide +kernel
theorem tyX6_ok : ∀ k, k < 6 → parseFieldDescriptor (TX6 k).2.2.1 = some (tyX6 k) := by decide +kernel
abbrev cX6_init : ByteArray := prog_8_method_1_code
def yX6_init : MethodName := ⟨RX6, "<init>", "(LFigureHeads$Sea;)V"⟩
abbrev cX6_board : ByteArray := prog_8_method_2_code
def yX6_board : MethodName := ⟨RX6, "board", "(LFigureHeads$Fleet;I)V"⟩
abbrev cX6_land : ByteArray := prog_8_method_3_code
def yX6_land : MethodName := ⟨RX6, "land", "(LFigureHeads$Fleet;I)V"⟩
abbrev cX6_follow : ByteArray := prog_8_method_4_code
def yX6_follow : MethodName := ⟨RX6, "follow", "(LFigureHeads$Voyage;)V"⟩
abbrev cX6_trusts : ByteArray := prog_8_method_5_code
def yX6_trusts : MethodName := ⟨RX6, "trusts", "(I)Z"⟩
abbrev cX6_hear : ByteArray := prog_8_method_6_code
def yX6_hear : MethodName := ⟨RX6, "hear", "(II)V"⟩
abbrev cX6_hearTwo : ByteArray := prog_8_method_7_code
def yX6_hearTwo : MethodName := ⟨RX6, "hearTwo", "(IIII)V"⟩
abbrev cX6_beTorn : ByteArray := prog_8_method_8_code
def yX6_beTorn : MethodName := ⟨RX6, "beTorn", "(II)V"⟩
abbrev cX6_goOn : ByteArray := prog_8_method_9_code
def yX6_goOn : MethodName := ⟨RX6, "goOn", "()Z"⟩
abbrev cX6_beWormed : ByteArray := prog_8_method_10_code
def yX6_beWormed : MethodName := ⟨RX6, "beWormed", "()V"⟩
abbrev cX6_settle : ByteArray := prog_8_method_11_code
def yX6_settle : MethodName := ⟨RX6, "settle", "(IZ)V"⟩
abbrev cX6_keepsTo : ByteArray := prog_8_method_12_code
def yX6_keepsTo : MethodName := ⟨RX6, "keepsTo", "(ILFigureHeads$Sheet;II)Z"⟩
def RX7 : String := "FigureHeads"
def TX7 : u_T := fun k => match k with
  | 0 => ("FigureHeads", "tape", "LFigureHeads$Tape;", true)
  | 1 => ("FigureHeads", "now", "LFigureHeads$Fleet;", true)
  | 2 => ("FigureHeads", "draft", "LFigureHeads$Fleet;", true)
  | 3 => ("FigureHeads", "images", "[LFigureHeads$Fleet;", true)
  | 4 => ("FigureHeads", "acts", "LFigureHeads$Acts;", true)
  | 5 => ("FigureHeads", "voyages", "[LFigureHeads$Voyage;", true)
  | 6 => ("FigureHeads", "chart", "LFigureHeads$Chart;", true)
  | 7 => ("FigureHeads", "sheets", "[LFigureHeads$Sheet;", true)
  | _ => ("FigureHeads", "reached", "[I", true)
def tyX7 : Nat → FieldType := fun k => match k with
  | 0 => .object "FigureHeads$Tape"
  | 1 => .object "FigureHeads$Fleet"
  | 2 => .object "FigureHeads$Fleet"
  | 3 => .array (.object "FigureHeads$Fleet")
  | 4 => .object "FigureHeads$Acts"
  | 5 => .array (.object "FigureHeads$Voyage")
  | 6 => .object "FigureHeads$Chart"
  | 7 => .array (.object "FigureHeads$Sheet")
  | _ => .array .int
abbrev wsX70 : List Cond := u_ws RX7 TX7 9
theorem nmX7 : ∀ a, a < 9 → ∀ b, b < 9 → a ≠ b → (TX7 a).2.1 ≠ (TX7 b).2.1 := by decide +kernel
theorem tyX7_ok : ∀ k, k < 9 → parseFieldDescriptor (TX7 k).2.2.1 = some (tyX7 k) := by decide +kernel
abbrev cX7_init : ByteArray := prog_1_method_1_code
def yX7_init : MethodName := ⟨RX7, "<init>", "()V"⟩
abbrev cX7_feed : ByteArray := prog_1_method_2_code
def yX7_feed : MethodName := ⟨RX7, "feed", "(I)I"⟩
abbrev cX7_fleet : ByteArray := prog_1_method_3_code
def yX7_fleet : MethodName := ⟨RX7, "fleet", "()I"⟩
abbrev cX7_ship : ByteArray := prog_1_method_4_code
def yX7_ship : MethodName := ⟨RX7, "ship", "(II)I"⟩
abbrev cX7_as : ByteArray := prog_1_method_5_code
def yX7_as : MethodName := ⟨RX7, "as", "(II)I"⟩
abbrev cX7_sea : ByteArray := prog_1_method_6_code
def yX7_sea : MethodName := ⟨RX7, "sea", "(I)I"⟩
abbrev cX7_credit : ByteArray := prog_1_method_7_code
def yX7_credit : MethodName := ⟨RX7, "credit", "(I)I"⟩
abbrev cX7_doubt : ByteArray := prog_1_method_8_code
def yX7_doubt : MethodName := ⟨RX7, "doubt", "(II)I"⟩
abbrev cX7_say : ByteArray := prog_1_method_9_code
def yX7_say : MethodName := ⟨RX7, "say", "(III)I"⟩
abbrev cX7_storm : ByteArray := prog_1_method_10_code
def yX7_storm : MethodName := ⟨RX7, "storm", "(IIIII)I"⟩
abbrev cX7_drift : ByteArray := prog_1_method_11_code
def yX7_drift : MethodName := ⟨RX7, "drift", "(I)I"⟩
abbrev cX7_scrape : ByteArray := prog_1_method_12_code
def yX7_scrape : MethodName := ⟨RX7, "scrape", "(I)I"⟩
abbrev cX7_learn : ByteArray := prog_1_method_13_code
def yX7_learn : MethodName := ⟨RX7, "learn", "(I)I"⟩
abbrev cX7_undo : ByteArray := prog_1_method_14_code
def yX7_undo : MethodName := ⟨RX7, "undo", "()I"⟩
abbrev cX7_image : ByteArray := prog_1_method_15_code
def yX7_image : MethodName := ⟨RX7, "image", "(I)I"⟩
abbrev cX7_restore : ByteArray := prog_1_method_16_code
def yX7_restore : MethodName := ⟨RX7, "restore", "(I)I"⟩
abbrev cX7_believed : ByteArray := prog_1_method_17_code
def yX7_believed : MethodName := ⟨RX7, "believed", "(I)I"⟩
abbrev cX7_strikes : ByteArray := prog_1_method_18_code
def yX7_strikes : MethodName := ⟨RX7, "strikes", "(I)I"⟩
abbrev cX7_course : ByteArray := prog_1_method_19_code
def yX7_course : MethodName := ⟨RX7, "course", "(IIII)I"⟩
abbrev cX7_crew : ByteArray := prog_1_method_20_code
def yX7_crew : MethodName := ⟨RX7, "crew", "(I)I"⟩
abbrev cX7_hears : ByteArray := prog_1_method_21_code
def yX7_hears : MethodName := ⟨RX7, "hears", "(II)I"⟩
abbrev cX7_links : ByteArray := prog_1_method_22_code
def yX7_links : MethodName := ⟨RX7, "links", "(I)I"⟩
abbrev cX7_talk : ByteArray := prog_1_method_23_code
def yX7_talk : MethodName := ⟨RX7, "talk", "(IIII)I"⟩
abbrev cX7_decades : ByteArray := prog_1_method_24_code
def yX7_decades : MethodName := ⟨RX7, "decades", "(III)I"⟩
abbrev cX7_sheet : ByteArray := prog_1_method_25_code
def yX7_sheet : MethodName := ⟨RX7, "sheet", "(III)I"⟩
abbrev cX7_drop : ByteArray := prog_1_method_26_code
def yX7_drop : MethodName := ⟨RX7, "drop", "(I)I"⟩
abbrev cX7_item : ByteArray := prog_1_method_27_code
def yX7_item : MethodName := ⟨RX7, "item", "(IIIJ)J"⟩
abbrev cX7_copy : ByteArray := prog_1_method_28_code
def yX7_copy : MethodName := ⟨RX7, "copy", "(IIIII)I"⟩
abbrev cX7_log : ByteArray := prog_1_method_29_code
def yX7_log : MethodName := ⟨RX7, "log", "(IIIIII)I"⟩
abbrev cX7_rows : ByteArray := prog_1_method_30_code
def yX7_rows : MethodName := ⟨RX7, "rows", "(IIIIIII)I"⟩
abbrev cX7_kinds : ByteArray := prog_1_method_31_code
def yX7_kinds : MethodName := ⟨RX7, "kinds", "(IIIIIII)I"⟩
abbrev cX7_fog : ByteArray := prog_1_method_32_code
def yX7_fog : MethodName := ⟨RX7, "fog", "(IIIIIII)I"⟩
abbrev cX7_count : ByteArray := prog_1_method_33_code
def yX7_count : MethodName := ⟨RX7, "count", "(I)I"⟩
abbrev cX7_isTeller : ByteArray := prog_1_method_34_code
def yX7_isTeller : MethodName := ⟨RX7, "isTeller", "(I)Z"⟩
abbrev cX7_isWord : ByteArray := prog_1_method_35_code
def yX7_isWord : MethodName := ⟨RX7, "isWord", "(J)Z"⟩
abbrev cX7_isPart : ByteArray := prog_1_method_36_code
def yX7_isPart : MethodName := ⟨RX7, "isPart", "(I)Z"⟩
abbrev cX7_isHearing : ByteArray := prog_1_method_37_code
def yX7_isHearing : MethodName := ⟨RX7, "isHearing", "(I)Z"⟩
abbrev cX7_isSheet : ByteArray := prog_1_method_38_code
def yX7_isSheet : MethodName := ⟨RX7, "isSheet", "(I)Z"⟩
abbrev cX7_isLane : ByteArray := prog_1_method_39_code
def yX7_isLane : MethodName := ⟨RX7, "isLane", "(I)Z"⟩
abbrev cX7_canTell : ByteArray := prog_1_method_40_code
def yX7_canTell : MethodName := ⟨RX7, "canTell", "(IIII)Z"⟩
abbrev cX7_refusalOf : ByteArray := prog_1_method_41_code
def yX7_refusalOf : MethodName := ⟨RX7, "refusalOf", "(IIII)I"⟩
abbrev cX7_isUnder : ByteArray := prog_1_method_42_code
def yX7_isUnder : MethodName := ⟨RX7, "isUnder", "(II)Z"⟩
abbrev cX7_doubtBy : ByteArray := prog_1_method_43_code
def yX7_doubtBy : MethodName := ⟨RX7, "doubtBy", "(III)I"⟩
abbrev cX7_turned : ByteArray := prog_1_method_44_code
def yX7_turned : MethodName := ⟨RX7, "turned", "(III)I"⟩
abbrev cX7_mirrored : ByteArray := prog_1_method_45_code
def yX7_mirrored : MethodName := ⟨RX7, "mirrored", "(I)I"⟩
abbrev cX7_setOut : ByteArray := prog_1_method_46_code
def yX7_setOut : MethodName := ⟨RX7, "setOut", "(I)LFigureHeads$Voyage;"⟩
abbrev cX7_arrive : ByteArray := prog_1_method_47_code
def yX7_arrive : MethodName := ⟨RX7, "arrive", "(ILFigureHeads$Voyage;)I"⟩
abbrev cX7_mostCrewed : ByteArray := prog_1_method_48_code
def yX7_mostCrewed : MethodName := ⟨RX7, "mostCrewed", "(II)I"⟩
abbrev cX7_mayTake : ByteArray := prog_1_method_49_code
def yX7_mayTake : MethodName := ⟨RX7, "mayTake", "(III)Z"⟩
abbrev cX7_crewOf : ByteArray := prog_1_method_50_code
def yX7_crewOf : MethodName := ⟨RX7, "crewOf", "(I)I"⟩
abbrev cX7_firstTeller : ByteArray := prog_1_method_51_code
def yX7_firstTeller : MethodName := ⟨RX7, "firstTeller", "(II)I"⟩
abbrev cX7_nextVoyage : ByteArray := prog_1_method_52_code
def yX7_nextVoyage : MethodName := ⟨RX7, "nextVoyage", "(I)LFigureHeads$Voyage;"⟩
abbrev cX7_canGoDeeper : ByteArray := prog_1_method_53_code
def yX7_canGoDeeper : MethodName := ⟨RX7, "canGoDeeper", "(II)Z"⟩
abbrev cX7_talked : ByteArray := prog_1_method_54_code
def yX7_talked : MethodName := ⟨RX7, "talked", "(IIII)I"⟩
abbrev cX7_countRows : ByteArray := prog_1_method_55_code
def yX7_countRows : MethodName := ⟨RX7, "countRows", "(IILFigureHeads$Sheet;II)I"⟩
abbrev cX7_firstRow : ByteArray := prog_1_method_56_code
def yX7_firstRow : MethodName := ⟨RX7, "firstRow", "(IIILFigureHeads$Sheet;II)I"⟩
abbrev cX7_leadsTo : ByteArray := prog_1_method_57_code
def yX7_leadsTo : MethodName := ⟨RX7, "leadsTo", "(IIIJ)Z"⟩
abbrev cX7_fogged : ByteArray := prog_1_method_58_code
def yX7_fogged : MethodName := ⟨RX7, "fogged", "(IILFigureHeads$Sheet;III)I"⟩
abbrev cX7_tenToThe : ByteArray := prog_1_method_59_code
def yX7_tenToThe : MethodName := ⟨RX7, "tenToThe", "(I)I"⟩
abbrev cX7_greatestDivisor : ByteArray := prog_1_method_60_code
def yX7_greatestDivisor : MethodName := ⟨RX7, "greatestDivisor", "(II)I"⟩
abbrev cX7_fittingKinds : ByteArray := prog_1_method_61_code
def yX7_fittingKinds : MethodName := ⟨RX7, "fittingKinds", "(IILFigureHeads$Sheet;II)I"⟩
abbrev cX7_wordToTry : ByteArray := prog_1_method_62_code
def yX7_wordToTry : MethodName := ⟨RX7, "wordToTry", "(II)I"⟩
abbrev cX7_greatestPart : ByteArray := prog_1_method_63_code
def yX7_greatestPart : MethodName := ⟨RX7, "greatestPart", "(III)I"⟩
abbrev cX7_cellBehind : ByteArray := prog_1_method_64_code
def yX7_cellBehind : MethodName := ⟨RX7, "cellBehind", "(LFigureHeads$Voyage;II)I"⟩
abbrev cX7_partAlike : ByteArray := prog_1_method_65_code
def yX7_partAlike : MethodName := ⟨RX7, "partAlike", "(II)I"⟩
abbrev cX7_passDecade : ByteArray := prog_1_method_66_code
def yX7_passDecade : MethodName := ⟨RX7, "passDecade", "(J)V"⟩
def RX8 : String := "FigureHeadsModel"
def TX8 : u_T := fun k => match k with
  | 0 => ("FigureHeadsModel", "w", "[I", true)
  | 1 => ("FigureHeadsModel", "undoes", "I", false)
  | 2 => ("FigureHeadsModel", "tape", "[I", true)
  | 3 => ("FigureHeadsModel", "taped", "I", false)
  | 4 => ("FigureHeadsModel", "items", "[J", true)
  | 5 => ("FigureHeadsModel", "sheetSize", "[I", true)
  | 6 => ("FigureHeadsModel", "sheetLane", "[I", true)
  | 7 => ("FigureHeadsModel", "at", "I", false)
  | 8 => ("FigureHeadsModel", "left", "[I", true)
  | 9 => ("FigureHeadsModel", "tried", "[I", true)
  | 10 => ("FigureHeadsModel", "best", "[I", true)
  | 11 => ("FigureHeadsModel", "ends", "[I", true)
  | 12 => ("FigureHeadsModel", "held", "[J", true)
  | _ => ("FigureHeadsModel", "then", "[I", true)
def tyX8 : Nat → FieldType := fun k => match k with
  | 0 => .array .int
  | 1 => .int
  | 2 => .array .int
  | 3 => .int
  | 4 => .array .long
  | 5 => .array .int
  | 6 => .array .int
  | 7 => .int
  | 8 => .array .int
  | 9 => .array .int
  | 10 => .array .int
  | 11 => .array .int
  | 12 => .array .long
  | _ => .array .int
abbrev wsX80 : List Cond := u_ws RX8 TX8 14
theorem nmX8 : ∀ a, a < 14 → ∀ b, b < 14 → a ≠ b → (TX8 a).2.1 ≠ (TX8 b).2.1 := by decide +kernel
theorem tyX8_ok : ∀ k, k < 14 → parseFieldDescriptor (TX8 k).2.2.1 = some (tyX8 k) := by decide +kernel
abbrev cX8_init : ByteArray := prog_10_method_1_code
def yX8_init : MethodName := ⟨RX8, "<init>", "()V"⟩
abbrev cX8_in : ByteArray := prog_10_method_3_code
def yX8_in : MethodName := ⟨RX8, "in", "(JJJ)Z"⟩
abbrev cX8_has : ByteArray := prog_10_method_4_code
def yX8_has : MethodName := ⟨RX8, "has", "(II)Z"⟩
abbrev cX8_bring : ByteArray := prog_10_method_6_code
def yX8_bring : MethodName := ⟨RX8, "bring", "(III)V"⟩
abbrev cX8_isFleet : ByteArray := prog_10_method_7_code
def yX8_isFleet : MethodName := ⟨RX8, "isFleet", "()Z"⟩
abbrev cX8_isShip : ByteArray := prog_10_method_8_code
def yX8_isShip : MethodName := ⟨RX8, "isShip", "(I)Z"⟩
abbrev cX8_isTeller : ByteArray := prog_10_method_9_code
def yX8_isTeller : MethodName := ⟨RX8, "isTeller", "(I)Z"⟩
abbrev cX8_isCellIn : ByteArray := prog_10_method_10_code
def yX8_isCellIn : MethodName := ⟨RX8, "isCellIn", "(III)Z"⟩
abbrev cX8_isCell : ByteArray := prog_10_method_11_code
def yX8_isCell : MethodName := ⟨RX8, "isCell", "(I)Z"⟩
abbrev cX8_feed : ByteArray := prog_10_method_12_code
def yX8_feed : MethodName := ⟨RX8, "feed", "(I)I"⟩
abbrev cX8_here : ByteArray := prog_10_method_13_code
def yX8_here : MethodName := ⟨RX8, "here", "()I"⟩
abbrev cX8_takes : ByteArray := prog_10_method_14_code
def yX8_takes : MethodName := ⟨RX8, "takes", "(I)Z"⟩
abbrev cX8_seaOf : ByteArray := prog_10_method_15_code
def yX8_seaOf : MethodName := ⟨RX8, "seaOf", "(I)I"⟩
abbrev cX8_kindOf : ByteArray := prog_10_method_16_code
def yX8_kindOf : MethodName := ⟨RX8, "kindOf", "(I)I"⟩
abbrev cX8_lookOf : ByteArray := prog_10_method_17_code
def yX8_lookOf : MethodName := ⟨RX8, "lookOf", "(I)I"⟩
abbrev cX8_figure : ByteArray := prog_10_method_18_code
def yX8_figure : MethodName := ⟨RX8, "figure", "(I)I"⟩
abbrev cX8_takesRow : ByteArray := prog_10_method_19_code
def yX8_takesRow : MethodName := ⟨RX8, "takesRow", "()Z"⟩
abbrev cX8_takesShip : ByteArray := prog_10_method_20_code
def yX8_takesShip : MethodName := ⟨RX8, "takesShip", "()Z"⟩
abbrev cX8_takesAll : ByteArray := prog_10_method_21_code
def yX8_takesAll : MethodName := ⟨RX8, "takesAll", "()Z"⟩
abbrev cX8_fleet : ByteArray := prog_10_method_22_code
def yX8_fleet : MethodName := ⟨RX8, "fleet", "()I"⟩
abbrev cX8_ship : ByteArray := prog_10_method_23_code
def yX8_ship : MethodName := ⟨RX8, "ship", "(II)I"⟩
abbrev cX8_isA : ByteArray := prog_10_method_24_code
def yX8_isA : MethodName := ⟨RX8, "isA", "(II)Z"⟩
abbrev cX8_as : ByteArray := prog_10_method_25_code
def yX8_as : MethodName := ⟨RX8, "as", "(II)I"⟩
abbrev cX8_sea : ByteArray := prog_10_method_26_code
def yX8_sea : MethodName := ⟨RX8, "sea", "(I)I"⟩
abbrev cX8_credit : ByteArray := prog_10_method_27_code
def yX8_credit : MethodName := ⟨RX8, "credit", "(I)I"⟩
abbrev cX8_oak : ByteArray := prog_10_method_28_code
def yX8_oak : MethodName := ⟨RX8, "oak", "(II)I"⟩
abbrev cX8_doubtIn : ByteArray := prog_10_method_29_code
def yX8_doubtIn : MethodName := ⟨RX8, "doubtIn", "(III)I"⟩
abbrev cX8_believesIn : ByteArray := prog_10_method_30_code
def yX8_believesIn : MethodName := ⟨RX8, "believesIn", "(III)Z"⟩
abbrev cX8_doubt : ByteArray := prog_10_method_31_code
def yX8_doubt : MethodName := ⟨RX8, "doubt", "(II)I"⟩
abbrev cX8_turned : ByteArray := prog_10_method_32_code
def yX8_turned : MethodName := ⟨RX8, "turned", "(III)I"⟩
abbrev cX8_nextOf : ByteArray := prog_10_method_33_code
def yX8_nextOf : MethodName := ⟨RX8, "nextOf", "(III)I"⟩
abbrev cX8_wormed : ByteArray := prog_10_method_34_code
def yX8_wormed : MethodName := ⟨RX8, "wormed", "(II)V"⟩
abbrev cX8_goes : ByteArray := prog_10_method_35_code
def yX8_goes : MethodName := ⟨RX8, "goes", "(II)Z"⟩
abbrev cX8_credits : ByteArray := prog_10_method_36_code
def yX8_credits : MethodName := ⟨RX8, "credits", "(III)V"⟩
abbrev cX8_says : ByteArray := prog_10_method_37_code
def yX8_says : MethodName := ⟨RX8, "says", "(IIII)V"⟩
abbrev cX8_storms : ByteArray := prog_10_method_38_code
def yX8_storms : MethodName := ⟨RX8, "storms", "(IIIIII)V"⟩
abbrev cX8_minds : ByteArray := prog_10_method_39_code
def yX8_minds : MethodName := ⟨RX8, "minds", "()V"⟩
abbrev cX8_isWord : ByteArray := prog_10_method_40_code
def yX8_isWord : MethodName := ⟨RX8, "isWord", "(J)Z"⟩
abbrev cX8_say : ByteArray := prog_10_method_41_code
def yX8_say : MethodName := ⟨RX8, "say", "(III)I"⟩
abbrev cX8_storm : ByteArray := prog_10_method_42_code
def yX8_storm : MethodName := ⟨RX8, "storm", "(IIIII)I"⟩
abbrev cX8_drift : ByteArray := prog_10_method_43_code
def yX8_drift : MethodName := ⟨RX8, "drift", "(I)I"⟩
abbrev cX8_scrape : ByteArray := prog_10_method_44_code
def yX8_scrape : MethodName := ⟨RX8, "scrape", "(I)I"⟩
abbrev cX8_learn : ByteArray := prog_10_method_45_code
def yX8_learn : MethodName := ⟨RX8, "learn", "(I)I"⟩
abbrev cX8_undo : ByteArray := prog_10_method_46_code
def yX8_undo : MethodName := ⟨RX8, "undo", "()I"⟩
abbrev cX8_image : ByteArray := prog_10_method_47_code
def yX8_image : MethodName := ⟨RX8, "image", "(I)I"⟩
abbrev cX8_restore : ByteArray := prog_10_method_48_code
def yX8_restore : MethodName := ⟨RX8, "restore", "(I)I"⟩
abbrev cX8_tries : ByteArray := prog_10_method_49_code
def yX8_tries : MethodName := ⟨RX8, "tries", "()V"⟩
abbrev cX8_believed : ByteArray := prog_10_method_50_code
def yX8_believed : MethodName := ⟨RX8, "believed", "(I)I"⟩
abbrev cX8_strikes : ByteArray := prog_10_method_51_code
def yX8_strikes : MethodName := ⟨RX8, "strikes", "(I)I"⟩
abbrev cX8_leads : ByteArray := prog_10_method_52_code
def yX8_leads : MethodName := ⟨RX8, "leads", "(IZII)I"⟩
abbrev cX8_laysLeft : ByteArray := prog_10_method_53_code
def yX8_laysLeft : MethodName := ⟨RX8, "laysLeft", "(IZI)V"⟩
abbrev cX8_course : ByteArray := prog_10_method_54_code
def yX8_course : MethodName := ⟨RX8, "course", "(IIII)I"⟩
abbrev cX8_bestCrew : ByteArray := prog_10_method_55_code
def yX8_bestCrew : MethodName := ⟨RX8, "bestCrew", "()I"⟩
abbrev cX8_crew : ByteArray := prog_10_method_56_code
def yX8_crew : MethodName := ⟨RX8, "crew", "(I)I"⟩
abbrev cX8_size : ByteArray := prog_10_method_57_code
def yX8_size : MethodName := ⟨RX8, "size", "(I)I"⟩
abbrev cX8_away : ByteArray := prog_10_method_58_code
def yX8_away : MethodName := ⟨RX8, "away", "(II)I"⟩
abbrev cX8_hearing : ByteArray := prog_10_method_59_code
def yX8_hearing : MethodName := ⟨RX8, "hearing", "(III)I"⟩
abbrev cX8_hears : ByteArray := prog_10_method_60_code
def yX8_hears : MethodName := ⟨RX8, "hears", "(II)I"⟩
abbrev cX8_links : ByteArray := prog_10_method_61_code
def yX8_links : MethodName := ⟨RX8, "links", "(I)I"⟩
abbrev cX8_harbourFrom : ByteArray := prog_10_method_62_code
def yX8_harbourFrom : MethodName := ⟨RX8, "harbourFrom", "(I)I"⟩
abbrev cX8_talk : ByteArray := prog_10_method_63_code
def yX8_talk : MethodName := ⟨RX8, "talk", "(IIII)I"⟩
abbrev cX8_decades : ByteArray := prog_10_method_64_code
def yX8_decades : MethodName := ⟨RX8, "decades", "(III)I"⟩
abbrev cX8_wormAll : ByteArray := prog_10_method_65_code
def yX8_wormAll : MethodName := ⟨RX8, "wormAll", "(I)I"⟩
abbrev cX8_creditAll : ByteArray := prog_10_method_66_code
def yX8_creditAll : MethodName := ⟨RX8, "creditAll", "(I)I"⟩
abbrev cX8_isSheet : ByteArray := prog_10_method_67_code
def yX8_isSheet : MethodName := ⟨RX8, "isSheet", "(I)Z"⟩
abbrev cX8_isLane : ByteArray := prog_10_method_68_code
def yX8_isLane : MethodName := ⟨RX8, "isLane", "(II)Z"⟩
abbrev cX8_lowest : ByteArray := prog_10_method_69_code
def yX8_lowest : MethodName := ⟨RX8, "lowest", "(IJ)J"⟩
abbrev cX8_against : ByteArray := prog_10_method_70_code
def yX8_against : MethodName := ⟨RX8, "against", "(IIII)I"⟩
abbrev cX8_sheet : ByteArray := prog_10_method_71_code
def yX8_sheet : MethodName := ⟨RX8, "sheet", "(III)I"⟩
abbrev cX8_drop : ByteArray := prog_10_method_72_code
def yX8_drop : MethodName := ⟨RX8, "drop", "(I)I"⟩
abbrev cX8_item : ByteArray := prog_10_method_73_code
def yX8_item : MethodName := ⟨RX8, "item", "(IIIJ)J"⟩
abbrev cX8_copy : ByteArray := prog_10_method_74_code
def yX8_copy : MethodName := ⟨RX8, "copy", "(IIIII)I"⟩
abbrev cX8_areWords : ByteArray := prog_10_method_75_code
def yX8_areWords : MethodName := ⟨RX8, "areWords", "(III)Z"⟩
abbrev cX8_log : ByteArray := prog_10_method_76_code
def yX8_log : MethodName := ⟨RX8, "log", "(IIIIII)I"⟩
abbrev cX8_rows : ByteArray := prog_10_method_77_code
def yX8_rows : MethodName := ⟨RX8, "rows", "(IIIIIII)I"⟩
abbrev cX8_isSo : ByteArray := prog_10_method_78_code
def yX8_isSo : MethodName := ⟨RX8, "isSo", "(IIIII)Z"⟩
abbrev cX8_bestTry : ByteArray := prog_10_method_79_code
def yX8_bestTry : MethodName := ⟨RX8, "bestTry", "(IIIII)I"⟩
abbrev cX8_kinds : ByteArray := prog_10_method_80_code
def yX8_kinds : MethodName := ⟨RX8, "kinds", "(IIIIIII)I"⟩
abbrev cX8_fog : ByteArray := prog_10_method_81_code
def yX8_fog : MethodName := ⟨RX8, "fog", "(IIIIIII)I"⟩
abbrev cX8_harbours : ByteArray := prog_10_method_82_code
def yX8_harbours : MethodName := ⟨RX8, "harbours", "()I"⟩
abbrev cX8_inHarbour : ByteArray := prog_10_method_83_code
def yX8_inHarbour : MethodName := ⟨RX8, "inHarbour", "()I"⟩
abbrev cX8_count : ByteArray := prog_10_method_84_code
def yX8_count : MethodName := ⟨RX8, "count", "(I)I"⟩
def RJx145de : String := "java/io/Serializable"
def TJx145de : u_T := fun k => match k with
  | _ => ("", "", "", false)
def tyJx145de : Nat → FieldType := fun k => match k with
  | _ => .int
abbrev wsJx145de0 : List Cond := u_ws RJx145de TJx145de 0
theorem nmJx145de : ∀ a, a < 0 → ∀ b, b < 0 → a ≠ b → (TJx145de a).2.1 ≠ (TJx145de b).2.1 := by decide +kernel
theorem tyJx145de_ok : ∀ k, k < 0 → parseFieldDescriptor (TJx145de k).2.2.1 = some (tyJx145de k) := by decide +kernel
def RJx9f9b0 : String := "java/lang/CharSequence"
def TJx9f9b0 : u_T := fun k => match k with
  | _ => ("", "", "", false)
def tyJx9f9b0 : Nat → FieldType := fun k => match k with
  | _ => .int
abbrev wsJx9f9b00 : List Cond := u_ws RJx9f9b0 TJx9f9b0 0
theorem nmJx9f9b0 : ∀ a, a < 0 → ∀ b, b < 0 → a ≠ b → (TJx9f9b0 a).2.1 ≠ (TJx9f9b0 b).2.1 := by decide +kernel
theorem tyJx9f9b0_ok : ∀ k, k < 0 → parseFieldDescriptor (TJx9f9b0 k).2.2.1 = some (tyJx9f9b0 k) := by decide +kernel
def RJ11 : String := "java/lang/Character"
def TJ11 : u_T := fun k => match k with
  | _ => ("", "", "", false)
def tyJ11 : Nat → FieldType := fun k => match k with
  | _ => .int
abbrev wsJ110 : List Cond := u_ws RJ11 TJ11 0
theorem nmJ11 : ∀ a, a < 0 → ∀ b, b < 0 → a ≠ b → (TJ11 a).2.1 ≠ (TJ11 b).2.1 := by decide +kernel
theorem tyJ11_ok : ∀ k, k < 0 → parseFieldDescriptor (TJ11 k).2.2.1 = some (tyJ11 k) := by decide +kernel
abbrev cJ11_isValidCodePoint_9a6ad : ByteArray := prog_11_method_11_code
def yJ11_isValidCodePoint_9a6ad : MethodName := ⟨RJ11, "isValidCodePoint", "(I)Z"⟩
abbrev cJ11_highSurrogate_5068e : ByteArray := prog_11_method_28_code
def yJ11_highSurrogate_5068e : MethodName := ⟨RJ11, "highSurrogate", "(I)C"⟩
abbrev cJ11_lowSurrogate_5068e : ByteArray := prog_11_method_29_code
def yJ11_lowSurrogate_5068e : MethodName := ⟨RJ11, "lowSurrogate", "(I)C"⟩
def RJxb160c : String := "java/lang/Comparable"
def TJxb160c : u_T := fun k => match k with
  | _ => ("", "", "", false)
def tyJxb160c : Nat → FieldType := fun k => match k with
  | _ => .int
abbrev wsJxb160c0 : List Cond := u_ws RJxb160c TJxb160c 0
theorem nmJxb160c : ∀ a, a < 0 → ∀ b, b < 0 → a ≠ b → (TJxb160c a).2.1 ≠ (TJxb160c b).2.1 := by decide +kernel
theorem tyJxb160c_ok : ∀ k, k < 0 → parseFieldDescriptor (TJxb160c k).2.2.1 = some (tyJxb160c k) := by decide +kernel
def RJ9 : String := "java/lang/Math"
def TJ9 : u_T := fun k => match k with
  | _ => ("", "", "", false)
def tyJ9 : Nat → FieldType := fun k => match k with
  | _ => .int
abbrev wsJ90 : List Cond := u_ws RJ9 TJ9 0
theorem nmJ9 : ∀ a, a < 0 → ∀ b, b < 0 → a ≠ b → (TJ9 a).2.1 ≠ (TJ9 b).2.1 := by decide +kernel
theorem tyJ9_ok : ∀ k, k < 0 → parseFieldDescriptor (TJ9 k).2.2.1 = some (tyJ9 k) := by decide +kernel
abbrev cJ9_abs_0f7a4 : ByteArray := prog_12_method_59_code
def yJ9_abs_0f7a4 : MethodName := ⟨RJ9, "abs", "(I)I"⟩
abbrev cJ9_max_7cf53 : ByteArray := prog_12_method_65_code
def yJ9_max_7cf53 : MethodName := ⟨RJ9, "max", "(II)I"⟩
abbrev cJ9_min_7cf53 : ByteArray := prog_12_method_69_code
def yJ9_min_7cf53 : MethodName := ⟨RJ9, "min", "(II)I"⟩
def RJ0 : String := "java/lang/String"
def TJ0 : u_T := fun k => match k with
  | _ => ("", "", "", false)
def tyJ0 : Nat → FieldType := fun k => match k with
  | _ => .int
abbrev wsJ00 : List Cond := u_ws RJ0 TJ0 0
theorem nmJ0 : ∀ a, a < 0 → ∀ b, b < 0 → a ≠ b → (TJ0 a).2.1 ≠ (TJ0 b).2.1 := by decide +kernel
theorem tyJ0_ok : ∀ k, k < 0 → parseFieldDescriptor (TJ0 k).2.2.1 = some (tyJ0 k) := by decide +kernel
abbrev cJ0_length_8abf5 : ByteArray := prog_13_method_54_code
def yJ0_length_8abf5 : MethodName := ⟨RJ0, "length", "()I"⟩
abbrev cJ0_indexOf_0f7a4 : ByteArray := prog_13_method_79_code
def yJ0_indexOf_0f7a4 : MethodName := ⟨RJ0, "indexOf", "(I)I"⟩
abbrev cJ0_indexOf_7cf53 : ByteArray := prog_13_method_80_code
def yJ0_indexOf_7cf53 : MethodName := ⟨RJ0, "indexOf", "(II)I"⟩
abbrev cJ0_coder_7d493 : ByteArray := prog_13_method_152_code
def yJ0_coder_7d493 : MethodName := ⟨RJ0, "coder", "()B"⟩
abbrev cJ0_isLatin1_aae02 : ByteArray := prog_13_method_154_code
def yJ0_isLatin1_aae02 : MethodName := ⟨RJ0, "isLatin1", "()Z"⟩
abbrev cJ0_checkBoundsBeginEnd_23922 : ByteArray := prog_13_method_158_code
def yJ0_checkBoundsBeginEnd_23922 : MethodName := ⟨RJ0, "checkBoundsBeginEnd", "(III)V"⟩
def RJ1 : String := "java/lang/StringLatin1"
def TJ1 : u_T := fun k => match k with
  | _ => ("", "", "", false)
def tyJ1 : Nat → FieldType := fun k => match k with
  | _ => .int
abbrev wsJ10 : List Cond := u_ws RJ1 TJ1 0
theorem nmJ1 : ∀ a, a < 0 → ∀ b, b < 0 → a ≠ b → (TJ1 a).2.1 ≠ (TJ1 b).2.1 := by decide +kernel
theorem tyJ1_ok : ∀ k, k < 0 → parseFieldDescriptor (TJ1 k).2.2.1 = some (tyJ1 k) := by decide +kernel
abbrev cJ1_canEncode_9a6ad : ByteArray := prog_14_method_4_code
def yJ1_canEncode_9a6ad : MethodName := ⟨RJ1, "canEncode", "(I)Z"⟩
abbrev cJ1_indexOf_4cfef : ByteArray := prog_14_method_22_code
def yJ1_indexOf_4cfef : MethodName := ⟨RJ1, "indexOf", "([BIII)I"⟩
abbrev cJ1_indexOfChar_4cfef : ByteArray := prog_14_method_23_code
def yJ1_indexOfChar_4cfef : MethodName := ⟨RJ1, "indexOfChar", "([BIII)I"⟩
def RJ2 : String := "java/lang/StringUTF16"
def TJ2 : u_T := fun k => match k with
  | _ => ("", "", "", false)
def tyJ2 : Nat → FieldType := fun k => match k with
  | _ => .int
abbrev wsJ20 : List Cond := u_ws RJ2 TJ2 0
theorem nmJ2 : ∀ a, a < 0 → ∀ b, b < 0 → a ≠ b → (TJ2 a).2.1 ≠ (TJ2 b).2.1 := by decide +kernel
theorem tyJ2_ok : ∀ k, k < 0 → parseFieldDescriptor (TJ2 k).2.2.1 = some (tyJ2 k) := by decide +kernel
abbrev cJ2_getChar_3b067 : ByteArray := prog_15_method_5_code
def yJ2_getChar_3b067 : MethodName := ⟨RJ2, "getChar", "([BI)C"⟩
abbrev cJ2_length_9d52b : ByteArray := prog_15_method_6_code
def yJ2_length_9d52b : MethodName := ⟨RJ2, "length", "([B)I"⟩
abbrev cJ2_indexOf_4cfef : ByteArray := prog_15_method_40_code
def yJ2_indexOf_4cfef : MethodName := ⟨RJ2, "indexOf", "([BIII)I"⟩
abbrev cJ2_indexOfChar_4cfef : ByteArray := prog_15_method_47_code
def yJ2_indexOfChar_4cfef : MethodName := ⟨RJ2, "indexOfChar", "([BIII)I"⟩
abbrev cJ2_indexOfCharUnsafe_4cfef : ByteArray := prog_15_method_48_code
def yJ2_indexOfCharUnsafe_4cfef : MethodName := ⟨RJ2, "indexOfCharUnsafe", "([BIII)I"⟩
abbrev cJ2_indexOfSupplementary_4cfef : ByteArray := prog_15_method_49_code
def yJ2_indexOfSupplementary_4cfef : MethodName := ⟨RJ2, "indexOfSupplementary", "([BIII)I"⟩
abbrev cJ2_checkBoundsBeginEnd_d044e : ByteArray := prog_15_method_93_code
def yJ2_checkBoundsBeginEnd_d044e : MethodName := ⟨RJ2, "checkBoundsBeginEnd", "(II[B)V"⟩
def RJ10 : String := "java/lang/System"
def TJ10 : u_T := fun k => match k with
  | _ => ("", "", "", false)
def tyJ10 : Nat → FieldType := fun k => match k with
  | _ => .int
abbrev wsJ100 : List Cond := u_ws RJ10 TJ10 0
theorem nmJ10 : ∀ a, a < 0 → ∀ b, b < 0 → a ≠ b → (TJ10 a).2.1 ≠ (TJ10 b).2.1 := by decide +kernel
theorem tyJ10_ok : ∀ k, k < 0 → parseFieldDescriptor (TJ10 k).2.2.1 = some (tyJ10 k) := by decide +kernel
def RJxfd54e : String := "java/lang/constant/Constable"
def TJxfd54e : u_T := fun k => match k with
  | _ => ("", "", "", false)
def tyJxfd54e : Nat → FieldType := fun k => match k with
  | _ => .int
abbrev wsJxfd54e0 : List Cond := u_ws RJxfd54e TJxfd54e 0
theorem nmJxfd54e : ∀ a, a < 0 → ∀ b, b < 0 → a ≠ b → (TJxfd54e a).2.1 ≠ (TJxfd54e b).2.1 := by decide +kernel
theorem tyJxfd54e_ok : ∀ k, k < 0 → parseFieldDescriptor (TJxfd54e k).2.2.1 = some (tyJxfd54e k) := by decide +kernel
def RJx3cf43 : String := "java/lang/constant/ConstantDesc"
def TJx3cf43 : u_T := fun k => match k with
  | _ => ("", "", "", false)
def tyJx3cf43 : Nat → FieldType := fun k => match k with
  | _ => .int
abbrev wsJx3cf430 : List Cond := u_ws RJx3cf43 TJx3cf43 0
theorem nmJx3cf43 : ∀ a, a < 0 → ∀ b, b < 0 → a ≠ b → (TJx3cf43 a).2.1 ≠ (TJx3cf43 b).2.1 := by decide +kernel
theorem tyJx3cf43_ok : ∀ k, k < 0 → parseFieldDescriptor (TJx3cf43 k).2.2.1 = some (tyJx3cf43 k) := by decide +kernel
def RJ7 : String := "java/util/Arrays"
def TJ7 : u_T := fun k => match k with
  | _ => ("", "", "", false)
def tyJ7 : Nat → FieldType := fun k => match k with
  | _ => .int
abbrev wsJ70 : List Cond := u_ws RJ7 TJ7 0
theorem nmJ7 : ∀ a, a < 0 → ∀ b, b < 0 → a ≠ b → (TJ7 a).2.1 ≠ (TJ7 b).2.1 := by decide +kernel
theorem tyJ7_ok : ∀ k, k < 0 → parseFieldDescriptor (TJ7 k).2.2.1 = some (tyJ7 k) := by decide +kernel
abbrev cJ7_fill_d0a16 : ByteArray := prog_17_method_101_code
def yJ7_fill_d0a16 : MethodName := ⟨RJ7, "fill", "([JJ)V"⟩
abbrev cJ7_fill_53178 : ByteArray := prog_17_method_103_code
def yJ7_fill_53178 : MethodName := ⟨RJ7, "fill", "([II)V"⟩
def RJ3 : String := "jdk/internal/util/Preconditions"
def TJ3 : u_T := fun k => match k with
  | _ => ("", "", "", false)
def tyJ3 : Nat → FieldType := fun k => match k with
  | _ => .int
abbrev wsJ30 : List Cond := u_ws RJ3 TJ3 0
theorem nmJ3 : ∀ a, a < 0 → ∀ b, b < 0 → a ≠ b → (TJ3 a).2.1 ≠ (TJ3 b).2.1 := by decide +kernel
theorem tyJ3_ok : ∀ k, k < 0 → parseFieldDescriptor (TJ3 k).2.2.1 = some (tyJ3 k) := by decide +kernel
abbrev cJ3_checkFromToIndex_8c36e : ByteArray := prog_18_method_12_code
def yJ3_checkFromToIndex_8c36e : MethodName := ⟨RJ3, "checkFromToIndex", "(IIILjava/util/function/BiFunction;)I"⟩
def RL : String := "FigureHeadsLaw"
abbrev cL_law : ByteArray := code
def yL_law : MethodName := ⟨RL, "law", "([I)Z"⟩
end
section
theorem dX0_init_0 : decode cX0_init 0 = .ok (.aload_n 0, 1) := by decide +kernel
theorem dX0_init_1 : decode cX0_init 1 = .ok (.invokespecial 3, 3) := by decide +kernel
theorem dX0_init_4 : decode cX0_init 4 = .ok (.aload_n 0, 1) := by decide +kernel
theorem dX0_init_5 : decode cX0_init 5 = .ok (.bipush 24, 2) := by decide +kernel
theorem dX0_init_7 : decode cX0_init 7 = .ok (.anewarray 9, 3) := by decide +kernel
theorem dX0_init_10 : decode cX0_init 10 = .ok (.putfield 11, 3) := by decide +kernel
theorem dX0_init_13 : decode cX0_init 13 = .ok (.aload_n 0, 1) := by decide +kernel
theorem dX0_init_14 : decode cX0_init 14 = .ok (.bipush 24, 2) := by decide +kernel
theorem dX0_init_16 : decode cX0_init 16 = .ok (.newarray .int, 2) := by decide +kernel
theorem dX0_init_18 : decode cX0_init 18 = .ok (.putfield 17, 3) := by decide +kernel
theorem dX0_init_21 : decode cX0_init 21 = .ok (.aload_n 0, 1) := by decide +kernel
theorem dX0_init_22 : decode cX0_init 22 = .ok (.bipush 24, 2) := by decide +kernel
theorem dX0_init_24 : decode cX0_init 24 = .ok (.newarray .int, 2) := by decide +kernel
theorem dX0_init_26 : decode cX0_init 26 = .ok (.putfield 21, 3) := by decide +kernel
theorem dX0_init_29 : decode cX0_init 29 = .ok (.aload_n 0, 1) := by decide +kernel
theorem dX0_init_30 : decode cX0_init 30 = .ok (.iconst 0, 1) := by decide +kernel
theorem dX0_init_31 : decode cX0_init 31 = .ok (.putfield 24, 3) := by decide +kernel
theorem dX0_init_34 : decode cX0_init 34 = .ok (.aload_n 0, 1) := by decide +kernel
theorem dX0_init_35 : decode cX0_init 35 = .ok (.iconst 0, 1) := by decide +kernel
theorem dX0_init_36 : decode cX0_init 36 = .ok (.putfield 28, 3) := by decide +kernel
theorem dX0_init_39 : decode cX0_init 39 = .ok (.iconst 0, 1) := by decide +kernel
theorem dX0_init_40 : decode cX0_init 40 = .ok (.istore_n 2, 1) := by decide +kernel
theorem dX0_init_41 : decode cX0_init 41 = .ok (.iload_n 2, 1) := by decide +kernel
theorem dX0_init_42 : decode cX0_init 42 = .ok (.bipush 24, 2) := by decide +kernel
theorem dX0_init_44 : decode cX0_init 44 = .ok (.if_icmp .ge 23, 3) := by decide +kernel
theorem dX0_init_47 : decode cX0_init 47 = .ok (.aload_n 0, 1) := by decide +kernel
theorem dX0_init_48 : decode cX0_init 48 = .ok (.getfield 11, 3) := by decide +kernel
theorem dX0_init_51 : decode cX0_init 51 = .ok (.iload_n 2, 1) := by decide +kernel
theorem dX0_init_52 : decode cX0_init 52 = .ok (.new 9, 3) := by decide +kernel
theorem dX0_init_55 : decode cX0_init 55 = .ok (.dup, 1) := by decide +kernel
theorem dX0_init_56 : decode cX0_init 56 = .ok (.aload_n 1, 1) := by decide +kernel
theorem dX0_init_57 : decode cX0_init 57 = .ok (.invokespecial 31, 3) := by decide +kernel
theorem dX0_init_60 : decode cX0_init 60 = .ok (.aastore, 1) := by decide +kernel
theorem dX0_init_61 : decode cX0_init 61 = .ok (.iinc 2 1, 3) := by decide +kernel
theorem dX0_init_64 : decode cX0_init 64 = .ok (.goto (-23), 3) := by decide +kernel
theorem dX0_init_67 : decode cX0_init 67 = .ok (.return_, 1) := by decide +kernel
theorem dX0_forget_0 : decode cX0_forget 0 = .ok (.aload_n 0, 1) := by decide +kernel
theorem dX0_forget_1 : decode cX0_forget 1 = .ok (.iconst 0, 1) := by decide +kernel
theorem dX0_forget_2 : decode cX0_forget 2 = .ok (.putfield 24, 3) := by decide +kernel
theorem dX0_forget_5 : decode cX0_forget 5 = .ok (.return_, 1) := by decide +kernel
theorem dX0_keep_0 : decode cX0_keep 0 = .ok (.aload_n 0, 1) := by decide +kernel
theorem dX0_keep_1 : decode cX0_keep 1 = .ok (.getfield 11, 3) := by decide +kernel
theorem dX0_keep_4 : decode cX0_keep 4 = .ok (.aload_n 0, 1) := by decide +kernel
theorem dX0_keep_5 : decode cX0_keep 5 = .ok (.getfield 28, 3) := by decide +kernel
theorem dX0_keep_8 : decode cX0_keep 8 = .ok (.aaload, 1) := by decide +kernel
theorem dX0_keep_9 : decode cX0_keep 9 = .ok (.aload_n 1, 1) := by decide +kernel
theorem dX0_keep_10 : decode cX0_keep 10 = .ok (.iload_n 2, 1) := by decide +kernel
theorem dX0_keep_11 : decode cX0_keep 11 = .ok (.invokevirtual 34, 3) := by decide +kernel
theorem dX0_keep_14 : decode cX0_keep 14 = .ok (.aload_n 0, 1) := by decide +kernel
theorem dX0_keep_15 : decode cX0_keep 15 = .ok (.getfield 17, 3) := by decide +kernel
theorem dX0_keep_18 : decode cX0_keep 18 = .ok (.aload_n 0, 1) := by decide +kernel
theorem dX0_keep_19 : decode cX0_keep 19 = .ok (.getfield 28, 3) := by decide +kernel
theorem dX0_keep_22 : decode cX0_keep 22 = .ok (.iload_n 2, 1) := by decide +kernel
theorem dX0_keep_23 : decode cX0_keep 23 = .ok (.iastore, 1) := by decide +kernel
theorem dX0_keep_24 : decode cX0_keep 24 = .ok (.aload_n 0, 1) := by decide +kernel
theorem dX0_keep_25 : decode cX0_keep 25 = .ok (.getfield 21, 3) := by decide +kernel
theorem dX0_keep_28 : decode cX0_keep 28 = .ok (.aload_n 0, 1) := by decide +kernel
theorem dX0_keep_29 : decode cX0_keep 29 = .ok (.getfield 28, 3) := by decide +kernel
theorem dX0_keep_32 : decode cX0_keep 32 = .ok (.aload_n 1, 1) := by decide +kernel
theorem dX0_keep_33 : decode cX0_keep 33 = .ok (.getfield 38, 3) := by decide +kernel
theorem dX0_keep_36 : decode cX0_keep 36 = .ok (.iastore, 1) := by decide +kernel
theorem dX0_keep_37 : decode cX0_keep 37 = .ok (.aload_n 0, 1) := by decide +kernel
theorem dX0_keep_38 : decode cX0_keep 38 = .ok (.aload_n 0, 1) := by decide +kernel
theorem dX0_keep_39 : decode cX0_keep 39 = .ok (.getfield 28, 3) := by decide +kernel
theorem dX0_keep_42 : decode cX0_keep 42 = .ok (.iconst 1, 1) := by decide +kernel
theorem dX0_keep_43 : decode cX0_keep 43 = .ok (.iadd, 1) := by decide +kernel
theorem dX0_keep_44 : decode cX0_keep 44 = .ok (.bipush 24, 2) := by decide +kernel
theorem dX0_keep_46 : decode cX0_keep 46 = .ok (.irem, 1) := by decide +kernel
theorem dX0_keep_47 : decode cX0_keep 47 = .ok (.putfield 28, 3) := by decide +kernel
theorem dX0_keep_50 : decode cX0_keep 50 = .ok (.aload_n 0, 1) := by decide +kernel
theorem dX0_keep_51 : decode cX0_keep 51 = .ok (.bipush 24, 2) := by decide +kernel
theorem dX0_keep_53 : decode cX0_keep 53 = .ok (.aload_n 0, 1) := by decide +kernel
theorem dX0_keep_54 : decode cX0_keep 54 = .ok (.getfield 24, 3) := by decide +kernel
theorem dX0_keep_57 : decode cX0_keep 57 = .ok (.iconst 1, 1) := by decide +kernel
theorem dX0_keep_58 : decode cX0_keep 58 = .ok (.iadd, 1) := by decide +kernel
theorem dX0_keep_59 : decode cX0_keep 59 = .ok (.invokestatic 42, 3) := by decide +kernel
theorem dX0_keep_62 : decode cX0_keep 62 = .ok (.putfield 24, 3) := by decide +kernel
theorem dX0_keep_65 : decode cX0_keep 65 = .ok (.return_, 1) := by decide +kernel
theorem dX0_giveBack_0 : decode cX0_giveBack 0 = .ok (.aload_n 0, 1) := by decide +kernel
theorem dX0_giveBack_1 : decode cX0_giveBack 1 = .ok (.getfield 24, 3) := by decide +kernel
theorem dX0_giveBack_4 : decode cX0_giveBack 4 = .ok (.ifCond .gt 5, 3) := by decide +kernel
theorem dX0_giveBack_7 : decode cX0_giveBack 7 = .ok (.iconst 0, 1) := by decide +kernel
theorem dX0_giveBack_8 : decode cX0_giveBack 8 = .ok (.ireturn, 1) := by decide +kernel
theorem dX0_giveBack_9 : decode cX0_giveBack 9 = .ok (.aload_n 0, 1) := by decide +kernel
theorem dX0_giveBack_10 : decode cX0_giveBack 10 = .ok (.aload_n 0, 1) := by decide +kernel
theorem dX0_giveBack_11 : decode cX0_giveBack 11 = .ok (.getfield 28, 3) := by decide +kernel
theorem dX0_giveBack_14 : decode cX0_giveBack 14 = .ok (.bipush 24, 2) := by decide +kernel
theorem dX0_giveBack_16 : decode cX0_giveBack 16 = .ok (.iadd, 1) := by decide +kernel
theorem dX0_giveBack_17 : decode cX0_giveBack 17 = .ok (.iconst 1, 1) := by decide +kernel
theorem dX0_giveBack_18 : decode cX0_giveBack 18 = .ok (.isub, 1) := by decide +kernel
theorem dX0_giveBack_19 : decode cX0_giveBack 19 = .ok (.bipush 24, 2) := by decide +kernel
theorem dX0_giveBack_21 : decode cX0_giveBack 21 = .ok (.irem, 1) := by decide +kernel
theorem dX0_giveBack_22 : decode cX0_giveBack 22 = .ok (.putfield 28, 3) := by decide +kernel
theorem dX0_giveBack_25 : decode cX0_giveBack 25 = .ok (.aload_n 0, 1) := by decide +kernel
theorem dX0_giveBack_26 : decode cX0_giveBack 26 = .ok (.dup, 1) := by decide +kernel
theorem dX0_giveBack_27 : decode cX0_giveBack 27 = .ok (.getfield 24, 3) := by decide +kernel
theorem dX0_giveBack_30 : decode cX0_giveBack 30 = .ok (.iconst 1, 1) := by decide +kernel
theorem dX0_giveBack_31 : decode cX0_giveBack 31 = .ok (.isub, 1) := by decide +kernel
theorem dX0_giveBack_32 : decode cX0_giveBack 32 = .ok (.putfield 24, 3) := by decide +kernel
theorem dX0_giveBack_35 : decode cX0_giveBack 35 = .ok (.aload_n 0, 1) := by decide +kernel
theorem dX0_giveBack_36 : decode cX0_giveBack 36 = .ok (.getfield 11, 3) := by decide +kernel
theorem dX0_giveBack_39 : decode cX0_giveBack 39 = .ok (.aload_n 0, 1) := by decide +kernel
theorem dX0_giveBack_40 : decode cX0_giveBack 40 = .ok (.getfield 28, 3) := by decide +kernel
theorem dX0_giveBack_43 : decode cX0_giveBack 43 = .ok (.aaload, 1) := by decide +kernel
theorem dX0_giveBack_44 : decode cX0_giveBack 44 = .ok (.aload_n 1, 1) := by decide +kernel
theorem dX0_giveBack_45 : decode cX0_giveBack 45 = .ok (.aload_n 0, 1) := by decide +kernel
theorem dX0_giveBack_46 : decode cX0_giveBack 46 = .ok (.getfield 17, 3) := by decide +kernel
theorem dX0_giveBack_49 : decode cX0_giveBack 49 = .ok (.aload_n 0, 1) := by decide +kernel
theorem dX0_giveBack_50 : decode cX0_giveBack 50 = .ok (.getfield 28, 3) := by decide +kernel
theorem dX0_giveBack_53 : decode cX0_giveBack 53 = .ok (.iaload, 1) := by decide +kernel
theorem dX0_giveBack_54 : decode cX0_giveBack 54 = .ok (.invokevirtual 48, 3) := by decide +kernel
theorem dX0_giveBack_57 : decode cX0_giveBack 57 = .ok (.aload_n 1, 1) := by decide +kernel
theorem dX0_giveBack_58 : decode cX0_giveBack 58 = .ok (.aload_n 0, 1) := by decide +kernel
theorem dX0_giveBack_59 : decode cX0_giveBack 59 = .ok (.getfield 21, 3) := by decide +kernel
theorem dX0_giveBack_62 : decode cX0_giveBack 62 = .ok (.aload_n 0, 1) := by decide +kernel
theorem dX0_giveBack_63 : decode cX0_giveBack 63 = .ok (.getfield 28, 3) := by decide +kernel
theorem dX0_giveBack_66 : decode cX0_giveBack 66 = .ok (.iaload, 1) := by decide +kernel
theorem dX0_giveBack_67 : decode cX0_giveBack 67 = .ok (.putfield 38, 3) := by decide +kernel
theorem dX0_giveBack_70 : decode cX0_giveBack 70 = .ok (.iconst 1, 1) := by decide +kernel
theorem dX0_giveBack_71 : decode cX0_giveBack 71 = .ok (.ireturn, 1) := by decide +kernel
theorem dX1_init_0 : decode cX1_init 0 = .ok (.aload_n 0, 1) := by decide +kernel
theorem dX1_init_1 : decode cX1_init 1 = .ok (.invokespecial 3, 3) := by decide +kernel
theorem dX1_init_4 : decode cX1_init 4 = .ok (.aload_n 0, 1) := by decide +kernel
theorem dX1_init_5 : decode cX1_init 5 = .ok (.sipush 192, 3) := by decide +kernel
theorem dX1_init_8 : decode cX1_init 8 = .ok (.newarray .int, 2) := by decide +kernel
theorem dX1_init_10 : decode cX1_init 10 = .ok (.putfield 11, 3) := by decide +kernel
theorem dX1_init_13 : decode cX1_init 13 = .ok (.aload_n 0, 1) := by decide +kernel
theorem dX1_init_14 : decode cX1_init 14 = .ok (.sipush 192, 3) := by decide +kernel
theorem dX1_init_17 : decode cX1_init 17 = .ok (.newarray .int, 2) := by decide +kernel
theorem dX1_init_19 : decode cX1_init 19 = .ok (.putfield 15, 3) := by decide +kernel
theorem dX1_init_22 : decode cX1_init 22 = .ok (.aload_n 0, 1) := by decide +kernel
theorem dX1_init_23 : decode cX1_init 23 = .ok (.sipush 192, 3) := by decide +kernel
theorem dX1_init_26 : decode cX1_init 26 = .ok (.newarray .int, 2) := by decide +kernel
theorem dX1_init_28 : decode cX1_init 28 = .ok (.putfield 18, 3) := by decide +kernel
theorem dX1_init_31 : decode cX1_init 31 = .ok (.aload_n 0, 1) := by decide +kernel
theorem dX1_init_32 : decode cX1_init 32 = .ok (.sipush 192, 3) := by decide +kernel
theorem dX1_init_35 : decode cX1_init 35 = .ok (.newarray .int, 2) := by decide +kernel
theorem dX1_init_37 : decode cX1_init 37 = .ok (.putfield 21, 3) := by decide +kernel
theorem dX1_init_40 : decode cX1_init 40 = .ok (.aload_n 0, 1) := by decide +kernel
theorem dX1_init_41 : decode cX1_init 41 = .ok (.iconst 0, 1) := by decide +kernel
theorem dX1_init_42 : decode cX1_init 42 = .ok (.putfield 24, 3) := by decide +kernel
theorem dX1_init_45 : decode cX1_init 45 = .ok (.aload_n 0, 1) := by decide +kernel
theorem dX1_init_46 : decode cX1_init 46 = .ok (.aload_n 1, 1) := by decide +kernel
theorem dX1_init_47 : decode cX1_init 47 = .ok (.putfield 28, 3) := by decide +kernel
theorem dX1_init_50 : decode cX1_init 50 = .ok (.return_, 1) := by decide +kernel
theorem dX1_search_0 : decode cX1_search 0 = .ok (.aload_n 0, 1) := by decide +kernel
theorem dX1_search_1 : decode cX1_search 1 = .ok (.getfield 21, 3) := by decide +kernel
theorem dX1_search_4 : decode cX1_search 4 = .ok (.iconst (-1), 1) := by decide +kernel
theorem dX1_search_5 : decode cX1_search 5 = .ok (.invokestatic 32, 3) := by decide +kernel
theorem dX1_search_8 : decode cX1_search 8 = .ok (.aload_n 1, 1) := by decide +kernel
theorem dX1_search_9 : decode cX1_search 9 = .ok (.iload_n 2, 1) := by decide +kernel
theorem dX1_search_10 : decode cX1_search 10 = .ok (.invokevirtual 38, 3) := by decide +kernel
theorem dX1_search_13 : decode cX1_search 13 = .ok (.istore 4, 2) := by decide +kernel
theorem dX1_search_15 : decode cX1_search 15 = .ok (.aload_n 0, 1) := by decide +kernel
theorem dX1_search_16 : decode cX1_search 16 = .ok (.iconst 0, 1) := by decide +kernel
theorem dX1_search_17 : decode cX1_search 17 = .ok (.putfield 24, 3) := by decide +kernel
theorem dX1_search_20 : decode cX1_search 20 = .ok (.aload_n 0, 1) := by decide +kernel
theorem dX1_search_21 : decode cX1_search 21 = .ok (.iconst 4, 1) := by decide +kernel
theorem dX1_search_22 : decode cX1_search 22 = .ok (.aload_n 1, 1) := by decide +kernel
theorem dX1_search_23 : decode cX1_search 23 = .ok (.getfield 44, 3) := by decide +kernel
theorem dX1_search_26 : decode cX1_search 26 = .ok (.imul, 1) := by decide +kernel
theorem dX1_search_27 : decode cX1_search 27 = .ok (.aload_n 1, 1) := by decide +kernel
theorem dX1_search_28 : decode cX1_search 28 = .ok (.getfield 47, 3) := by decide +kernel
theorem dX1_search_31 : decode cX1_search 31 = .ok (.iadd, 1) := by decide +kernel
theorem dX1_search_32 : decode cX1_search 32 = .ok (.iconst 0, 1) := by decide +kernel
theorem dX1_search_33 : decode cX1_search 33 = .ok (.iconst 0, 1) := by decide +kernel
theorem dX1_search_34 : decode cX1_search 34 = .ok (.iconst 0, 1) := by decide +kernel
theorem dX1_search_35 : decode cX1_search 35 = .ok (.invokevirtual 50, 3) := by decide +kernel
theorem dX1_search_38 : decode cX1_search 38 = .ok (.iconst 0, 1) := by decide +kernel
theorem dX1_search_39 : decode cX1_search 39 = .ok (.istore 5, 2) := by decide +kernel
theorem dX1_search_41 : decode cX1_search 41 = .ok (.iload 5, 2) := by decide +kernel
theorem dX1_search_43 : decode cX1_search 43 = .ok (.aload_n 0, 1) := by decide +kernel
theorem dX1_search_44 : decode cX1_search 44 = .ok (.getfield 24, 3) := by decide +kernel
theorem dX1_search_47 : decode cX1_search 47 = .ok (.if_icmp .ge 49, 3) := by decide +kernel
theorem dX1_search_50 : decode cX1_search 50 = .ok (.iload 5, 2) := by decide +kernel
theorem dX1_search_52 : decode cX1_search 52 = .ok (.sipush 192, 3) := by decide +kernel
theorem dX1_search_55 : decode cX1_search 55 = .ok (.if_icmp .ge 41, 3) := by decide +kernel
theorem dX1_search_58 : decode cX1_search 58 = .ok (.aload_n 0, 1) := by decide +kernel
theorem dX1_search_59 : decode cX1_search 59 = .ok (.getfield 11, 3) := by decide +kernel
theorem dX1_search_62 : decode cX1_search 62 = .ok (.iload 5, 2) := by decide +kernel
theorem dX1_search_64 : decode cX1_search 64 = .ok (.iaload, 1) := by decide +kernel
theorem dX1_search_65 : decode cX1_search 65 = .ok (.istore 6, 2) := by decide +kernel
theorem dX1_search_67 : decode cX1_search 67 = .ok (.iload 6, 2) := by decide +kernel
theorem dX1_search_69 : decode cX1_search 69 = .ok (.iconst 4, 1) := by decide +kernel
theorem dX1_search_70 : decode cX1_search 70 = .ok (.idiv, 1) := by decide +kernel
theorem dX1_search_71 : decode cX1_search 71 = .ok (.iload_n 3, 1) := by decide +kernel
theorem dX1_search_72 : decode cX1_search 72 = .ok (.if_icmp .ne 6, 3) := by decide +kernel
theorem dX1_search_75 : decode cX1_search 75 = .ok (.iload 6, 2) := by decide +kernel
theorem dX1_search_77 : decode cX1_search 77 = .ok (.ireturn, 1) := by decide +kernel
theorem dX1_search_78 : decode cX1_search 78 = .ok (.aload_n 0, 1) := by decide +kernel
theorem dX1_search_79 : decode cX1_search 79 = .ok (.iload 6, 2) := by decide +kernel
theorem dX1_search_81 : decode cX1_search 81 = .ok (.aload_n 1, 1) := by decide +kernel
theorem dX1_search_82 : decode cX1_search 82 = .ok (.getfield 54, 3) := by decide +kernel
theorem dX1_search_85 : decode cX1_search 85 = .ok (.iload 4, 2) := by decide +kernel
theorem dX1_search_87 : decode cX1_search 87 = .ok (.invokevirtual 57, 3) := by decide +kernel
theorem dX1_search_90 : decode cX1_search 90 = .ok (.iinc 5 1, 3) := by decide +kernel
theorem dX1_search_93 : decode cX1_search 93 = .ok (.goto (-52), 3) := by decide +kernel
theorem dX1_search_96 : decode cX1_search 96 = .ok (.bipush (-4), 2) := by decide +kernel
theorem dX1_search_98 : decode cX1_search 98 = .ok (.ireturn, 1) := by decide +kernel
theorem dX1_spread_0 : decode cX1_spread 0 = .ok (.iconst 0, 1) := by decide +kernel
theorem dX1_spread_1 : decode cX1_spread 1 = .ok (.istore 4, 2) := by decide +kernel
theorem dX1_spread_3 : decode cX1_spread 3 = .ok (.iload 4, 2) := by decide +kernel
theorem dX1_spread_5 : decode cX1_spread 5 = .ok (.iconst 3, 1) := by decide +kernel
theorem dX1_spread_6 : decode cX1_spread 6 = .ok (.if_icmp .ge 71, 3) := by decide +kernel
theorem dX1_spread_9 : decode cX1_spread 9 = .ok (.iload_n 3, 1) := by decide +kernel
theorem dX1_spread_10 : decode cX1_spread 10 = .ok (.ifCond .eq 15, 3) := by decide +kernel
theorem dX1_spread_13 : decode cX1_spread 13 = .ok (.iload_n 2, 1) := by decide +kernel
theorem dX1_spread_14 : decode cX1_spread 14 = .ok (.iload_n 1, 1) := by decide +kernel
theorem dX1_spread_15 : decode cX1_spread 15 = .ok (.iconst 4, 1) := by decide +kernel
theorem dX1_spread_16 : decode cX1_spread 16 = .ok (.irem, 1) := by decide +kernel
theorem dX1_spread_17 : decode cX1_spread 17 = .ok (.iload 4, 2) := by decide +kernel
theorem dX1_spread_19 : decode cX1_spread 19 = .ok (.invokestatic 61, 3) := by decide +kernel
theorem dX1_spread_22 : decode cX1_spread 22 = .ok (.goto 6, 3) := by decide +kernel
theorem dX1_spread_25 : decode cX1_spread 25 = .ok (.iload_n 1, 1) := by decide +kernel
theorem dX1_spread_26 : decode cX1_spread 26 = .ok (.iconst 4, 1) := by decide +kernel
theorem dX1_spread_27 : decode cX1_spread 27 = .ok (.irem, 1) := by decide +kernel
theorem dX1_spread_28 : decode cX1_spread 28 = .ok (.istore 5, 2) := by decide +kernel
theorem dX1_spread_30 : decode cX1_spread 30 = .ok (.aload_n 0, 1) := by decide +kernel
theorem dX1_spread_31 : decode cX1_spread 31 = .ok (.getfield 28, 3) := by decide +kernel
theorem dX1_spread_34 : decode cX1_spread 34 = .ok (.iload_n 1, 1) := by decide +kernel
theorem dX1_spread_35 : decode cX1_spread 35 = .ok (.iconst 4, 1) := by decide +kernel
theorem dX1_spread_36 : decode cX1_spread 36 = .ok (.idiv, 1) := by decide +kernel
theorem dX1_spread_37 : decode cX1_spread 37 = .ok (.iload 5, 2) := by decide +kernel
theorem dX1_spread_39 : decode cX1_spread 39 = .ok (.invokevirtual 65, 3) := by decide +kernel
theorem dX1_spread_42 : decode cX1_spread 42 = .ok (.istore 6, 2) := by decide +kernel
theorem dX1_spread_44 : decode cX1_spread 44 = .ok (.iload 6, 2) := by decide +kernel
theorem dX1_spread_46 : decode cX1_spread 46 = .ok (.ifCond .lt 25, 3) := by decide +kernel
theorem dX1_spread_49 : decode cX1_spread 49 = .ok (.aload_n 0, 1) := by decide +kernel
theorem dX1_spread_50 : decode cX1_spread 50 = .ok (.iconst 4, 1) := by decide +kernel
theorem dX1_spread_51 : decode cX1_spread 51 = .ok (.iload 6, 2) := by decide +kernel
theorem dX1_spread_53 : decode cX1_spread 53 = .ok (.imul, 1) := by decide +kernel
theorem dX1_spread_54 : decode cX1_spread 54 = .ok (.iload 5, 2) := by decide +kernel
theorem dX1_spread_56 : decode cX1_spread 56 = .ok (.iadd, 1) := by decide +kernel
theorem dX1_spread_57 : decode cX1_spread 57 = .ok (.iload_n 1, 1) := by decide +kernel
theorem dX1_spread_58 : decode cX1_spread 58 = .ok (.iload 4, 2) := by decide +kernel
theorem dX1_spread_60 : decode cX1_spread 60 = .ok (.aload_n 0, 1) := by decide +kernel
theorem dX1_spread_61 : decode cX1_spread 61 = .ok (.getfield 21, 3) := by decide +kernel
theorem dX1_spread_64 : decode cX1_spread 64 = .ok (.iload_n 1, 1) := by decide +kernel
theorem dX1_spread_65 : decode cX1_spread 65 = .ok (.iaload, 1) := by decide +kernel
theorem dX1_spread_66 : decode cX1_spread 66 = .ok (.iconst 1, 1) := by decide +kernel
theorem dX1_spread_67 : decode cX1_spread 67 = .ok (.iadd, 1) := by decide +kernel
theorem dX1_spread_68 : decode cX1_spread 68 = .ok (.invokevirtual 50, 3) := by decide +kernel
theorem dX1_spread_71 : decode cX1_spread 71 = .ok (.iinc 4 1, 3) := by decide +kernel
theorem dX1_spread_74 : decode cX1_spread 74 = .ok (.goto (-71), 3) := by decide +kernel
theorem dX1_spread_77 : decode cX1_spread 77 = .ok (.return_, 1) := by decide +kernel
theorem dX1_mark_0 : decode cX1_mark 0 = .ok (.aload_n 0, 1) := by decide +kernel
theorem dX1_mark_1 : decode cX1_mark 1 = .ok (.getfield 21, 3) := by decide +kernel
theorem dX1_mark_4 : decode cX1_mark 4 = .ok (.iload_n 1, 1) := by decide +kernel
theorem dX1_mark_5 : decode cX1_mark 5 = .ok (.iaload, 1) := by decide +kernel
theorem dX1_mark_6 : decode cX1_mark 6 = .ok (.ifCond .ge 13, 3) := by decide +kernel
theorem dX1_mark_9 : decode cX1_mark 9 = .ok (.aload_n 0, 1) := by decide +kernel
theorem dX1_mark_10 : decode cX1_mark 10 = .ok (.getfield 24, 3) := by decide +kernel
theorem dX1_mark_13 : decode cX1_mark 13 = .ok (.sipush 192, 3) := by decide +kernel
theorem dX1_mark_16 : decode cX1_mark 16 = .ok (.if_icmp .lt 4, 3) := by decide +kernel
theorem dX1_mark_19 : decode cX1_mark 19 = .ok (.return_, 1) := by decide +kernel
theorem dX1_mark_20 : decode cX1_mark 20 = .ok (.aload_n 0, 1) := by decide +kernel
theorem dX1_mark_21 : decode cX1_mark 21 = .ok (.getfield 11, 3) := by decide +kernel
theorem dX1_mark_24 : decode cX1_mark 24 = .ok (.aload_n 0, 1) := by decide +kernel
theorem dX1_mark_25 : decode cX1_mark 25 = .ok (.getfield 24, 3) := by decide +kernel
theorem dX1_mark_28 : decode cX1_mark 28 = .ok (.iload_n 1, 1) := by decide +kernel
theorem dX1_mark_29 : decode cX1_mark 29 = .ok (.iastore, 1) := by decide +kernel
theorem dX1_mark_30 : decode cX1_mark 30 = .ok (.aload_n 0, 1) := by decide +kernel
theorem dX1_mark_31 : decode cX1_mark 31 = .ok (.dup, 1) := by decide +kernel
theorem dX1_mark_32 : decode cX1_mark 32 = .ok (.getfield 24, 3) := by decide +kernel
theorem dX1_mark_35 : decode cX1_mark 35 = .ok (.iconst 1, 1) := by decide +kernel
theorem dX1_mark_36 : decode cX1_mark 36 = .ok (.iadd, 1) := by decide +kernel
theorem dX1_mark_37 : decode cX1_mark 37 = .ok (.putfield 24, 3) := by decide +kernel
theorem dX1_mark_40 : decode cX1_mark 40 = .ok (.aload_n 0, 1) := by decide +kernel
theorem dX1_mark_41 : decode cX1_mark 41 = .ok (.getfield 15, 3) := by decide +kernel
theorem dX1_mark_44 : decode cX1_mark 44 = .ok (.iload_n 1, 1) := by decide +kernel
theorem dX1_mark_45 : decode cX1_mark 45 = .ok (.iload_n 2, 1) := by decide +kernel
theorem dX1_mark_46 : decode cX1_mark 46 = .ok (.iastore, 1) := by decide +kernel
theorem dX1_mark_47 : decode cX1_mark 47 = .ok (.aload_n 0, 1) := by decide +kernel
theorem dX1_mark_48 : decode cX1_mark 48 = .ok (.getfield 18, 3) := by decide +kernel
theorem dX1_mark_51 : decode cX1_mark 51 = .ok (.iload_n 1, 1) := by decide +kernel
theorem dX1_mark_52 : decode cX1_mark 52 = .ok (.iload_n 3, 1) := by decide +kernel
theorem dX1_mark_53 : decode cX1_mark 53 = .ok (.iastore, 1) := by decide +kernel
theorem dX1_mark_54 : decode cX1_mark 54 = .ok (.aload_n 0, 1) := by decide +kernel
theorem dX1_mark_55 : decode cX1_mark 55 = .ok (.getfield 21, 3) := by decide +kernel
theorem dX1_mark_58 : decode cX1_mark 58 = .ok (.iload_n 1, 1) := by decide +kernel
theorem dX1_mark_59 : decode cX1_mark 59 = .ok (.iload 4, 2) := by decide +kernel
theorem dX1_mark_61 : decode cX1_mark 61 = .ok (.iastore, 1) := by decide +kernel
theorem dX1_mark_62 : decode cX1_mark 62 = .ok (.return_, 1) := by decide +kernel
theorem dX1_wordTo_0 : decode cX1_wordTo 0 = .ok (.iload_n 2, 1) := by decide +kernel
theorem dX1_wordTo_1 : decode cX1_wordTo 1 = .ok (.ifCond .lt 13, 3) := by decide +kernel
theorem dX1_wordTo_4 : decode cX1_wordTo 4 = .ok (.iload_n 2, 1) := by decide +kernel
theorem dX1_wordTo_5 : decode cX1_wordTo 5 = .ok (.aload_n 0, 1) := by decide +kernel
theorem dX1_wordTo_6 : decode cX1_wordTo 6 = .ok (.getfield 21, 3) := by decide +kernel
theorem dX1_wordTo_9 : decode cX1_wordTo 9 = .ok (.iload_n 1, 1) := by decide +kernel
theorem dX1_wordTo_10 : decode cX1_wordTo 10 = .ok (.iaload, 1) := by decide +kernel
theorem dX1_wordTo_11 : decode cX1_wordTo 11 = .ok (.if_icmp .lt 6, 3) := by decide +kernel
theorem dX1_wordTo_14 : decode cX1_wordTo 14 = .ok (.bipush (-4), 2) := by decide +kernel
theorem dX1_wordTo_16 : decode cX1_wordTo 16 = .ok (.ireturn, 1) := by decide +kernel
theorem dX1_wordTo_17 : decode cX1_wordTo 17 = .ok (.iload_n 1, 1) := by decide +kernel
theorem dX1_wordTo_18 : decode cX1_wordTo 18 = .ok (.istore_n 3, 1) := by decide +kernel
theorem dX1_wordTo_19 : decode cX1_wordTo 19 = .ok (.aload_n 0, 1) := by decide +kernel
theorem dX1_wordTo_20 : decode cX1_wordTo 20 = .ok (.getfield 21, 3) := by decide +kernel
theorem dX1_wordTo_23 : decode cX1_wordTo 23 = .ok (.iload_n 1, 1) := by decide +kernel
theorem dX1_wordTo_24 : decode cX1_wordTo 24 = .ok (.iaload, 1) := by decide +kernel
theorem dX1_wordTo_25 : decode cX1_wordTo 25 = .ok (.istore 4, 2) := by decide +kernel
theorem dX1_wordTo_27 : decode cX1_wordTo 27 = .ok (.iload 4, 2) := by decide +kernel
theorem dX1_wordTo_29 : decode cX1_wordTo 29 = .ok (.iload_n 2, 1) := by decide +kernel
theorem dX1_wordTo_30 : decode cX1_wordTo 30 = .ok (.iconst 1, 1) := by decide +kernel
theorem dX1_wordTo_31 : decode cX1_wordTo 31 = .ok (.iadd, 1) := by decide +kernel
theorem dX1_wordTo_32 : decode cX1_wordTo 32 = .ok (.if_icmp .le 16, 3) := by decide +kernel
theorem dX1_wordTo_35 : decode cX1_wordTo 35 = .ok (.aload_n 0, 1) := by decide +kernel
theorem dX1_wordTo_36 : decode cX1_wordTo 36 = .ok (.getfield 15, 3) := by decide +kernel
theorem dX1_wordTo_39 : decode cX1_wordTo 39 = .ok (.iload_n 3, 1) := by decide +kernel
theorem dX1_wordTo_40 : decode cX1_wordTo 40 = .ok (.iaload, 1) := by decide +kernel
theorem dX1_wordTo_41 : decode cX1_wordTo 41 = .ok (.istore_n 3, 1) := by decide +kernel
theorem dX1_wordTo_42 : decode cX1_wordTo 42 = .ok (.iinc 4 (-1), 3) := by decide +kernel
theorem dX1_wordTo_45 : decode cX1_wordTo 45 = .ok (.goto (-18), 3) := by decide +kernel
theorem dX1_wordTo_48 : decode cX1_wordTo 48 = .ok (.aload_n 0, 1) := by decide +kernel
theorem dX1_wordTo_49 : decode cX1_wordTo 49 = .ok (.getfield 18, 3) := by decide +kernel
theorem dX1_wordTo_52 : decode cX1_wordTo 52 = .ok (.iload_n 3, 1) := by decide +kernel
theorem dX1_wordTo_53 : decode cX1_wordTo 53 = .ok (.iaload, 1) := by decide +kernel
theorem dX1_wordTo_54 : decode cX1_wordTo 54 = .ok (.ireturn, 1) := by decide +kernel
theorem dX2_init_0 : decode cX2_init 0 = .ok (.aload_n 0, 1) := by decide +kernel
theorem dX2_init_1 : decode cX2_init 1 = .ok (.invokespecial 3, 3) := by decide +kernel
theorem dX2_init_4 : decode cX2_init 4 = .ok (.aload_n 0, 1) := by decide +kernel
theorem dX2_init_5 : decode cX2_init 5 = .ok (.new 9, 3) := by decide +kernel
theorem dX2_init_8 : decode cX2_init 8 = .ok (.dup, 1) := by decide +kernel
theorem dX2_init_9 : decode cX2_init 9 = .ok (.invokespecial 11, 3) := by decide +kernel
theorem dX2_init_12 : decode cX2_init 12 = .ok (.putfield 12, 3) := by decide +kernel
theorem dX2_init_15 : decode cX2_init 15 = .ok (.aload_n 0, 1) := by decide +kernel
theorem dX2_init_16 : decode cX2_init 16 = .ok (.bipush 6, 2) := by decide +kernel
theorem dX2_init_18 : decode cX2_init 18 = .ok (.newarray .int, 2) := by decide +kernel
theorem dX2_init_20 : decode cX2_init 20 = .ok (.putfield 18, 3) := by decide +kernel
theorem dX2_init_23 : decode cX2_init 23 = .ok (.aload_n 0, 1) := by decide +kernel
theorem dX2_init_24 : decode cX2_init 24 = .ok (.bipush 6, 2) := by decide +kernel
theorem dX2_init_26 : decode cX2_init 26 = .ok (.newarray .int, 2) := by decide +kernel
theorem dX2_init_28 : decode cX2_init 28 = .ok (.putfield 22, 3) := by decide +kernel
theorem dX2_init_31 : decode cX2_init 31 = .ok (.aload_n 0, 1) := by decide +kernel
theorem dX2_init_32 : decode cX2_init 32 = .ok (.bipush 6, 2) := by decide +kernel
theorem dX2_init_34 : decode cX2_init 34 = .ok (.newarray .int, 2) := by decide +kernel
theorem dX2_init_36 : decode cX2_init 36 = .ok (.putfield 25, 3) := by decide +kernel
theorem dX2_init_39 : decode cX2_init 39 = .ok (.aload_n 0, 1) := by decide +kernel
theorem dX2_init_40 : decode cX2_init 40 = .ok (.bipush 6, 2) := by decide +kernel
theorem dX2_init_42 : decode cX2_init 42 = .ok (.newarray .int, 2) := by decide +kernel
theorem dX2_init_44 : decode cX2_init 44 = .ok (.putfield 28, 3) := by decide +kernel
theorem dX2_init_47 : decode cX2_init 47 = .ok (.aload_n 0, 1) := by decide +kernel
theorem dX2_init_48 : decode cX2_init 48 = .ok (.iconst 4, 1) := by decide +kernel
theorem dX2_init_49 : decode cX2_init 49 = .ok (.newarray .int, 2) := by decide +kernel
theorem dX2_init_51 : decode cX2_init 51 = .ok (.putfield 31, 3) := by decide +kernel
theorem dX2_init_54 : decode cX2_init 54 = .ok (.aload_n 0, 1) := by decide +kernel
theorem dX2_init_55 : decode cX2_init 55 = .ok (.iconst 0, 1) := by decide +kernel
theorem dX2_init_56 : decode cX2_init 56 = .ok (.putfield 34, 3) := by decide +kernel
theorem dX2_init_59 : decode cX2_init 59 = .ok (.aload_n 0, 1) := by decide +kernel
theorem dX2_init_60 : decode cX2_init 60 = .ok (.iconst 0, 1) := by decide +kernel
theorem dX2_init_61 : decode cX2_init 61 = .ok (.putfield 38, 3) := by decide +kernel
theorem dX2_init_64 : decode cX2_init 64 = .ok (.return_, 1) := by decide +kernel
theorem dX2_become_0 : decode cX2_become 0 = .ok (.aload_n 0, 1) := by decide +kernel
theorem dX2_become_1 : decode cX2_become 1 = .ok (.getfield 12, 3) := by decide +kernel
theorem dX2_become_4 : decode cX2_become 4 = .ok (.aload_n 1, 1) := by decide +kernel
theorem dX2_become_5 : decode cX2_become 5 = .ok (.getfield 12, 3) := by decide +kernel
theorem dX2_become_8 : decode cX2_become 8 = .ok (.invokevirtual 41, 3) := by decide +kernel
theorem dX2_become_11 : decode cX2_become 11 = .ok (.aload_n 1, 1) := by decide +kernel
theorem dX2_become_12 : decode cX2_become 12 = .ok (.getfield 18, 3) := by decide +kernel
theorem dX2_become_15 : decode cX2_become 15 = .ok (.iconst 0, 1) := by decide +kernel
theorem dX2_become_16 : decode cX2_become 16 = .ok (.aload_n 0, 1) := by decide +kernel
theorem dX2_become_17 : decode cX2_become 17 = .ok (.getfield 18, 3) := by decide +kernel
theorem dX2_become_20 : decode cX2_become 20 = .ok (.iconst 0, 1) := by decide +kernel
theorem dX2_become_21 : decode cX2_become 21 = .ok (.bipush 6, 2) := by decide +kernel
theorem dX2_become_23 : decode cX2_become 23 = .ok (.invokestatic 45, 3) := by decide +kernel
theorem dX2_become_26 : decode cX2_become 26 = .ok (.aload_n 1, 1) := by decide +kernel
theorem dX2_become_27 : decode cX2_become 27 = .ok (.getfield 22, 3) := by decide +kernel
theorem dX2_become_30 : decode cX2_become 30 = .ok (.iconst 0, 1) := by decide +kernel
theorem dX2_become_31 : decode cX2_become 31 = .ok (.aload_n 0, 1) := by decide +kernel
theorem dX2_become_32 : decode cX2_become 32 = .ok (.getfield 22, 3) := by decide +kernel
theorem dX2_become_35 : decode cX2_become 35 = .ok (.iconst 0, 1) := by decide +kernel
theorem dX2_become_36 : decode cX2_become 36 = .ok (.bipush 6, 2) := by decide +kernel
theorem dX2_become_38 : decode cX2_become 38 = .ok (.invokestatic 45, 3) := by decide +kernel
theorem dX2_become_41 : decode cX2_become 41 = .ok (.aload_n 1, 1) := by decide +kernel
theorem dX2_become_42 : decode cX2_become 42 = .ok (.getfield 25, 3) := by decide +kernel
theorem dX2_become_45 : decode cX2_become 45 = .ok (.iconst 0, 1) := by decide +kernel
theorem dX2_become_46 : decode cX2_become 46 = .ok (.aload_n 0, 1) := by decide +kernel
theorem dX2_become_47 : decode cX2_become 47 = .ok (.getfield 25, 3) := by decide +kernel
theorem dX2_become_50 : decode cX2_become 50 = .ok (.iconst 0, 1) := by decide +kernel
theorem dX2_become_51 : decode cX2_become 51 = .ok (.bipush 6, 2) := by decide +kernel
theorem dX2_become_53 : decode cX2_become 53 = .ok (.invokestatic 45, 3) := by decide +kernel
theorem dX2_become_56 : decode cX2_become 56 = .ok (.aload_n 1, 1) := by decide +kernel
theorem dX2_become_57 : decode cX2_become 57 = .ok (.getfield 28, 3) := by decide +kernel
theorem dX2_become_60 : decode cX2_become 60 = .ok (.iconst 0, 1) := by decide +kernel
theorem dX2_become_61 : decode cX2_become 61 = .ok (.aload_n 0, 1) := by decide +kernel
theorem dX2_become_62 : decode cX2_become 62 = .ok (.getfield 28, 3) := by decide +kernel
theorem dX2_become_65 : decode cX2_become 65 = .ok (.iconst 0, 1) := by decide +kernel
theorem dX2_become_66 : decode cX2_become 66 = .ok (.bipush 6, 2) := by decide +kernel
theorem dX2_become_68 : decode cX2_become 68 = .ok (.invokestatic 45, 3) := by decide +kernel
theorem dX2_become_71 : decode cX2_become 71 = .ok (.aload_n 1, 1) := by decide +kernel
theorem dX2_become_72 : decode cX2_become 72 = .ok (.getfield 31, 3) := by decide +kernel
theorem dX2_become_75 : decode cX2_become 75 = .ok (.iconst 0, 1) := by decide +kernel
theorem dX2_become_76 : decode cX2_become 76 = .ok (.aload_n 0, 1) := by decide +kernel
theorem dX2_become_77 : decode cX2_become 77 = .ok (.getfield 31, 3) := by decide +kernel
theorem dX2_become_80 : decode cX2_become 80 = .ok (.iconst 0, 1) := by decide +kernel
theorem dX2_become_81 : decode cX2_become 81 = .ok (.iconst 4, 1) := by decide +kernel
theorem dX2_become_82 : decode cX2_become 82 = .ok (.invokestatic 45, 3) := by decide +kernel
theorem dX2_become_85 : decode cX2_become 85 = .ok (.aload_n 0, 1) := by decide +kernel
theorem dX2_become_86 : decode cX2_become 86 = .ok (.aload_n 1, 1) := by decide +kernel
theorem dX2_become_87 : decode cX2_become 87 = .ok (.getfield 34, 3) := by decide +kernel
theorem dX2_become_90 : decode cX2_become 90 = .ok (.putfield 34, 3) := by decide +kernel
theorem dX2_become_93 : decode cX2_become 93 = .ok (.aload_n 0, 1) := by decide +kernel
theorem dX2_become_94 : decode cX2_become 94 = .ok (.aload_n 1, 1) := by decide +kernel
theorem dX2_become_95 : decode cX2_become 95 = .ok (.getfield 38, 3) := by decide +kernel
theorem dX2_become_98 : decode cX2_become 98 = .ok (.putfield 38, 3) := by decide +kernel
theorem dX2_become_101 : decode cX2_become 101 = .ok (.return_, 1) := by decide +kernel
theorem dX2_empty_0 : decode cX2_empty 0 = .ok (.aload_n 0, 1) := by decide +kernel
theorem dX2_empty_1 : decode cX2_empty 1 = .ok (.getfield 12, 3) := by decide +kernel
theorem dX2_empty_4 : decode cX2_empty 4 = .ok (.invokevirtual 51, 3) := by decide +kernel
theorem dX2_empty_7 : decode cX2_empty 7 = .ok (.aload_n 0, 1) := by decide +kernel
theorem dX2_empty_8 : decode cX2_empty 8 = .ok (.iconst 0, 1) := by decide +kernel
theorem dX2_empty_9 : decode cX2_empty 9 = .ok (.putfield 34, 3) := by decide +kernel
theorem dX2_empty_12 : decode cX2_empty 12 = .ok (.aload_n 0, 1) := by decide +kernel
theorem dX2_empty_13 : decode cX2_empty 13 = .ok (.iconst 0, 1) := by decide +kernel
theorem dX2_empty_14 : decode cX2_empty 14 = .ok (.putfield 38, 3) := by decide +kernel
theorem dX2_empty_17 : decode cX2_empty 17 = .ok (.return_, 1) := by decide +kernel
theorem dX2_stands_0 : decode cX2_stands 0 = .ok (.aload_n 0, 1) := by decide +kernel
theorem dX2_stands_1 : decode cX2_stands 1 = .ok (.getfield 34, 3) := by decide +kernel
theorem dX2_stands_4 : decode cX2_stands 4 = .ok (.ifCond .le 7, 3) := by decide +kernel
theorem dX2_stands_7 : decode cX2_stands 7 = .ok (.iconst 1, 1) := by decide +kernel
theorem dX2_stands_8 : decode cX2_stands 8 = .ok (.goto 4, 3) := by decide +kernel
theorem dX2_stands_11 : decode cX2_stands 11 = .ok (.iconst 0, 1) := by decide +kernel
theorem dX2_stands_12 : decode cX2_stands 12 = .ok (.ireturn, 1) := by decide +kernel
theorem dX2_hasShip_0 : decode cX2_hasShip 0 = .ok (.iload_n 1, 1) := by decide +kernel
theorem dX2_hasShip_1 : decode cX2_hasShip 1 = .ok (.ifCond .lt 15, 3) := by decide +kernel
theorem dX2_hasShip_4 : decode cX2_hasShip 4 = .ok (.iload_n 1, 1) := by decide +kernel
theorem dX2_hasShip_5 : decode cX2_hasShip 5 = .ok (.aload_n 0, 1) := by decide +kernel
theorem dX2_hasShip_6 : decode cX2_hasShip 6 = .ok (.getfield 34, 3) := by decide +kernel
theorem dX2_hasShip_9 : decode cX2_hasShip 9 = .ok (.if_icmp .ge 7, 3) := by decide +kernel
theorem dX2_hasShip_12 : decode cX2_hasShip 12 = .ok (.iconst 1, 1) := by decide +kernel
theorem dX2_hasShip_13 : decode cX2_hasShip 13 = .ok (.goto 4, 3) := by decide +kernel
theorem dX2_hasShip_16 : decode cX2_hasShip 16 = .ok (.iconst 0, 1) := by decide +kernel
theorem dX2_hasShip_17 : decode cX2_hasShip 17 = .ok (.ireturn, 1) := by decide +kernel
theorem dX2_everyShip_0 : decode cX2_everyShip 0 = .ok (.iconst 1, 1) := by decide +kernel
theorem dX2_everyShip_1 : decode cX2_everyShip 1 = .ok (.aload_n 0, 1) := by decide +kernel
theorem dX2_everyShip_2 : decode cX2_everyShip 2 = .ok (.getfield 34, 3) := by decide +kernel
theorem dX2_everyShip_5 : decode cX2_everyShip 5 = .ok (.ishl, 1) := by decide +kernel
theorem dX2_everyShip_6 : decode cX2_everyShip 6 = .ok (.iconst 1, 1) := by decide +kernel
theorem dX2_everyShip_7 : decode cX2_everyShip 7 = .ok (.isub, 1) := by decide +kernel
theorem dX2_everyShip_8 : decode cX2_everyShip 8 = .ok (.ireturn, 1) := by decide +kernel
theorem dX2_doubtOf_0 : decode cX2_doubtOf 0 = .ok (.aload_n 0, 1) := by decide +kernel
theorem dX2_doubtOf_1 : decode cX2_doubtOf 1 = .ok (.getfield 18, 3) := by decide +kernel
theorem dX2_doubtOf_4 : decode cX2_doubtOf 4 = .ok (.iload_n 1, 1) := by decide +kernel
theorem dX2_doubtOf_5 : decode cX2_doubtOf 5 = .ok (.iaload, 1) := by decide +kernel
theorem dX2_doubtOf_6 : decode cX2_doubtOf 6 = .ok (.aload_n 0, 1) := by decide +kernel
theorem dX2_doubtOf_7 : decode cX2_doubtOf 7 = .ok (.getfield 28, 3) := by decide +kernel
theorem dX2_doubtOf_10 : decode cX2_doubtOf 10 = .ok (.iload_n 1, 1) := by decide +kernel
theorem dX2_doubtOf_11 : decode cX2_doubtOf 11 = .ok (.iaload, 1) := by decide +kernel
theorem dX2_doubtOf_12 : decode cX2_doubtOf 12 = .ok (.iload_n 2, 1) := by decide +kernel
theorem dX2_doubtOf_13 : decode cX2_doubtOf 13 = .ok (.invokestatic 54, 3) := by decide +kernel
theorem dX2_doubtOf_16 : decode cX2_doubtOf 16 = .ok (.ireturn, 1) := by decide +kernel
theorem dX2_trusts_0 : decode cX2_trusts 0 = .ok (.aload_n 0, 1) := by decide +kernel
theorem dX2_trusts_1 : decode cX2_trusts 1 = .ok (.getfield 31, 3) := by decide +kernel
theorem dX2_trusts_4 : decode cX2_trusts 4 = .ok (.iload_n 2, 1) := by decide +kernel
theorem dX2_trusts_5 : decode cX2_trusts 5 = .ok (.iaload, 1) := by decide +kernel
theorem dX2_trusts_6 : decode cX2_trusts 6 = .ok (.aload_n 0, 1) := by decide +kernel
theorem dX2_trusts_7 : decode cX2_trusts 7 = .ok (.getfield 18, 3) := by decide +kernel
theorem dX2_trusts_10 : decode cX2_trusts 10 = .ok (.iload_n 1, 1) := by decide +kernel
theorem dX2_trusts_11 : decode cX2_trusts 11 = .ok (.iaload, 1) := by decide +kernel
theorem dX2_trusts_12 : decode cX2_trusts 12 = .ok (.aload_n 0, 1) := by decide +kernel
theorem dX2_trusts_13 : decode cX2_trusts 13 = .ok (.getfield 28, 3) := by decide +kernel
theorem dX2_trusts_16 : decode cX2_trusts 16 = .ok (.iload_n 1, 1) := by decide +kernel
theorem dX2_trusts_17 : decode cX2_trusts 17 = .ok (.iaload, 1) := by decide +kernel
theorem dX2_trusts_18 : decode cX2_trusts 18 = .ok (.iload_n 2, 1) := by decide +kernel
theorem dX2_trusts_19 : decode cX2_trusts 19 = .ok (.invokestatic 54, 3) := by decide +kernel
theorem dX2_trusts_22 : decode cX2_trusts 22 = .ok (.if_icmp .lt 7, 3) := by decide +kernel
theorem dX2_trusts_25 : decode cX2_trusts 25 = .ok (.iconst 1, 1) := by decide +kernel
theorem dX2_trusts_26 : decode cX2_trusts 26 = .ok (.goto 4, 3) := by decide +kernel
theorem dX2_trusts_29 : decode cX2_trusts 29 = .ok (.iconst 0, 1) := by decide +kernel
theorem dX2_trusts_30 : decode cX2_trusts 30 = .ok (.ireturn, 1) := by decide +kernel
theorem dX2_allWorm_0 : decode cX2_allWorm 0 = .ok (.iconst 0, 1) := by decide +kernel
theorem dX2_allWorm_1 : decode cX2_allWorm 1 = .ok (.istore_n 1, 1) := by decide +kernel
theorem dX2_allWorm_2 : decode cX2_allWorm 2 = .ok (.iconst 0, 1) := by decide +kernel
theorem dX2_allWorm_3 : decode cX2_allWorm 3 = .ok (.istore_n 2, 1) := by decide +kernel
theorem dX2_allWorm_4 : decode cX2_allWorm 4 = .ok (.iload_n 2, 1) := by decide +kernel
theorem dX2_allWorm_5 : decode cX2_allWorm 5 = .ok (.aload_n 0, 1) := by decide +kernel
theorem dX2_allWorm_6 : decode cX2_allWorm 6 = .ok (.getfield 34, 3) := by decide +kernel
theorem dX2_allWorm_9 : decode cX2_allWorm 9 = .ok (.if_icmp .ge 18, 3) := by decide +kernel
theorem dX2_allWorm_12 : decode cX2_allWorm 12 = .ok (.iload_n 1, 1) := by decide +kernel
theorem dX2_allWorm_13 : decode cX2_allWorm 13 = .ok (.aload_n 0, 1) := by decide +kernel
theorem dX2_allWorm_14 : decode cX2_allWorm 14 = .ok (.getfield 28, 3) := by decide +kernel
theorem dX2_allWorm_17 : decode cX2_allWorm 17 = .ok (.iload_n 2, 1) := by decide +kernel
theorem dX2_allWorm_18 : decode cX2_allWorm 18 = .ok (.iaload, 1) := by decide +kernel
theorem dX2_allWorm_19 : decode cX2_allWorm 19 = .ok (.iadd, 1) := by decide +kernel
theorem dX2_allWorm_20 : decode cX2_allWorm 20 = .ok (.istore_n 1, 1) := by decide +kernel
theorem dX2_allWorm_21 : decode cX2_allWorm 21 = .ok (.iinc 2 1, 3) := by decide +kernel
theorem dX2_allWorm_24 : decode cX2_allWorm 24 = .ok (.goto (-20), 3) := by decide +kernel
theorem dX2_allWorm_27 : decode cX2_allWorm 27 = .ok (.iload_n 1, 1) := by decide +kernel
theorem dX2_allWorm_28 : decode cX2_allWorm 28 = .ok (.ireturn, 1) := by decide +kernel
theorem dX2_allCredit_0 : decode cX2_allCredit 0 = .ok (.iconst 0, 1) := by decide +kernel
theorem dX2_allCredit_1 : decode cX2_allCredit 1 = .ok (.istore_n 1, 1) := by decide +kernel
theorem dX2_allCredit_2 : decode cX2_allCredit 2 = .ok (.iconst 0, 1) := by decide +kernel
theorem dX2_allCredit_3 : decode cX2_allCredit 3 = .ok (.istore_n 2, 1) := by decide +kernel
theorem dX2_allCredit_4 : decode cX2_allCredit 4 = .ok (.iload_n 2, 1) := by decide +kernel
theorem dX2_allCredit_5 : decode cX2_allCredit 5 = .ok (.iconst 4, 1) := by decide +kernel
theorem dX2_allCredit_6 : decode cX2_allCredit 6 = .ok (.if_icmp .ge 18, 3) := by decide +kernel
theorem dX2_allCredit_9 : decode cX2_allCredit 9 = .ok (.iload_n 1, 1) := by decide +kernel
theorem dX2_allCredit_10 : decode cX2_allCredit 10 = .ok (.aload_n 0, 1) := by decide +kernel
theorem dX2_allCredit_11 : decode cX2_allCredit 11 = .ok (.getfield 31, 3) := by decide +kernel
theorem dX2_allCredit_14 : decode cX2_allCredit 14 = .ok (.iload_n 2, 1) := by decide +kernel
theorem dX2_allCredit_15 : decode cX2_allCredit 15 = .ok (.iaload, 1) := by decide +kernel
theorem dX2_allCredit_16 : decode cX2_allCredit 16 = .ok (.iadd, 1) := by decide +kernel
theorem dX2_allCredit_17 : decode cX2_allCredit 17 = .ok (.istore_n 1, 1) := by decide +kernel
theorem dX2_allCredit_18 : decode cX2_allCredit 18 = .ok (.iinc 2 1, 3) := by decide +kernel
theorem dX2_allCredit_21 : decode cX2_allCredit 21 = .ok (.goto (-17), 3) := by decide +kernel
theorem dX2_allCredit_24 : decode cX2_allCredit 24 = .ok (.iload_n 1, 1) := by decide +kernel
theorem dX2_allCredit_25 : decode cX2_allCredit 25 = .ok (.ireturn, 1) := by decide +kernel
theorem dX2_harboured_0 : decode cX2_harboured 0 = .ok (.iconst 0, 1) := by decide +kernel
theorem dX2_harboured_1 : decode cX2_harboured 1 = .ok (.istore_n 1, 1) := by decide +kernel
theorem dX2_harboured_2 : decode cX2_harboured 2 = .ok (.iconst 0, 1) := by decide +kernel
theorem dX2_harboured_3 : decode cX2_harboured 3 = .ok (.istore_n 2, 1) := by decide +kernel
theorem dX2_harboured_4 : decode cX2_harboured 4 = .ok (.iload_n 2, 1) := by decide +kernel
theorem dX2_harboured_5 : decode cX2_harboured 5 = .ok (.aload_n 0, 1) := by decide +kernel
theorem dX2_harboured_6 : decode cX2_harboured 6 = .ok (.getfield 34, 3) := by decide +kernel
theorem dX2_harboured_9 : decode cX2_harboured 9 = .ok (.if_icmp .ge 32, 3) := by decide +kernel
theorem dX2_harboured_12 : decode cX2_harboured 12 = .ok (.aload_n 0, 1) := by decide +kernel
theorem dX2_harboured_13 : decode cX2_harboured 13 = .ok (.getfield 12, 3) := by decide +kernel
theorem dX2_harboured_16 : decode cX2_harboured 16 = .ok (.aload_n 0, 1) := by decide +kernel
theorem dX2_harboured_17 : decode cX2_harboured 17 = .ok (.getfield 22, 3) := by decide +kernel
theorem dX2_harboured_20 : decode cX2_harboured 20 = .ok (.iload_n 2, 1) := by decide +kernel
theorem dX2_harboured_21 : decode cX2_harboured 21 = .ok (.iaload, 1) := by decide +kernel
theorem dX2_harboured_22 : decode cX2_harboured 22 = .ok (.invokevirtual 58, 3) := by decide +kernel
theorem dX2_harboured_25 : decode cX2_harboured 25 = .ok (.iconst 2, 1) := by decide +kernel
theorem dX2_harboured_26 : decode cX2_harboured 26 = .ok (.if_icmp .ne 9, 3) := by decide +kernel
theorem dX2_harboured_29 : decode cX2_harboured 29 = .ok (.iload_n 1, 1) := by decide +kernel
theorem dX2_harboured_30 : decode cX2_harboured 30 = .ok (.iconst 1, 1) := by decide +kernel
theorem dX2_harboured_31 : decode cX2_harboured 31 = .ok (.iload_n 2, 1) := by decide +kernel
theorem dX2_harboured_32 : decode cX2_harboured 32 = .ok (.ishl, 1) := by decide +kernel
theorem dX2_harboured_33 : decode cX2_harboured 33 = .ok (.ior, 1) := by decide +kernel
theorem dX2_harboured_34 : decode cX2_harboured 34 = .ok (.istore_n 1, 1) := by decide +kernel
theorem dX2_harboured_35 : decode cX2_harboured 35 = .ok (.iinc 2 1, 3) := by decide +kernel
theorem dX2_harboured_38 : decode cX2_harboured 38 = .ok (.goto (-34), 3) := by decide +kernel
theorem dX2_harboured_41 : decode cX2_harboured 41 = .ok (.iload_n 1, 1) := by decide +kernel
theorem dX2_harboured_42 : decode cX2_harboured 42 = .ok (.ireturn, 1) := by decide +kernel
theorem dX2_heardBy_0 : decode cX2_heardBy 0 = .ok (.iconst 1, 1) := by decide +kernel
theorem dX2_heardBy_1 : decode cX2_heardBy 1 = .ok (.iload_n 1, 1) := by decide +kernel
theorem dX2_heardBy_2 : decode cX2_heardBy 2 = .ok (.ishl, 1) := by decide +kernel
theorem dX2_heardBy_3 : decode cX2_heardBy 3 = .ok (.istore 4, 2) := by decide +kernel
theorem dX2_heardBy_5 : decode cX2_heardBy 5 = .ok (.iconst 1, 1) := by decide +kernel
theorem dX2_heardBy_6 : decode cX2_heardBy 6 = .ok (.istore 5, 2) := by decide +kernel
theorem dX2_heardBy_8 : decode cX2_heardBy 8 = .ok (.iload 5, 2) := by decide +kernel
theorem dX2_heardBy_10 : decode cX2_heardBy 10 = .ok (.aload_n 0, 1) := by decide +kernel
theorem dX2_heardBy_11 : decode cX2_heardBy 11 = .ok (.getfield 34, 3) := by decide +kernel
theorem dX2_heardBy_14 : decode cX2_heardBy 14 = .ok (.if_icmp .ge 23, 3) := by decide +kernel
theorem dX2_heardBy_17 : decode cX2_heardBy 17 = .ok (.iload 4, 2) := by decide +kernel
theorem dX2_heardBy_19 : decode cX2_heardBy 19 = .ok (.aload_n 0, 1) := by decide +kernel
theorem dX2_heardBy_20 : decode cX2_heardBy 20 = .ok (.iload 4, 2) := by decide +kernel
theorem dX2_heardBy_22 : decode cX2_heardBy 22 = .ok (.iload_n 3, 1) := by decide +kernel
theorem dX2_heardBy_23 : decode cX2_heardBy 23 = .ok (.invokevirtual 62, 3) := by decide +kernel
theorem dX2_heardBy_26 : decode cX2_heardBy 26 = .ok (.iload_n 2, 1) := by decide +kernel
theorem dX2_heardBy_27 : decode cX2_heardBy 27 = .ok (.iand, 1) := by decide +kernel
theorem dX2_heardBy_28 : decode cX2_heardBy 28 = .ok (.ior, 1) := by decide +kernel
theorem dX2_heardBy_29 : decode cX2_heardBy 29 = .ok (.istore 4, 2) := by decide +kernel
theorem dX2_heardBy_31 : decode cX2_heardBy 31 = .ok (.iinc 5 1, 3) := by decide +kernel
theorem dX2_heardBy_34 : decode cX2_heardBy 34 = .ok (.goto (-26), 3) := by decide +kernel
theorem dX2_heardBy_37 : decode cX2_heardBy 37 = .ok (.iload 4, 2) := by decide +kernel
theorem dX2_heardBy_39 : decode cX2_heardBy 39 = .ok (.ireturn, 1) := by decide +kernel
theorem dX2_nearAny_0 : decode cX2_nearAny 0 = .ok (.iconst 0, 1) := by decide +kernel
theorem dX2_nearAny_1 : decode cX2_nearAny 1 = .ok (.istore_n 3, 1) := by decide +kernel
theorem dX2_nearAny_2 : decode cX2_nearAny 2 = .ok (.iconst 0, 1) := by decide +kernel
theorem dX2_nearAny_3 : decode cX2_nearAny 3 = .ok (.istore 4, 2) := by decide +kernel
theorem dX2_nearAny_5 : decode cX2_nearAny 5 = .ok (.iload 4, 2) := by decide +kernel
theorem dX2_nearAny_7 : decode cX2_nearAny 7 = .ok (.aload_n 0, 1) := by decide +kernel
theorem dX2_nearAny_8 : decode cX2_nearAny 8 = .ok (.getfield 34, 3) := by decide +kernel
theorem dX2_nearAny_11 : decode cX2_nearAny 11 = .ok (.if_icmp .ge 64, 3) := by decide +kernel
theorem dX2_nearAny_14 : decode cX2_nearAny 14 = .ok (.iconst 0, 1) := by decide +kernel
theorem dX2_nearAny_15 : decode cX2_nearAny 15 = .ok (.istore 5, 2) := by decide +kernel
theorem dX2_nearAny_17 : decode cX2_nearAny 17 = .ok (.iload 5, 2) := by decide +kernel
theorem dX2_nearAny_19 : decode cX2_nearAny 19 = .ok (.aload_n 0, 1) := by decide +kernel
theorem dX2_nearAny_20 : decode cX2_nearAny 20 = .ok (.getfield 34, 3) := by decide +kernel
theorem dX2_nearAny_23 : decode cX2_nearAny 23 = .ok (.if_icmp .ge 46, 3) := by decide +kernel
theorem dX2_nearAny_26 : decode cX2_nearAny 26 = .ok (.iload_n 1, 1) := by decide +kernel
theorem dX2_nearAny_27 : decode cX2_nearAny 27 = .ok (.iconst 1, 1) := by decide +kernel
theorem dX2_nearAny_28 : decode cX2_nearAny 28 = .ok (.iload 4, 2) := by decide +kernel
theorem dX2_nearAny_30 : decode cX2_nearAny 30 = .ok (.ishl, 1) := by decide +kernel
theorem dX2_nearAny_31 : decode cX2_nearAny 31 = .ok (.iand, 1) := by decide +kernel
theorem dX2_nearAny_32 : decode cX2_nearAny 32 = .ok (.ifCond .eq 31, 3) := by decide +kernel
theorem dX2_nearAny_35 : decode cX2_nearAny 35 = .ok (.aload_n 0, 1) := by decide +kernel
theorem dX2_nearAny_36 : decode cX2_nearAny 36 = .ok (.getfield 22, 3) := by decide +kernel
theorem dX2_nearAny_39 : decode cX2_nearAny 39 = .ok (.iload 4, 2) := by decide +kernel
theorem dX2_nearAny_41 : decode cX2_nearAny 41 = .ok (.iaload, 1) := by decide +kernel
theorem dX2_nearAny_42 : decode cX2_nearAny 42 = .ok (.aload_n 0, 1) := by decide +kernel
theorem dX2_nearAny_43 : decode cX2_nearAny 43 = .ok (.getfield 22, 3) := by decide +kernel
theorem dX2_nearAny_46 : decode cX2_nearAny 46 = .ok (.iload 5, 2) := by decide +kernel
theorem dX2_nearAny_48 : decode cX2_nearAny 48 = .ok (.iaload, 1) := by decide +kernel
theorem dX2_nearAny_49 : decode cX2_nearAny 49 = .ok (.invokestatic 66, 3) := by decide +kernel
theorem dX2_nearAny_52 : decode cX2_nearAny 52 = .ok (.iload_n 2, 1) := by decide +kernel
theorem dX2_nearAny_53 : decode cX2_nearAny 53 = .ok (.if_icmp .gt 10, 3) := by decide +kernel
theorem dX2_nearAny_56 : decode cX2_nearAny 56 = .ok (.iload_n 3, 1) := by decide +kernel
theorem dX2_nearAny_57 : decode cX2_nearAny 57 = .ok (.iconst 1, 1) := by decide +kernel
theorem dX2_nearAny_58 : decode cX2_nearAny 58 = .ok (.iload 5, 2) := by decide +kernel
theorem dX2_nearAny_60 : decode cX2_nearAny 60 = .ok (.ishl, 1) := by decide +kernel
theorem dX2_nearAny_61 : decode cX2_nearAny 61 = .ok (.ior, 1) := by decide +kernel
theorem dX2_nearAny_62 : decode cX2_nearAny 62 = .ok (.istore_n 3, 1) := by decide +kernel
theorem dX2_nearAny_63 : decode cX2_nearAny 63 = .ok (.iinc 5 1, 3) := by decide +kernel
theorem dX2_nearAny_66 : decode cX2_nearAny 66 = .ok (.goto (-49), 3) := by decide +kernel
theorem dX2_nearAny_69 : decode cX2_nearAny 69 = .ok (.iinc 4 1, 3) := by decide +kernel
theorem dX2_nearAny_72 : decode cX2_nearAny 72 = .ok (.goto (-67), 3) := by decide +kernel
theorem dX2_nearAny_75 : decode cX2_nearAny 75 = .ok (.iload_n 3, 1) := by decide +kernel
theorem dX2_nearAny_76 : decode cX2_nearAny 76 = .ok (.ireturn, 1) := by decide +kernel
theorem dX2_isLink_0 : decode cX2_isLink 0 = .ok (.aload_n 0, 1) := by decide +kernel
theorem dX2_isLink_1 : decode cX2_isLink 1 = .ok (.invokevirtual 69, 3) := by decide +kernel
theorem dX2_isLink_4 : decode cX2_isLink 4 = .ok (.iconst 1, 1) := by decide +kernel
theorem dX2_isLink_5 : decode cX2_isLink 5 = .ok (.iload_n 1, 1) := by decide +kernel
theorem dX2_isLink_6 : decode cX2_isLink 6 = .ok (.ishl, 1) := by decide +kernel
theorem dX2_isLink_7 : decode cX2_isLink 7 = .ok (.iconst (-1), 1) := by decide +kernel
theorem dX2_isLink_8 : decode cX2_isLink 8 = .ok (.ixor, 1) := by decide +kernel
theorem dX2_isLink_9 : decode cX2_isLink 9 = .ok (.iand, 1) := by decide +kernel
theorem dX2_isLink_10 : decode cX2_isLink 10 = .ok (.istore_n 3, 1) := by decide +kernel
theorem dX2_isLink_11 : decode cX2_isLink 11 = .ok (.iconst 0, 1) := by decide +kernel
theorem dX2_isLink_12 : decode cX2_isLink 12 = .ok (.istore 4, 2) := by decide +kernel
theorem dX2_isLink_14 : decode cX2_isLink 14 = .ok (.iload 4, 2) := by decide +kernel
theorem dX2_isLink_16 : decode cX2_isLink 16 = .ok (.aload_n 0, 1) := by decide +kernel
theorem dX2_isLink_17 : decode cX2_isLink 17 = .ok (.getfield 34, 3) := by decide +kernel
theorem dX2_isLink_20 : decode cX2_isLink 20 = .ok (.if_icmp .ge 41, 3) := by decide +kernel
theorem dX2_isLink_23 : decode cX2_isLink 23 = .ok (.iload 4, 2) := by decide +kernel
theorem dX2_isLink_25 : decode cX2_isLink 25 = .ok (.iload_n 1, 1) := by decide +kernel
theorem dX2_isLink_26 : decode cX2_isLink 26 = .ok (.if_icmp .eq 29, 3) := by decide +kernel
theorem dX2_isLink_29 : decode cX2_isLink 29 = .ok (.aload_n 0, 1) := by decide +kernel
theorem dX2_isLink_30 : decode cX2_isLink 30 = .ok (.iload 4, 2) := by decide +kernel
theorem dX2_isLink_32 : decode cX2_isLink 32 = .ok (.aload_n 0, 1) := by decide +kernel
theorem dX2_isLink_33 : decode cX2_isLink 33 = .ok (.invokevirtual 69, 3) := by decide +kernel
theorem dX2_isLink_36 : decode cX2_isLink 36 = .ok (.iload_n 2, 1) := by decide +kernel
theorem dX2_isLink_37 : decode cX2_isLink 37 = .ok (.invokevirtual 73, 3) := by decide +kernel
theorem dX2_isLink_40 : decode cX2_isLink 40 = .ok (.iload_n 3, 1) := by decide +kernel
theorem dX2_isLink_41 : decode cX2_isLink 41 = .ok (.iand, 1) := by decide +kernel
theorem dX2_isLink_42 : decode cX2_isLink 42 = .ok (.aload_n 0, 1) := by decide +kernel
theorem dX2_isLink_43 : decode cX2_isLink 43 = .ok (.iload 4, 2) := by decide +kernel
theorem dX2_isLink_45 : decode cX2_isLink 45 = .ok (.iload_n 3, 1) := by decide +kernel
theorem dX2_isLink_46 : decode cX2_isLink 46 = .ok (.iload_n 2, 1) := by decide +kernel
theorem dX2_isLink_47 : decode cX2_isLink 47 = .ok (.invokevirtual 73, 3) := by decide +kernel
theorem dX2_isLink_50 : decode cX2_isLink 50 = .ok (.if_icmp .eq 5, 3) := by decide +kernel
theorem dX2_isLink_53 : decode cX2_isLink 53 = .ok (.iconst 1, 1) := by decide +kernel
theorem dX2_isLink_54 : decode cX2_isLink 54 = .ok (.ireturn, 1) := by decide +kernel
theorem dX2_isLink_55 : decode cX2_isLink 55 = .ok (.iinc 4 1, 3) := by decide +kernel
theorem dX2_isLink_58 : decode cX2_isLink 58 = .ok (.goto (-44), 3) := by decide +kernel
theorem dX2_isLink_61 : decode cX2_isLink 61 = .ok (.iconst 0, 1) := by decide +kernel
theorem dX2_isLink_62 : decode cX2_isLink 62 = .ok (.ireturn, 1) := by decide +kernel
theorem dX3_init_0 : decode cX3_init 0 = .ok (.aload_n 0, 1) := by decide +kernel
theorem dX3_init_1 : decode cX3_init 1 = .ok (.invokespecial 3, 3) := by decide +kernel
theorem dX3_init_4 : decode cX3_init 4 = .ok (.aload_n 0, 1) := by decide +kernel
theorem dX3_init_5 : decode cX3_init 5 = .ok (.bipush 48, 2) := by decide +kernel
theorem dX3_init_7 : decode cX3_init 7 = .ok (.newarray .int, 2) := by decide +kernel
theorem dX3_init_9 : decode cX3_init 9 = .ok (.putfield 9, 3) := by decide +kernel
theorem dX3_init_12 : decode cX3_init 12 = .ok (.aload_n 0, 1) := by decide +kernel
theorem dX3_init_13 : decode cX3_init 13 = .ok (.iconst 0, 1) := by decide +kernel
theorem dX3_init_14 : decode cX3_init 14 = .ok (.putfield 15, 3) := by decide +kernel
theorem dX3_init_17 : decode cX3_init 17 = .ok (.aload_n 0, 1) := by decide +kernel
theorem dX3_init_18 : decode cX3_init 18 = .ok (.iconst 0, 1) := by decide +kernel
theorem dX3_init_19 : decode cX3_init 19 = .ok (.putfield 19, 3) := by decide +kernel
theorem dX3_init_22 : decode cX3_init 22 = .ok (.return_, 1) := by decide +kernel
theorem dX3_become_0 : decode cX3_become 0 = .ok (.aload_n 1, 1) := by decide +kernel
theorem dX3_become_1 : decode cX3_become 1 = .ok (.getfield 9, 3) := by decide +kernel
theorem dX3_become_4 : decode cX3_become 4 = .ok (.iconst 0, 1) := by decide +kernel
theorem dX3_become_5 : decode cX3_become 5 = .ok (.aload_n 0, 1) := by decide +kernel
theorem dX3_become_6 : decode cX3_become 6 = .ok (.getfield 9, 3) := by decide +kernel
theorem dX3_become_9 : decode cX3_become 9 = .ok (.iconst 0, 1) := by decide +kernel
theorem dX3_become_10 : decode cX3_become 10 = .ok (.aload_n 0, 1) := by decide +kernel
theorem dX3_become_11 : decode cX3_become 11 = .ok (.getfield 9, 3) := by decide +kernel
theorem dX3_become_14 : decode cX3_become 14 = .ok (.arraylength, 1) := by decide +kernel
theorem dX3_become_15 : decode cX3_become 15 = .ok (.invokestatic 22, 3) := by decide +kernel
theorem dX3_become_18 : decode cX3_become 18 = .ok (.aload_n 0, 1) := by decide +kernel
theorem dX3_become_19 : decode cX3_become 19 = .ok (.aload_n 1, 1) := by decide +kernel
theorem dX3_become_20 : decode cX3_become 20 = .ok (.getfield 15, 3) := by decide +kernel
theorem dX3_become_23 : decode cX3_become 23 = .ok (.putfield 15, 3) := by decide +kernel
theorem dX3_become_26 : decode cX3_become 26 = .ok (.aload_n 0, 1) := by decide +kernel
theorem dX3_become_27 : decode cX3_become 27 = .ok (.aload_n 1, 1) := by decide +kernel
theorem dX3_become_28 : decode cX3_become 28 = .ok (.getfield 19, 3) := by decide +kernel
theorem dX3_become_31 : decode cX3_become 31 = .ok (.putfield 19, 3) := by decide +kernel
theorem dX3_become_34 : decode cX3_become 34 = .ok (.return_, 1) := by decide +kernel
theorem dX3_empty_0 : decode cX3_empty 0 = .ok (.aload_n 0, 1) := by decide +kernel
theorem dX3_empty_1 : decode cX3_empty 1 = .ok (.iconst 0, 1) := by decide +kernel
theorem dX3_empty_2 : decode cX3_empty 2 = .ok (.putfield 15, 3) := by decide +kernel
theorem dX3_empty_5 : decode cX3_empty 5 = .ok (.aload_n 0, 1) := by decide +kernel
theorem dX3_empty_6 : decode cX3_empty 6 = .ok (.iconst 0, 1) := by decide +kernel
theorem dX3_empty_7 : decode cX3_empty 7 = .ok (.putfield 19, 3) := by decide +kernel
theorem dX3_empty_10 : decode cX3_empty 10 = .ok (.return_, 1) := by decide +kernel
theorem dX3_cellOf_0 : decode cX3_cellOf 0 = .ok (.bipush 8, 2) := by decide +kernel
theorem dX3_cellOf_2 : decode cX3_cellOf 2 = .ok (.iload_n 0, 1) := by decide +kernel
theorem dX3_cellOf_3 : decode cX3_cellOf 3 = .ok (.imul, 1) := by decide +kernel
theorem dX3_cellOf_4 : decode cX3_cellOf 4 = .ok (.iload_n 1, 1) := by decide +kernel
theorem dX3_cellOf_5 : decode cX3_cellOf 5 = .ok (.iadd, 1) := by decide +kernel
theorem dX3_cellOf_6 : decode cX3_cellOf 6 = .ok (.ireturn, 1) := by decide +kernel
theorem dX3_has_0 : decode cX3_has 0 = .ok (.iload_n 1, 1) := by decide +kernel
theorem dX3_has_1 : decode cX3_has 1 = .ok (.ifCond .lt 29, 3) := by decide +kernel
theorem dX3_has_4 : decode cX3_has 4 = .ok (.iload_n 1, 1) := by decide +kernel
theorem dX3_has_5 : decode cX3_has 5 = .ok (.bipush 8, 2) := by decide +kernel
theorem dX3_has_7 : decode cX3_has 7 = .ok (.aload_n 0, 1) := by decide +kernel
theorem dX3_has_8 : decode cX3_has 8 = .ok (.getfield 15, 3) := by decide +kernel
theorem dX3_has_11 : decode cX3_has 11 = .ok (.imul, 1) := by decide +kernel
theorem dX3_has_12 : decode cX3_has 12 = .ok (.if_icmp .ge 18, 3) := by decide +kernel
theorem dX3_has_15 : decode cX3_has 15 = .ok (.iload_n 1, 1) := by decide +kernel
theorem dX3_has_16 : decode cX3_has 16 = .ok (.bipush 8, 2) := by decide +kernel
theorem dX3_has_18 : decode cX3_has 18 = .ok (.irem, 1) := by decide +kernel
theorem dX3_has_19 : decode cX3_has 19 = .ok (.aload_n 0, 1) := by decide +kernel
theorem dX3_has_20 : decode cX3_has 20 = .ok (.getfield 19, 3) := by decide +kernel
theorem dX3_has_23 : decode cX3_has 23 = .ok (.if_icmp .ge 7, 3) := by decide +kernel
theorem dX3_has_26 : decode cX3_has 26 = .ok (.iconst 1, 1) := by decide +kernel
theorem dX3_has_27 : decode cX3_has 27 = .ok (.goto 4, 3) := by decide +kernel
theorem dX3_has_30 : decode cX3_has 30 = .ok (.iconst 0, 1) := by decide +kernel
theorem dX3_has_31 : decode cX3_has 31 = .ok (.ireturn, 1) := by decide +kernel
theorem dX3_at_0 : decode cX3_at 0 = .ok (.aload_n 0, 1) := by decide +kernel
theorem dX3_at_1 : decode cX3_at 1 = .ok (.iload_n 1, 1) := by decide +kernel
theorem dX3_at_2 : decode cX3_at 2 = .ok (.invokevirtual 28, 3) := by decide +kernel
theorem dX3_at_5 : decode cX3_at 5 = .ok (.ifCond .eq 12, 3) := by decide +kernel
theorem dX3_at_8 : decode cX3_at 8 = .ok (.aload_n 0, 1) := by decide +kernel
theorem dX3_at_9 : decode cX3_at 9 = .ok (.getfield 9, 3) := by decide +kernel
theorem dX3_at_12 : decode cX3_at 12 = .ok (.iload_n 1, 1) := by decide +kernel
theorem dX3_at_13 : decode cX3_at 13 = .ok (.iaload, 1) := by decide +kernel
theorem dX3_at_14 : decode cX3_at 14 = .ok (.goto 4, 3) := by decide +kernel
theorem dX3_at_17 : decode cX3_at 17 = .ok (.iconst 1, 1) := by decide +kernel
theorem dX3_at_18 : decode cX3_at 18 = .ok (.ireturn, 1) := by decide +kernel
theorem dX3_ahead_0 : decode cX3_ahead 0 = .ok (.iload_n 1, 1) := by decide +kernel
theorem dX3_ahead_1 : decode cX3_ahead 1 = .ok (.bipush 8, 2) := by decide +kernel
theorem dX3_ahead_3 : decode cX3_ahead 3 = .ok (.idiv, 1) := by decide +kernel
theorem dX3_ahead_4 : decode cX3_ahead 4 = .ok (.getstatic 32, 3) := by decide +kernel
theorem dX3_ahead_7 : decode cX3_ahead 7 = .ok (.iload_n 2, 1) := by decide +kernel
theorem dX3_ahead_8 : decode cX3_ahead 8 = .ok (.iaload, 1) := by decide +kernel
theorem dX3_ahead_9 : decode cX3_ahead 9 = .ok (.iadd, 1) := by decide +kernel
theorem dX3_ahead_10 : decode cX3_ahead 10 = .ok (.istore_n 3, 1) := by decide +kernel
theorem dX3_ahead_11 : decode cX3_ahead 11 = .ok (.iload_n 1, 1) := by decide +kernel
theorem dX3_ahead_12 : decode cX3_ahead 12 = .ok (.bipush 8, 2) := by decide +kernel
theorem dX3_ahead_14 : decode cX3_ahead 14 = .ok (.irem, 1) := by decide +kernel
theorem dX3_ahead_15 : decode cX3_ahead 15 = .ok (.getstatic 35, 3) := by decide +kernel
theorem dX3_ahead_18 : decode cX3_ahead 18 = .ok (.iload_n 2, 1) := by decide +kernel
theorem dX3_ahead_19 : decode cX3_ahead 19 = .ok (.iaload, 1) := by decide +kernel
theorem dX3_ahead_20 : decode cX3_ahead 20 = .ok (.iadd, 1) := by decide +kernel
theorem dX3_ahead_21 : decode cX3_ahead 21 = .ok (.istore 4, 2) := by decide +kernel
theorem dX3_ahead_23 : decode cX3_ahead 23 = .ok (.iload_n 3, 1) := by decide +kernel
theorem dX3_ahead_24 : decode cX3_ahead 24 = .ok (.ifCond .lt 25, 3) := by decide +kernel
theorem dX3_ahead_27 : decode cX3_ahead 27 = .ok (.iload_n 3, 1) := by decide +kernel
theorem dX3_ahead_28 : decode cX3_ahead 28 = .ok (.aload_n 0, 1) := by decide +kernel
theorem dX3_ahead_29 : decode cX3_ahead 29 = .ok (.getfield 15, 3) := by decide +kernel
theorem dX3_ahead_32 : decode cX3_ahead 32 = .ok (.if_icmp .ge 17, 3) := by decide +kernel
theorem dX3_ahead_35 : decode cX3_ahead 35 = .ok (.iload 4, 2) := by decide +kernel
theorem dX3_ahead_37 : decode cX3_ahead 37 = .ok (.ifCond .lt 12, 3) := by decide +kernel
theorem dX3_ahead_40 : decode cX3_ahead 40 = .ok (.iload 4, 2) := by decide +kernel
theorem dX3_ahead_42 : decode cX3_ahead 42 = .ok (.aload_n 0, 1) := by decide +kernel
theorem dX3_ahead_43 : decode cX3_ahead 43 = .ok (.getfield 19, 3) := by decide +kernel
theorem dX3_ahead_46 : decode cX3_ahead 46 = .ok (.if_icmp .lt 6, 3) := by decide +kernel
theorem dX3_ahead_49 : decode cX3_ahead 49 = .ok (.bipush (-4), 2) := by decide +kernel
theorem dX3_ahead_51 : decode cX3_ahead 51 = .ok (.ireturn, 1) := by decide +kernel
theorem dX3_ahead_52 : decode cX3_ahead 52 = .ok (.iload_n 3, 1) := by decide +kernel
theorem dX3_ahead_53 : decode cX3_ahead 53 = .ok (.iload 4, 2) := by decide +kernel
theorem dX3_ahead_55 : decode cX3_ahead 55 = .ok (.invokestatic 38, 3) := by decide +kernel
theorem dX3_ahead_58 : decode cX3_ahead 58 = .ok (.istore 5, 2) := by decide +kernel
theorem dX3_ahead_60 : decode cX3_ahead 60 = .ok (.aload_n 0, 1) := by decide +kernel
theorem dX3_ahead_61 : decode cX3_ahead 61 = .ok (.getfield 9, 3) := by decide +kernel
theorem dX3_ahead_64 : decode cX3_ahead 64 = .ok (.iload 5, 2) := by decide +kernel
theorem dX3_ahead_66 : decode cX3_ahead 66 = .ok (.iaload, 1) := by decide +kernel
theorem dX3_ahead_67 : decode cX3_ahead 67 = .ok (.iconst 1, 1) := by decide +kernel
theorem dX3_ahead_68 : decode cX3_ahead 68 = .ok (.if_icmp .ne 8, 3) := by decide +kernel
theorem dX3_ahead_71 : decode cX3_ahead 71 = .ok (.bipush (-4), 2) := by decide +kernel
theorem dX3_ahead_73 : decode cX3_ahead 73 = .ok (.goto 5, 3) := by decide +kernel
theorem dX3_ahead_76 : decode cX3_ahead 76 = .ok (.iload 5, 2) := by decide +kernel
theorem dX3_ahead_78 : decode cX3_ahead 78 = .ok (.ireturn, 1) := by decide +kernel
theorem dX3_away_0 : decode cX3_away 0 = .ok (.iload_n 0, 1) := by decide +kernel
theorem dX3_away_1 : decode cX3_away 1 = .ok (.bipush 8, 2) := by decide +kernel
theorem dX3_away_3 : decode cX3_away 3 = .ok (.idiv, 1) := by decide +kernel
theorem dX3_away_4 : decode cX3_away 4 = .ok (.iload_n 1, 1) := by decide +kernel
theorem dX3_away_5 : decode cX3_away 5 = .ok (.bipush 8, 2) := by decide +kernel
theorem dX3_away_7 : decode cX3_away 7 = .ok (.idiv, 1) := by decide +kernel
theorem dX3_away_8 : decode cX3_away 8 = .ok (.isub, 1) := by decide +kernel
theorem dX3_away_9 : decode cX3_away 9 = .ok (.invokestatic 42, 3) := by decide +kernel
theorem dX3_away_12 : decode cX3_away 12 = .ok (.iload_n 0, 1) := by decide +kernel
theorem dX3_away_13 : decode cX3_away 13 = .ok (.bipush 8, 2) := by decide +kernel
theorem dX3_away_15 : decode cX3_away 15 = .ok (.irem, 1) := by decide +kernel
theorem dX3_away_16 : decode cX3_away 16 = .ok (.iload_n 1, 1) := by decide +kernel
theorem dX3_away_17 : decode cX3_away 17 = .ok (.bipush 8, 2) := by decide +kernel
theorem dX3_away_19 : decode cX3_away 19 = .ok (.irem, 1) := by decide +kernel
theorem dX3_away_20 : decode cX3_away 20 = .ok (.isub, 1) := by decide +kernel
theorem dX3_away_21 : decode cX3_away 21 = .ok (.invokestatic 42, 3) := by decide +kernel
theorem dX3_away_24 : decode cX3_away 24 = .ok (.iadd, 1) := by decide +kernel
theorem dX3_away_25 : decode cX3_away 25 = .ok (.ireturn, 1) := by decide +kernel
theorem dX3_harbours_0 : decode cX3_harbours 0 = .ok (.iconst 0, 1) := by decide +kernel
theorem dX3_harbours_1 : decode cX3_harbours 1 = .ok (.istore_n 1, 1) := by decide +kernel
theorem dX3_harbours_2 : decode cX3_harbours 2 = .ok (.iconst 0, 1) := by decide +kernel
theorem dX3_harbours_3 : decode cX3_harbours 3 = .ok (.istore_n 2, 1) := by decide +kernel
theorem dX3_harbours_4 : decode cX3_harbours 4 = .ok (.iload_n 2, 1) := by decide +kernel
theorem dX3_harbours_5 : decode cX3_harbours 5 = .ok (.aload_n 0, 1) := by decide +kernel
theorem dX3_harbours_6 : decode cX3_harbours 6 = .ok (.getfield 9, 3) := by decide +kernel
theorem dX3_harbours_9 : decode cX3_harbours 9 = .ok (.arraylength, 1) := by decide +kernel
theorem dX3_harbours_10 : decode cX3_harbours 10 = .ok (.if_icmp .ge 21, 3) := by decide +kernel
theorem dX3_harbours_13 : decode cX3_harbours 13 = .ok (.aload_n 0, 1) := by decide +kernel
theorem dX3_harbours_14 : decode cX3_harbours 14 = .ok (.iload_n 2, 1) := by decide +kernel
theorem dX3_harbours_15 : decode cX3_harbours 15 = .ok (.invokevirtual 48, 3) := by decide +kernel
theorem dX3_harbours_18 : decode cX3_harbours 18 = .ok (.iconst 2, 1) := by decide +kernel
theorem dX3_harbours_19 : decode cX3_harbours 19 = .ok (.if_icmp .ne 6, 3) := by decide +kernel
theorem dX3_harbours_22 : decode cX3_harbours 22 = .ok (.iinc 1 1, 3) := by decide +kernel
theorem dX3_harbours_25 : decode cX3_harbours 25 = .ok (.iinc 2 1, 3) := by decide +kernel
theorem dX3_harbours_28 : decode cX3_harbours 28 = .ok (.goto (-24), 3) := by decide +kernel
theorem dX3_harbours_31 : decode cX3_harbours 31 = .ok (.iload_n 1, 1) := by decide +kernel
theorem dX3_harbours_32 : decode cX3_harbours 32 = .ok (.ireturn, 1) := by decide +kernel
theorem dX3_awayFromHarbour_0 : decode cX3_awayFromHarbour 0 = .ok (.bipush 14, 2) := by decide +kernel
theorem dX3_awayFromHarbour_2 : decode cX3_awayFromHarbour 2 = .ok (.istore_n 2, 1) := by decide +kernel
theorem dX3_awayFromHarbour_3 : decode cX3_awayFromHarbour 3 = .ok (.iconst 0, 1) := by decide +kernel
theorem dX3_awayFromHarbour_4 : decode cX3_awayFromHarbour 4 = .ok (.istore_n 3, 1) := by decide +kernel
theorem dX3_awayFromHarbour_5 : decode cX3_awayFromHarbour 5 = .ok (.iload_n 3, 1) := by decide +kernel
theorem dX3_awayFromHarbour_6 : decode cX3_awayFromHarbour 6 = .ok (.aload_n 0, 1) := by decide +kernel
theorem dX3_awayFromHarbour_7 : decode cX3_awayFromHarbour 7 = .ok (.getfield 9, 3) := by decide +kernel
theorem dX3_awayFromHarbour_10 : decode cX3_awayFromHarbour 10 = .ok (.arraylength, 1) := by decide +kernel
theorem dX3_awayFromHarbour_11 : decode cX3_awayFromHarbour 11 = .ok (.if_icmp .ge 28, 3) := by decide +kernel
theorem dX3_awayFromHarbour_14 : decode cX3_awayFromHarbour 14 = .ok (.aload_n 0, 1) := by decide +kernel
theorem dX3_awayFromHarbour_15 : decode cX3_awayFromHarbour 15 = .ok (.iload_n 3, 1) := by decide +kernel
theorem dX3_awayFromHarbour_16 : decode cX3_awayFromHarbour 16 = .ok (.invokevirtual 48, 3) := by decide +kernel
theorem dX3_awayFromHarbour_19 : decode cX3_awayFromHarbour 19 = .ok (.iconst 2, 1) := by decide +kernel
theorem dX3_awayFromHarbour_20 : decode cX3_awayFromHarbour 20 = .ok (.if_icmp .ne 13, 3) := by decide +kernel
theorem dX3_awayFromHarbour_23 : decode cX3_awayFromHarbour 23 = .ok (.iload_n 2, 1) := by decide +kernel
theorem dX3_awayFromHarbour_24 : decode cX3_awayFromHarbour 24 = .ok (.iload_n 1, 1) := by decide +kernel
theorem dX3_awayFromHarbour_25 : decode cX3_awayFromHarbour 25 = .ok (.iload_n 3, 1) := by decide +kernel
theorem dX3_awayFromHarbour_26 : decode cX3_awayFromHarbour 26 = .ok (.invokestatic 51, 3) := by decide +kernel
theorem dX3_awayFromHarbour_29 : decode cX3_awayFromHarbour 29 = .ok (.invokestatic 54, 3) := by decide +kernel
theorem dX3_awayFromHarbour_32 : decode cX3_awayFromHarbour 32 = .ok (.istore_n 2, 1) := by decide +kernel
theorem dX3_awayFromHarbour_33 : decode cX3_awayFromHarbour 33 = .ok (.iinc 3 1, 3) := by decide +kernel
theorem dX3_awayFromHarbour_36 : decode cX3_awayFromHarbour 36 = .ok (.goto (-31), 3) := by decide +kernel
theorem dX3_awayFromHarbour_39 : decode cX3_awayFromHarbour 39 = .ok (.iload_n 2, 1) := by decide +kernel
theorem dX3_awayFromHarbour_40 : decode cX3_awayFromHarbour 40 = .ok (.ireturn, 1) := by decide +kernel
theorem dX4_init_0 : decode cX4_init 0 = .ok (.aload_n 0, 1) := by decide +kernel
theorem dX4_init_1 : decode cX4_init 1 = .ok (.invokespecial 3, 3) := by decide +kernel
theorem dX4_init_4 : decode cX4_init 4 = .ok (.aload_n 0, 1) := by decide +kernel
theorem dX4_init_5 : decode cX4_init 5 = .ok (.bipush 24, 2) := by decide +kernel
theorem dX4_init_7 : decode cX4_init 7 = .ok (.newarray .long, 2) := by decide +kernel
theorem dX4_init_9 : decode cX4_init 9 = .ok (.putfield 9, 3) := by decide +kernel
theorem dX4_init_12 : decode cX4_init 12 = .ok (.aload_n 0, 1) := by decide +kernel
theorem dX4_init_13 : decode cX4_init 13 = .ok (.iconst 0, 1) := by decide +kernel
theorem dX4_init_14 : decode cX4_init 14 = .ok (.putfield 15, 3) := by decide +kernel
theorem dX4_init_17 : decode cX4_init 17 = .ok (.aload_n 0, 1) := by decide +kernel
theorem dX4_init_18 : decode cX4_init 18 = .ok (.iconst 0, 1) := by decide +kernel
theorem dX4_init_19 : decode cX4_init 19 = .ok (.putfield 19, 3) := by decide +kernel
theorem dX4_init_22 : decode cX4_init 22 = .ok (.aload_n 0, 1) := by decide +kernel
theorem dX4_init_23 : decode cX4_init 23 = .ok (.iconst 0, 1) := by decide +kernel
theorem dX4_init_24 : decode cX4_init 24 = .ok (.putfield 23, 3) := by decide +kernel
theorem dX4_init_27 : decode cX4_init 27 = .ok (.return_, 1) := by decide +kernel
theorem dX4_renew_0 : decode cX4_renew 0 = .ok (.aload_n 0, 1) := by decide +kernel
theorem dX4_renew_1 : decode cX4_renew 1 = .ok (.getfield 9, 3) := by decide +kernel
theorem dX4_renew_4 : decode cX4_renew 4 = .ok (.lconst 0, 1) := by decide +kernel
theorem dX4_renew_5 : decode cX4_renew 5 = .ok (.invokestatic 26, 3) := by decide +kernel
theorem dX4_renew_8 : decode cX4_renew 8 = .ok (.aload_n 0, 1) := by decide +kernel
theorem dX4_renew_9 : decode cX4_renew 9 = .ok (.iconst 1, 1) := by decide +kernel
theorem dX4_renew_10 : decode cX4_renew 10 = .ok (.putfield 15, 3) := by decide +kernel
theorem dX4_renew_13 : decode cX4_renew 13 = .ok (.aload_n 0, 1) := by decide +kernel
theorem dX4_renew_14 : decode cX4_renew 14 = .ok (.iload_n 1, 1) := by decide +kernel
theorem dX4_renew_15 : decode cX4_renew 15 = .ok (.putfield 19, 3) := by decide +kernel
theorem dX4_renew_18 : decode cX4_renew 18 = .ok (.aload_n 0, 1) := by decide +kernel
theorem dX4_renew_19 : decode cX4_renew 19 = .ok (.iload_n 2, 1) := by decide +kernel
theorem dX4_renew_20 : decode cX4_renew 20 = .ok (.putfield 23, 3) := by decide +kernel
theorem dX4_renew_23 : decode cX4_renew 23 = .ok (.return_, 1) := by decide +kernel
theorem dX4_holds_0 : decode cX4_holds 0 = .ok (.iload_n 1, 1) := by decide +kernel
theorem dX4_holds_1 : decode cX4_holds 1 = .ok (.ifCond .lt 29, 3) := by decide +kernel
theorem dX4_holds_4 : decode cX4_holds 4 = .ok (.iload_n 2, 1) := by decide +kernel
theorem dX4_holds_5 : decode cX4_holds 5 = .ok (.ifCond .lt 25, 3) := by decide +kernel
theorem dX4_holds_8 : decode cX4_holds 8 = .ok (.iload_n 2, 1) := by decide +kernel
theorem dX4_holds_9 : decode cX4_holds 9 = .ok (.aload_n 0, 1) := by decide +kernel
theorem dX4_holds_10 : decode cX4_holds 10 = .ok (.getfield 23, 3) := by decide +kernel
theorem dX4_holds_13 : decode cX4_holds 13 = .ok (.if_icmp .gt 17, 3) := by decide +kernel
theorem dX4_holds_16 : decode cX4_holds 16 = .ok (.iload_n 1, 1) := by decide +kernel
theorem dX4_holds_17 : decode cX4_holds 17 = .ok (.aload_n 0, 1) := by decide +kernel
theorem dX4_holds_18 : decode cX4_holds 18 = .ok (.getfield 23, 3) := by decide +kernel
theorem dX4_holds_21 : decode cX4_holds 21 = .ok (.iload_n 2, 1) := by decide +kernel
theorem dX4_holds_22 : decode cX4_holds 22 = .ok (.isub, 1) := by decide +kernel
theorem dX4_holds_23 : decode cX4_holds 23 = .ok (.if_icmp .gt 7, 3) := by decide +kernel
theorem dX4_holds_26 : decode cX4_holds 26 = .ok (.iconst 1, 1) := by decide +kernel
theorem dX4_holds_27 : decode cX4_holds 27 = .ok (.goto 4, 3) := by decide +kernel
theorem dX4_holds_30 : decode cX4_holds 30 = .ok (.iconst 0, 1) := by decide +kernel
theorem dX4_holds_31 : decode cX4_holds 31 = .ok (.ireturn, 1) := by decide +kernel
theorem dX4_holdsWords_0 : decode cX4_holdsWords 0 = .ok (.iconst 0, 1) := by decide +kernel
theorem dX4_holdsWords_1 : decode cX4_holdsWords 1 = .ok (.istore 4, 2) := by decide +kernel
theorem dX4_holdsWords_3 : decode cX4_holdsWords 3 = .ok (.iload 4, 2) := by decide +kernel
theorem dX4_holdsWords_5 : decode cX4_holdsWords 5 = .ok (.iload_n 2, 1) := by decide +kernel
theorem dX4_holdsWords_6 : decode cX4_holdsWords 6 = .ok (.if_icmp .ge 28, 3) := by decide +kernel
theorem dX4_holdsWords_9 : decode cX4_holdsWords 9 = .ok (.aload_n 0, 1) := by decide +kernel
theorem dX4_holdsWords_10 : decode cX4_holdsWords 10 = .ok (.getfield 9, 3) := by decide +kernel
theorem dX4_holdsWords_13 : decode cX4_holdsWords 13 = .ok (.iload_n 1, 1) := by decide +kernel
theorem dX4_holdsWords_14 : decode cX4_holdsWords 14 = .ok (.iload_n 3, 1) := by decide +kernel
theorem dX4_holdsWords_15 : decode cX4_holdsWords 15 = .ok (.iload 4, 2) := by decide +kernel
theorem dX4_holdsWords_17 : decode cX4_holdsWords 17 = .ok (.imul, 1) := by decide +kernel
theorem dX4_holdsWords_18 : decode cX4_holdsWords 18 = .ok (.iadd, 1) := by decide +kernel
theorem dX4_holdsWords_19 : decode cX4_holdsWords 19 = .ok (.laload, 1) := by decide +kernel
theorem dX4_holdsWords_20 : decode cX4_holdsWords 20 = .ok (.invokestatic 32, 3) := by decide +kernel
theorem dX4_holdsWords_23 : decode cX4_holdsWords 23 = .ok (.ifCond .ne 5, 3) := by decide +kernel
theorem dX4_holdsWords_26 : decode cX4_holdsWords 26 = .ok (.iconst 0, 1) := by decide +kernel
theorem dX4_holdsWords_27 : decode cX4_holdsWords 27 = .ok (.ireturn, 1) := by decide +kernel
theorem dX4_holdsWords_28 : decode cX4_holdsWords 28 = .ok (.iinc 4 1, 3) := by decide +kernel
theorem dX4_holdsWords_31 : decode cX4_holdsWords 31 = .ok (.goto (-28), 3) := by decide +kernel
theorem dX4_holdsWords_34 : decode cX4_holdsWords 34 = .ok (.iconst 1, 1) := by decide +kernel
theorem dX4_holdsWords_35 : decode cX4_holdsWords 35 = .ok (.ireturn, 1) := by decide +kernel
theorem dX4_put_0 : decode cX4_put 0 = .ok (.aload_n 0, 1) := by decide +kernel
theorem dX4_put_1 : decode cX4_put 1 = .ok (.getfield 9, 3) := by decide +kernel
theorem dX4_put_4 : decode cX4_put 4 = .ok (.iload_n 1, 1) := by decide +kernel
theorem dX4_put_5 : decode cX4_put 5 = .ok (.aload_n 0, 1) := by decide +kernel
theorem dX4_put_6 : decode cX4_put 6 = .ok (.lload_n 2, 1) := by decide +kernel
theorem dX4_put_7 : decode cX4_put 7 = .ok (.invokevirtual 36, 3) := by decide +kernel
theorem dX4_put_10 : decode cX4_put 10 = .ok (.lastore, 1) := by decide +kernel
theorem dX4_put_11 : decode cX4_put 11 = .ok (.aload_n 0, 1) := by decide +kernel
theorem dX4_put_12 : decode cX4_put 12 = .ok (.getfield 9, 3) := by decide +kernel
theorem dX4_put_15 : decode cX4_put 15 = .ok (.iload_n 1, 1) := by decide +kernel
theorem dX4_put_16 : decode cX4_put 16 = .ok (.laload, 1) := by decide +kernel
theorem dX4_put_17 : decode cX4_put 17 = .ok (.lreturn, 1) := by decide +kernel
theorem dX4_narrowed_0 : decode cX4_narrowed 0 = .ok (.aload_n 0, 1) := by decide +kernel
theorem dX4_narrowed_1 : decode cX4_narrowed 1 = .ok (.getfield 19, 3) := by decide +kernel
theorem dX4_narrowed_4 : decode cX4_narrowed 4 = .ok (.tableswitch 42 0 2 #[28, 33, 38], 28) := by decide +kernel
theorem dX4_narrowed_32 : decode cX4_narrowed 32 = .ok (.lload_n 1, 1) := by decide +kernel
theorem dX4_narrowed_33 : decode cX4_narrowed 33 = .ok (.l2i, 1) := by decide +kernel
theorem dX4_narrowed_34 : decode cX4_narrowed 34 = .ok (.i2b, 1) := by decide +kernel
theorem dX4_narrowed_35 : decode cX4_narrowed 35 = .ok (.i2l, 1) := by decide +kernel
theorem dX4_narrowed_36 : decode cX4_narrowed 36 = .ok (.lreturn, 1) := by decide +kernel
theorem dX4_narrowed_37 : decode cX4_narrowed 37 = .ok (.lload_n 1, 1) := by decide +kernel
theorem dX4_narrowed_38 : decode cX4_narrowed 38 = .ok (.l2i, 1) := by decide +kernel
theorem dX4_narrowed_39 : decode cX4_narrowed 39 = .ok (.i2s, 1) := by decide +kernel
theorem dX4_narrowed_40 : decode cX4_narrowed 40 = .ok (.i2l, 1) := by decide +kernel
theorem dX4_narrowed_41 : decode cX4_narrowed 41 = .ok (.lreturn, 1) := by decide +kernel
theorem dX4_narrowed_42 : decode cX4_narrowed 42 = .ok (.lload_n 1, 1) := by decide +kernel
theorem dX4_narrowed_43 : decode cX4_narrowed 43 = .ok (.l2i, 1) := by decide +kernel
theorem dX4_narrowed_44 : decode cX4_narrowed 44 = .ok (.i2l, 1) := by decide +kernel
theorem dX4_narrowed_45 : decode cX4_narrowed 45 = .ok (.lreturn, 1) := by decide +kernel
theorem dX4_narrowed_46 : decode cX4_narrowed 46 = .ok (.lload_n 1, 1) := by decide +kernel
theorem dX4_narrowed_47 : decode cX4_narrowed 47 = .ok (.lreturn, 1) := by decide +kernel
theorem dX5_init_0 : decode cX5_init 0 = .ok (.aload_n 0, 1) := by decide +kernel
theorem dX5_init_1 : decode cX5_init 1 = .ok (.invokespecial 3, 3) := by decide +kernel
theorem dX5_init_4 : decode cX5_init 4 = .ok (.aload_n 0, 1) := by decide +kernel
theorem dX5_init_5 : decode cX5_init 5 = .ok (.sipush 130, 3) := by decide +kernel
theorem dX5_init_8 : decode cX5_init 8 = .ok (.newarray .int, 2) := by decide +kernel
theorem dX5_init_10 : decode cX5_init 10 = .ok (.putfield 9, 3) := by decide +kernel
theorem dX5_init_13 : decode cX5_init 13 = .ok (.aload_n 0, 1) := by decide +kernel
theorem dX5_init_14 : decode cX5_init 14 = .ok (.iconst 0, 1) := by decide +kernel
theorem dX5_init_15 : decode cX5_init 15 = .ok (.putfield 15, 3) := by decide +kernel
theorem dX5_init_18 : decode cX5_init 18 = .ok (.aload_n 0, 1) := by decide +kernel
theorem dX5_init_19 : decode cX5_init 19 = .ok (.iconst 0, 1) := by decide +kernel
theorem dX5_init_20 : decode cX5_init 20 = .ok (.putfield 19, 3) := by decide +kernel
theorem dX5_init_23 : decode cX5_init 23 = .ok (.return_, 1) := by decide +kernel
theorem dX5_add_0 : decode cX5_add 0 = .ok (.aload_n 0, 1) := by decide +kernel
theorem dX5_add_1 : decode cX5_add 1 = .ok (.getfield 15, 3) := by decide +kernel
theorem dX5_add_4 : decode cX5_add 4 = .ok (.sipush 130, 3) := by decide +kernel
theorem dX5_add_7 : decode cX5_add 7 = .ok (.if_icmp .lt 5, 3) := by decide +kernel
theorem dX5_add_10 : decode cX5_add 10 = .ok (.iconst 0, 1) := by decide +kernel
theorem dX5_add_11 : decode cX5_add 11 = .ok (.ireturn, 1) := by decide +kernel
theorem dX5_add_12 : decode cX5_add 12 = .ok (.aload_n 0, 1) := by decide +kernel
theorem dX5_add_13 : decode cX5_add 13 = .ok (.getfield 9, 3) := by decide +kernel
theorem dX5_add_16 : decode cX5_add 16 = .ok (.aload_n 0, 1) := by decide +kernel
theorem dX5_add_17 : decode cX5_add 17 = .ok (.getfield 15, 3) := by decide +kernel
theorem dX5_add_20 : decode cX5_add 20 = .ok (.iload_n 1, 1) := by decide +kernel
theorem dX5_add_21 : decode cX5_add 21 = .ok (.iastore, 1) := by decide +kernel
theorem dX5_add_22 : decode cX5_add 22 = .ok (.aload_n 0, 1) := by decide +kernel
theorem dX5_add_23 : decode cX5_add 23 = .ok (.dup, 1) := by decide +kernel
theorem dX5_add_24 : decode cX5_add 24 = .ok (.getfield 15, 3) := by decide +kernel
theorem dX5_add_27 : decode cX5_add 27 = .ok (.iconst 1, 1) := by decide +kernel
theorem dX5_add_28 : decode cX5_add 28 = .ok (.iadd, 1) := by decide +kernel
theorem dX5_add_29 : decode cX5_add 29 = .ok (.putfield 15, 3) := by decide +kernel
theorem dX5_add_32 : decode cX5_add 32 = .ok (.iconst 1, 1) := by decide +kernel
theorem dX5_add_33 : decode cX5_add 33 = .ok (.ireturn, 1) := by decide +kernel
theorem dX5_readFleet_0 : decode cX5_readFleet 0 = .ok (.aload_n 0, 1) := by decide +kernel
theorem dX5_readFleet_1 : decode cX5_readFleet 1 = .ok (.iconst 0, 1) := by decide +kernel
theorem dX5_readFleet_2 : decode cX5_readFleet 2 = .ok (.putfield 19, 3) := by decide +kernel
theorem dX5_readFleet_5 : decode cX5_readFleet 5 = .ok (.aload_n 1, 1) := by decide +kernel
theorem dX5_readFleet_6 : decode cX5_readFleet 6 = .ok (.invokevirtual 22, 3) := by decide +kernel
theorem dX5_readFleet_9 : decode cX5_readFleet 9 = .ok (.aload_n 0, 1) := by decide +kernel
theorem dX5_readFleet_10 : decode cX5_readFleet 10 = .ok (.bipush 102, 2) := by decide +kernel
theorem dX5_readFleet_12 : decode cX5_readFleet 12 = .ok (.invokevirtual 27, 3) := by decide +kernel
theorem dX5_readFleet_15 : decode cX5_readFleet 15 = .ok (.ifCond .eq 45, 3) := by decide +kernel
theorem dX5_readFleet_18 : decode cX5_readFleet 18 = .ok (.aload_n 0, 1) := by decide +kernel
theorem dX5_readFleet_19 : decode cX5_readFleet 19 = .ok (.aload_n 1, 1) := by decide +kernel
theorem dX5_readFleet_20 : decode cX5_readFleet 20 = .ok (.getfield 31, 3) := by decide +kernel
theorem dX5_readFleet_23 : decode cX5_readFleet 23 = .ok (.invokevirtual 35, 3) := by decide +kernel
theorem dX5_readFleet_26 : decode cX5_readFleet 26 = .ok (.ifCond .eq 34, 3) := by decide +kernel
theorem dX5_readFleet_29 : decode cX5_readFleet 29 = .ok (.aload_n 0, 1) := by decide +kernel
theorem dX5_readFleet_30 : decode cX5_readFleet 30 = .ok (.aload_n 1, 1) := by decide +kernel
theorem dX5_readFleet_31 : decode cX5_readFleet 31 = .ok (.invokevirtual 39, 3) := by decide +kernel
theorem dX5_readFleet_34 : decode cX5_readFleet 34 = .ok (.ifCond .eq 26, 3) := by decide +kernel
theorem dX5_readFleet_37 : decode cX5_readFleet 37 = .ok (.aload_n 0, 1) := by decide +kernel
theorem dX5_readFleet_38 : decode cX5_readFleet 38 = .ok (.aload_n 1, 1) := by decide +kernel
theorem dX5_readFleet_39 : decode cX5_readFleet 39 = .ok (.invokevirtual 43, 3) := by decide +kernel
theorem dX5_readFleet_42 : decode cX5_readFleet 42 = .ok (.ifCond .eq 18, 3) := by decide +kernel
theorem dX5_readFleet_45 : decode cX5_readFleet 45 = .ok (.aload_n 0, 1) := by decide +kernel
theorem dX5_readFleet_46 : decode cX5_readFleet 46 = .ok (.getfield 19, 3) := by decide +kernel
theorem dX5_readFleet_49 : decode cX5_readFleet 49 = .ok (.aload_n 0, 1) := by decide +kernel
theorem dX5_readFleet_50 : decode cX5_readFleet 50 = .ok (.getfield 15, 3) := by decide +kernel
theorem dX5_readFleet_53 : decode cX5_readFleet 53 = .ok (.if_icmp .ne 7, 3) := by decide +kernel
theorem dX5_readFleet_56 : decode cX5_readFleet 56 = .ok (.iconst 1, 1) := by decide +kernel
theorem dX5_readFleet_57 : decode cX5_readFleet 57 = .ok (.goto 4, 3) := by decide +kernel
theorem dX5_readFleet_60 : decode cX5_readFleet 60 = .ok (.iconst 0, 1) := by decide +kernel
theorem dX5_readFleet_61 : decode cX5_readFleet 61 = .ok (.ireturn, 1) := by decide +kernel
theorem dX5_here_0 : decode cX5_here 0 = .ok (.aload_n 0, 1) := by decide +kernel
theorem dX5_here_1 : decode cX5_here 1 = .ok (.getfield 19, 3) := by decide +kernel
theorem dX5_here_4 : decode cX5_here 4 = .ok (.ifCond .lt 36, 3) := by decide +kernel
theorem dX5_here_7 : decode cX5_here 7 = .ok (.aload_n 0, 1) := by decide +kernel
theorem dX5_here_8 : decode cX5_here 8 = .ok (.getfield 19, 3) := by decide +kernel
theorem dX5_here_11 : decode cX5_here 11 = .ok (.aload_n 0, 1) := by decide +kernel
theorem dX5_here_12 : decode cX5_here 12 = .ok (.getfield 15, 3) := by decide +kernel
theorem dX5_here_15 : decode cX5_here 15 = .ok (.if_icmp .ge 25, 3) := by decide +kernel
theorem dX5_here_18 : decode cX5_here 18 = .ok (.aload_n 0, 1) := by decide +kernel
theorem dX5_here_19 : decode cX5_here 19 = .ok (.getfield 19, 3) := by decide +kernel
theorem dX5_here_22 : decode cX5_here 22 = .ok (.sipush 130, 3) := by decide +kernel
theorem dX5_here_25 : decode cX5_here 25 = .ok (.if_icmp .ge 15, 3) := by decide +kernel
theorem dX5_here_28 : decode cX5_here 28 = .ok (.aload_n 0, 1) := by decide +kernel
theorem dX5_here_29 : decode cX5_here 29 = .ok (.getfield 9, 3) := by decide +kernel
theorem dX5_here_32 : decode cX5_here 32 = .ok (.aload_n 0, 1) := by decide +kernel
theorem dX5_here_33 : decode cX5_here 33 = .ok (.getfield 19, 3) := by decide +kernel
theorem dX5_here_36 : decode cX5_here 36 = .ok (.iaload, 1) := by decide +kernel
theorem dX5_here_37 : decode cX5_here 37 = .ok (.goto 4, 3) := by decide +kernel
theorem dX5_here_40 : decode cX5_here 40 = .ok (.iconst (-1), 1) := by decide +kernel
theorem dX5_here_41 : decode cX5_here 41 = .ok (.ireturn, 1) := by decide +kernel
theorem dX5_takes_0 : decode cX5_takes 0 = .ok (.aload_n 0, 1) := by decide +kernel
theorem dX5_takes_1 : decode cX5_takes 1 = .ok (.invokevirtual 46, 3) := by decide +kernel
theorem dX5_takes_4 : decode cX5_takes 4 = .ok (.iload_n 1, 1) := by decide +kernel
theorem dX5_takes_5 : decode cX5_takes 5 = .ok (.if_icmp .eq 5, 3) := by decide +kernel
theorem dX5_takes_8 : decode cX5_takes 8 = .ok (.iconst 0, 1) := by decide +kernel
theorem dX5_takes_9 : decode cX5_takes 9 = .ok (.ireturn, 1) := by decide +kernel
theorem dX5_takes_10 : decode cX5_takes 10 = .ok (.aload_n 0, 1) := by decide +kernel
theorem dX5_takes_11 : decode cX5_takes 11 = .ok (.dup, 1) := by decide +kernel
theorem dX5_takes_12 : decode cX5_takes 12 = .ok (.getfield 19, 3) := by decide +kernel
theorem dX5_takes_15 : decode cX5_takes 15 = .ok (.iconst 1, 1) := by decide +kernel
theorem dX5_takes_16 : decode cX5_takes 16 = .ok (.iadd, 1) := by decide +kernel
theorem dX5_takes_17 : decode cX5_takes 17 = .ok (.putfield 19, 3) := by decide +kernel
theorem dX5_takes_20 : decode cX5_takes 20 = .ok (.iconst 1, 1) := by decide +kernel
theorem dX5_takes_21 : decode cX5_takes 21 = .ok (.ireturn, 1) := by decide +kernel
theorem dX5_oneOf_0 : decode cX5_oneOf 0 = .ok (.aload_n 0, 1) := by decide +kernel
theorem dX5_oneOf_1 : decode cX5_oneOf 1 = .ok (.invokevirtual 46, 3) := by decide +kernel
theorem dX5_oneOf_4 : decode cX5_oneOf 4 = .ok (.istore_n 2, 1) := by decide +kernel
theorem dX5_oneOf_5 : decode cX5_oneOf 5 = .ok (.iload_n 2, 1) := by decide +kernel
theorem dX5_oneOf_6 : decode cX5_oneOf 6 = .ok (.ifCond .ge 7, 3) := by decide +kernel
theorem dX5_oneOf_9 : decode cX5_oneOf 9 = .ok (.iconst (-1), 1) := by decide +kernel
theorem dX5_oneOf_10 : decode cX5_oneOf 10 = .ok (.goto 9, 3) := by decide +kernel
theorem dX5_oneOf_13 : decode cX5_oneOf 13 = .ok (.aload_n 1, 1) := by decide +kernel
theorem dX5_oneOf_14 : decode cX5_oneOf 14 = .ok (.iload_n 2, 1) := by decide +kernel
theorem dX5_oneOf_15 : decode cX5_oneOf 15 = .ok (.i2c, 1) := by decide +kernel
theorem dX5_oneOf_16 : decode cX5_oneOf 16 = .ok (.invokevirtual 50, 3) := by decide +kernel
theorem dX5_oneOf_19 : decode cX5_oneOf 19 = .ok (.ireturn, 1) := by decide +kernel
theorem dX5_figureBelow_0 : decode cX5_figureBelow 0 = .ok (.aload_n 0, 1) := by decide +kernel
theorem dX5_figureBelow_1 : decode cX5_figureBelow 1 = .ok (.invokevirtual 46, 3) := by decide +kernel
theorem dX5_figureBelow_4 : decode cX5_figureBelow 4 = .ok (.bipush 48, 2) := by decide +kernel
theorem dX5_figureBelow_6 : decode cX5_figureBelow 6 = .ok (.isub, 1) := by decide +kernel
theorem dX5_figureBelow_7 : decode cX5_figureBelow 7 = .ok (.istore_n 2, 1) := by decide +kernel
theorem dX5_figureBelow_8 : decode cX5_figureBelow 8 = .ok (.iload_n 2, 1) := by decide +kernel
theorem dX5_figureBelow_9 : decode cX5_figureBelow 9 = .ok (.ifCond .lt 12, 3) := by decide +kernel
theorem dX5_figureBelow_12 : decode cX5_figureBelow 12 = .ok (.iload_n 2, 1) := by decide +kernel
theorem dX5_figureBelow_13 : decode cX5_figureBelow 13 = .ok (.iload_n 1, 1) := by decide +kernel
theorem dX5_figureBelow_14 : decode cX5_figureBelow 14 = .ok (.if_icmp .ge 7, 3) := by decide +kernel
theorem dX5_figureBelow_17 : decode cX5_figureBelow 17 = .ok (.iload_n 2, 1) := by decide +kernel
theorem dX5_figureBelow_18 : decode cX5_figureBelow 18 = .ok (.goto 4, 3) := by decide +kernel
theorem dX5_figureBelow_21 : decode cX5_figureBelow 21 = .ok (.iconst (-1), 1) := by decide +kernel
theorem dX5_figureBelow_22 : decode cX5_figureBelow 22 = .ok (.ireturn, 1) := by decide +kernel
theorem dX5_readSea_0 : decode cX5_readSea 0 = .ok (.iconst 0, 1) := by decide +kernel
theorem dX5_readSea_1 : decode cX5_readSea 1 = .ok (.istore_n 2, 1) := by decide +kernel
theorem dX5_readSea_2 : decode cX5_readSea 2 = .ok (.iload_n 2, 1) := by decide +kernel
theorem dX5_readSea_3 : decode cX5_readSea 3 = .ok (.bipush 6, 2) := by decide +kernel
theorem dX5_readSea_5 : decode cX5_readSea 5 = .ok (.if_icmp .ge 57, 3) := by decide +kernel
theorem dX5_readSea_8 : decode cX5_readSea 8 = .ok (.aload_n 0, 1) := by decide +kernel
theorem dX5_readSea_9 : decode cX5_readSea 9 = .ok (.aload_n 1, 1) := by decide +kernel
theorem dX5_readSea_10 : decode cX5_readSea 10 = .ok (.iload_n 2, 1) := by decide +kernel
theorem dX5_readSea_11 : decode cX5_readSea 11 = .ok (.invokevirtual 56, 3) := by decide +kernel
theorem dX5_readSea_14 : decode cX5_readSea 14 = .ok (.ifCond .ne 5, 3) := by decide +kernel
theorem dX5_readSea_17 : decode cX5_readSea 17 = .ok (.iconst 0, 1) := by decide +kernel
theorem dX5_readSea_18 : decode cX5_readSea 18 = .ok (.ireturn, 1) := by decide +kernel
theorem dX5_readSea_19 : decode cX5_readSea 19 = .ok (.aload_n 1, 1) := by decide +kernel
theorem dX5_readSea_20 : decode cX5_readSea 20 = .ok (.iload_n 2, 1) := by decide +kernel
theorem dX5_readSea_21 : decode cX5_readSea 21 = .ok (.iconst 1, 1) := by decide +kernel
theorem dX5_readSea_22 : decode cX5_readSea 22 = .ok (.iadd, 1) := by decide +kernel
theorem dX5_readSea_23 : decode cX5_readSea 23 = .ok (.putfield 60, 3) := by decide +kernel
theorem dX5_readSea_26 : decode cX5_readSea 26 = .ok (.aload_n 0, 1) := by decide +kernel
theorem dX5_readSea_27 : decode cX5_readSea 27 = .ok (.bipush 59, 2) := by decide +kernel
theorem dX5_readSea_29 : decode cX5_readSea 29 = .ok (.invokevirtual 27, 3) := by decide +kernel
theorem dX5_readSea_32 : decode cX5_readSea 32 = .ok (.ifCond .eq 5, 3) := by decide +kernel
theorem dX5_readSea_35 : decode cX5_readSea 35 = .ok (.iconst 1, 1) := by decide +kernel
theorem dX5_readSea_36 : decode cX5_readSea 36 = .ok (.ireturn, 1) := by decide +kernel
theorem dX5_readSea_37 : decode cX5_readSea 37 = .ok (.iload_n 2, 1) := by decide +kernel
theorem dX5_readSea_38 : decode cX5_readSea 38 = .ok (.iconst 1, 1) := by decide +kernel
theorem dX5_readSea_39 : decode cX5_readSea 39 = .ok (.iadd, 1) := by decide +kernel
theorem dX5_readSea_40 : decode cX5_readSea 40 = .ok (.bipush 6, 2) := by decide +kernel
theorem dX5_readSea_42 : decode cX5_readSea 42 = .ok (.if_icmp .ge 12, 3) := by decide +kernel
theorem dX5_readSea_45 : decode cX5_readSea 45 = .ok (.aload_n 0, 1) := by decide +kernel
theorem dX5_readSea_46 : decode cX5_readSea 46 = .ok (.bipush 47, 2) := by decide +kernel
theorem dX5_readSea_48 : decode cX5_readSea 48 = .ok (.invokevirtual 27, 3) := by decide +kernel
theorem dX5_readSea_51 : decode cX5_readSea 51 = .ok (.ifCond .ne 5, 3) := by decide +kernel
theorem dX5_readSea_54 : decode cX5_readSea 54 = .ok (.iconst 0, 1) := by decide +kernel
theorem dX5_readSea_55 : decode cX5_readSea 55 = .ok (.ireturn, 1) := by decide +kernel
theorem dX5_readSea_56 : decode cX5_readSea 56 = .ok (.iinc 2 1, 3) := by decide +kernel
theorem dX5_readSea_59 : decode cX5_readSea 59 = .ok (.goto (-57), 3) := by decide +kernel
theorem dX5_readSea_62 : decode cX5_readSea 62 = .ok (.iconst 0, 1) := by decide +kernel
theorem dX5_readSea_63 : decode cX5_readSea 63 = .ok (.ireturn, 1) := by decide +kernel
theorem dX5_readRow_0 : decode cX5_readRow 0 = .ok (.iload_n 2, 1) := by decide +kernel
theorem dX5_readRow_1 : decode cX5_readRow 1 = .ok (.ifCond .ne 8, 3) := by decide +kernel
theorem dX5_readRow_4 : decode cX5_readRow 4 = .ok (.bipush 8, 2) := by decide +kernel
theorem dX5_readRow_6 : decode cX5_readRow 6 = .ok (.goto 7, 3) := by decide +kernel
theorem dX5_readRow_9 : decode cX5_readRow 9 = .ok (.aload_n 1, 1) := by decide +kernel
theorem dX5_readRow_10 : decode cX5_readRow 10 = .ok (.getfield 65, 3) := by decide +kernel
theorem dX5_readRow_13 : decode cX5_readRow 13 = .ok (.istore_n 3, 1) := by decide +kernel
theorem dX5_readRow_14 : decode cX5_readRow 14 = .ok (.iconst 0, 1) := by decide +kernel
theorem dX5_readRow_15 : decode cX5_readRow 15 = .ok (.istore 4, 2) := by decide +kernel
theorem dX5_readRow_17 : decode cX5_readRow 17 = .ok (.iload 4, 2) := by decide +kernel
theorem dX5_readRow_19 : decode cX5_readRow 19 = .ok (.iload_n 3, 1) := by decide +kernel
theorem dX5_readRow_20 : decode cX5_readRow 20 = .ok (.if_icmp .ge 45, 3) := by decide +kernel
theorem dX5_readRow_23 : decode cX5_readRow 23 = .ok (.aload_n 0, 1) := by decide +kernel
theorem dX5_readRow_24 : decode cX5_readRow 24 = .ok (.ldc 68, 2) := by decide +kernel
theorem dX5_readRow_26 : decode cX5_readRow 26 = .ok (.invokevirtual 70, 3) := by decide +kernel
theorem dX5_readRow_29 : decode cX5_readRow 29 = .ok (.ifCond .lt 36, 3) := by decide +kernel
theorem dX5_readRow_32 : decode cX5_readRow 32 = .ok (.aload_n 1, 1) := by decide +kernel
theorem dX5_readRow_33 : decode cX5_readRow 33 = .ok (.getfield 74, 3) := by decide +kernel
theorem dX5_readRow_36 : decode cX5_readRow 36 = .ok (.iload_n 2, 1) := by decide +kernel
theorem dX5_readRow_37 : decode cX5_readRow 37 = .ok (.iload 4, 2) := by decide +kernel
theorem dX5_readRow_39 : decode cX5_readRow 39 = .ok (.invokestatic 77, 3) := by decide +kernel
theorem dX5_readRow_42 : decode cX5_readRow 42 = .ok (.aload_n 0, 1) := by decide +kernel
theorem dX5_readRow_43 : decode cX5_readRow 43 = .ok (.ldc 68, 2) := by decide +kernel
theorem dX5_readRow_45 : decode cX5_readRow 45 = .ok (.invokevirtual 70, 3) := by decide +kernel
theorem dX5_readRow_48 : decode cX5_readRow 48 = .ok (.iastore, 1) := by decide +kernel
theorem dX5_readRow_49 : decode cX5_readRow 49 = .ok (.iinc 4 1, 3) := by decide +kernel
theorem dX5_readRow_52 : decode cX5_readRow 52 = .ok (.aload_n 0, 1) := by decide +kernel
theorem dX5_readRow_53 : decode cX5_readRow 53 = .ok (.dup, 1) := by decide +kernel
theorem dX5_readRow_54 : decode cX5_readRow 54 = .ok (.getfield 19, 3) := by decide +kernel
theorem dX5_readRow_57 : decode cX5_readRow 57 = .ok (.iconst 1, 1) := by decide +kernel
theorem dX5_readRow_58 : decode cX5_readRow 58 = .ok (.iadd, 1) := by decide +kernel
theorem dX5_readRow_59 : decode cX5_readRow 59 = .ok (.putfield 19, 3) := by decide +kernel
theorem dX5_readRow_62 : decode cX5_readRow 62 = .ok (.goto (-45), 3) := by decide +kernel
theorem dX5_readRow_65 : decode cX5_readRow 65 = .ok (.iload_n 2, 1) := by decide +kernel
theorem dX5_readRow_66 : decode cX5_readRow 66 = .ok (.ifCond .ne 9, 3) := by decide +kernel
theorem dX5_readRow_69 : decode cX5_readRow 69 = .ok (.aload_n 1, 1) := by decide +kernel
theorem dX5_readRow_70 : decode cX5_readRow 70 = .ok (.iload 4, 2) := by decide +kernel
theorem dX5_readRow_72 : decode cX5_readRow 72 = .ok (.putfield 65, 3) := by decide +kernel
theorem dX5_readRow_75 : decode cX5_readRow 75 = .ok (.iload 4, 2) := by decide +kernel
theorem dX5_readRow_77 : decode cX5_readRow 77 = .ok (.ifCond .le 16, 3) := by decide +kernel
theorem dX5_readRow_80 : decode cX5_readRow 80 = .ok (.iload 4, 2) := by decide +kernel
theorem dX5_readRow_82 : decode cX5_readRow 82 = .ok (.aload_n 1, 1) := by decide +kernel
theorem dX5_readRow_83 : decode cX5_readRow 83 = .ok (.getfield 65, 3) := by decide +kernel
theorem dX5_readRow_86 : decode cX5_readRow 86 = .ok (.if_icmp .ne 7, 3) := by decide +kernel
theorem dX5_readRow_89 : decode cX5_readRow 89 = .ok (.iconst 1, 1) := by decide +kernel
theorem dX5_readRow_90 : decode cX5_readRow 90 = .ok (.goto 4, 3) := by decide +kernel
theorem dX5_readRow_93 : decode cX5_readRow 93 = .ok (.iconst 0, 1) := by decide +kernel
theorem dX5_readRow_94 : decode cX5_readRow 94 = .ok (.ireturn, 1) := by decide +kernel
theorem dX5_readShips_0 : decode cX5_readShips 0 = .ok (.iconst 0, 1) := by decide +kernel
theorem dX5_readShips_1 : decode cX5_readShips 1 = .ok (.istore_n 2, 1) := by decide +kernel
theorem dX5_readShips_2 : decode cX5_readShips 2 = .ok (.iload_n 2, 1) := by decide +kernel
theorem dX5_readShips_3 : decode cX5_readShips 3 = .ok (.bipush 6, 2) := by decide +kernel
theorem dX5_readShips_5 : decode cX5_readShips 5 = .ok (.if_icmp .ge 57, 3) := by decide +kernel
theorem dX5_readShips_8 : decode cX5_readShips 8 = .ok (.aload_n 0, 1) := by decide +kernel
theorem dX5_readShips_9 : decode cX5_readShips 9 = .ok (.aload_n 1, 1) := by decide +kernel
theorem dX5_readShips_10 : decode cX5_readShips 10 = .ok (.iload_n 2, 1) := by decide +kernel
theorem dX5_readShips_11 : decode cX5_readShips 11 = .ok (.invokevirtual 81, 3) := by decide +kernel
theorem dX5_readShips_14 : decode cX5_readShips 14 = .ok (.ifCond .ne 5, 3) := by decide +kernel
theorem dX5_readShips_17 : decode cX5_readShips 17 = .ok (.iconst 0, 1) := by decide +kernel
theorem dX5_readShips_18 : decode cX5_readShips 18 = .ok (.ireturn, 1) := by decide +kernel
theorem dX5_readShips_19 : decode cX5_readShips 19 = .ok (.aload_n 1, 1) := by decide +kernel
theorem dX5_readShips_20 : decode cX5_readShips 20 = .ok (.iload_n 2, 1) := by decide +kernel
theorem dX5_readShips_21 : decode cX5_readShips 21 = .ok (.iconst 1, 1) := by decide +kernel
theorem dX5_readShips_22 : decode cX5_readShips 22 = .ok (.iadd, 1) := by decide +kernel
theorem dX5_readShips_23 : decode cX5_readShips 23 = .ok (.putfield 85, 3) := by decide +kernel
theorem dX5_readShips_26 : decode cX5_readShips 26 = .ok (.aload_n 0, 1) := by decide +kernel
theorem dX5_readShips_27 : decode cX5_readShips 27 = .ok (.bipush 59, 2) := by decide +kernel
theorem dX5_readShips_29 : decode cX5_readShips 29 = .ok (.invokevirtual 27, 3) := by decide +kernel
theorem dX5_readShips_32 : decode cX5_readShips 32 = .ok (.ifCond .eq 5, 3) := by decide +kernel
theorem dX5_readShips_35 : decode cX5_readShips 35 = .ok (.iconst 1, 1) := by decide +kernel
theorem dX5_readShips_36 : decode cX5_readShips 36 = .ok (.ireturn, 1) := by decide +kernel
theorem dX5_readShips_37 : decode cX5_readShips 37 = .ok (.iload_n 2, 1) := by decide +kernel
theorem dX5_readShips_38 : decode cX5_readShips 38 = .ok (.iconst 1, 1) := by decide +kernel
theorem dX5_readShips_39 : decode cX5_readShips 39 = .ok (.iadd, 1) := by decide +kernel
theorem dX5_readShips_40 : decode cX5_readShips 40 = .ok (.bipush 6, 2) := by decide +kernel
theorem dX5_readShips_42 : decode cX5_readShips 42 = .ok (.if_icmp .ge 12, 3) := by decide +kernel
theorem dX5_readShips_45 : decode cX5_readShips 45 = .ok (.aload_n 0, 1) := by decide +kernel
theorem dX5_readShips_46 : decode cX5_readShips 46 = .ok (.bipush 44, 2) := by decide +kernel
theorem dX5_readShips_48 : decode cX5_readShips 48 = .ok (.invokevirtual 27, 3) := by decide +kernel
theorem dX5_readShips_51 : decode cX5_readShips 51 = .ok (.ifCond .ne 5, 3) := by decide +kernel
theorem dX5_readShips_54 : decode cX5_readShips 54 = .ok (.iconst 0, 1) := by decide +kernel
theorem dX5_readShips_55 : decode cX5_readShips 55 = .ok (.ireturn, 1) := by decide +kernel
theorem dX5_readShips_56 : decode cX5_readShips 56 = .ok (.iinc 2 1, 3) := by decide +kernel
theorem dX5_readShips_59 : decode cX5_readShips 59 = .ok (.goto (-57), 3) := by decide +kernel
theorem dX5_readShips_62 : decode cX5_readShips 62 = .ok (.iconst 0, 1) := by decide +kernel
theorem dX5_readShips_63 : decode cX5_readShips 63 = .ok (.ireturn, 1) := by decide +kernel
theorem dX5_readShip_0 : decode cX5_readShip 0 = .ok (.aload_n 0, 1) := by decide +kernel
theorem dX5_readShip_1 : decode cX5_readShip 1 = .ok (.ldc 88, 2) := by decide +kernel
theorem dX5_readShip_3 : decode cX5_readShip 3 = .ok (.invokevirtual 70, 3) := by decide +kernel
theorem dX5_readShip_6 : decode cX5_readShip 6 = .ok (.istore_n 3, 1) := by decide +kernel
theorem dX5_readShip_7 : decode cX5_readShip 7 = .ok (.iload_n 3, 1) := by decide +kernel
theorem dX5_readShip_8 : decode cX5_readShip 8 = .ok (.ifCond .ge 5, 3) := by decide +kernel
theorem dX5_readShip_11 : decode cX5_readShip 11 = .ok (.iconst 0, 1) := by decide +kernel
theorem dX5_readShip_12 : decode cX5_readShip 12 = .ok (.ireturn, 1) := by decide +kernel
theorem dX5_readShip_13 : decode cX5_readShip 13 = .ok (.aload_n 0, 1) := by decide +kernel
theorem dX5_readShip_14 : decode cX5_readShip 14 = .ok (.dup, 1) := by decide +kernel
theorem dX5_readShip_15 : decode cX5_readShip 15 = .ok (.getfield 19, 3) := by decide +kernel
theorem dX5_readShip_18 : decode cX5_readShip 18 = .ok (.iconst 1, 1) := by decide +kernel
theorem dX5_readShip_19 : decode cX5_readShip 19 = .ok (.iadd, 1) := by decide +kernel
theorem dX5_readShip_20 : decode cX5_readShip 20 = .ok (.putfield 19, 3) := by decide +kernel
theorem dX5_readShip_23 : decode cX5_readShip 23 = .ok (.aload_n 1, 1) := by decide +kernel
theorem dX5_readShip_24 : decode cX5_readShip 24 = .ok (.getfield 90, 3) := by decide +kernel
theorem dX5_readShip_27 : decode cX5_readShip 27 = .ok (.iload_n 2, 1) := by decide +kernel
theorem dX5_readShip_28 : decode cX5_readShip 28 = .ok (.iconst 1, 1) := by decide +kernel
theorem dX5_readShip_29 : decode cX5_readShip 29 = .ok (.iload_n 3, 1) := by decide +kernel
theorem dX5_readShip_30 : decode cX5_readShip 30 = .ok (.iadd, 1) := by decide +kernel
theorem dX5_readShip_31 : decode cX5_readShip 31 = .ok (.iastore, 1) := by decide +kernel
theorem dX5_readShip_32 : decode cX5_readShip 32 = .ok (.aload_n 0, 1) := by decide +kernel
theorem dX5_readShip_33 : decode cX5_readShip 33 = .ok (.aload_n 1, 1) := by decide +kernel
theorem dX5_readShip_34 : decode cX5_readShip 34 = .ok (.iload_n 2, 1) := by decide +kernel
theorem dX5_readShip_35 : decode cX5_readShip 35 = .ok (.invokevirtual 93, 3) := by decide +kernel
theorem dX5_readShip_38 : decode cX5_readShip 38 = .ok (.ifCond .ne 5, 3) := by decide +kernel
theorem dX5_readShip_41 : decode cX5_readShip 41 = .ok (.iconst 0, 1) := by decide +kernel
theorem dX5_readShip_42 : decode cX5_readShip 42 = .ok (.ireturn, 1) := by decide +kernel
theorem dX5_readShip_43 : decode cX5_readShip 43 = .ok (.aload_n 0, 1) := by decide +kernel
theorem dX5_readShip_44 : decode cX5_readShip 44 = .ok (.ldc 96, 2) := by decide +kernel
theorem dX5_readShip_46 : decode cX5_readShip 46 = .ok (.invokevirtual 70, 3) := by decide +kernel
theorem dX5_readShip_49 : decode cX5_readShip 49 = .ok (.istore 4, 2) := by decide +kernel
theorem dX5_readShip_51 : decode cX5_readShip 51 = .ok (.iload 4, 2) := by decide +kernel
theorem dX5_readShip_53 : decode cX5_readShip 53 = .ok (.ifCond .ge 5, 3) := by decide +kernel
theorem dX5_readShip_56 : decode cX5_readShip 56 = .ok (.iconst 0, 1) := by decide +kernel
theorem dX5_readShip_57 : decode cX5_readShip 57 = .ok (.ireturn, 1) := by decide +kernel
theorem dX5_readShip_58 : decode cX5_readShip 58 = .ok (.aload_n 0, 1) := by decide +kernel
theorem dX5_readShip_59 : decode cX5_readShip 59 = .ok (.dup, 1) := by decide +kernel
theorem dX5_readShip_60 : decode cX5_readShip 60 = .ok (.getfield 19, 3) := by decide +kernel
theorem dX5_readShip_63 : decode cX5_readShip 63 = .ok (.iconst 1, 1) := by decide +kernel
theorem dX5_readShip_64 : decode cX5_readShip 64 = .ok (.iadd, 1) := by decide +kernel
theorem dX5_readShip_65 : decode cX5_readShip 65 = .ok (.putfield 19, 3) := by decide +kernel
theorem dX5_readShip_68 : decode cX5_readShip 68 = .ok (.aload_n 1, 1) := by decide +kernel
theorem dX5_readShip_69 : decode cX5_readShip 69 = .ok (.getfield 98, 3) := by decide +kernel
theorem dX5_readShip_72 : decode cX5_readShip 72 = .ok (.iload_n 2, 1) := by decide +kernel
theorem dX5_readShip_73 : decode cX5_readShip 73 = .ok (.iload 4, 2) := by decide +kernel
theorem dX5_readShip_75 : decode cX5_readShip 75 = .ok (.iastore, 1) := by decide +kernel
theorem dX5_readShip_76 : decode cX5_readShip 76 = .ok (.aload_n 0, 1) := by decide +kernel
theorem dX5_readShip_77 : decode cX5_readShip 77 = .ok (.bipush 6, 2) := by decide +kernel
theorem dX5_readShip_79 : decode cX5_readShip 79 = .ok (.invokevirtual 101, 3) := by decide +kernel
theorem dX5_readShip_82 : decode cX5_readShip 82 = .ok (.istore 5, 2) := by decide +kernel
theorem dX5_readShip_84 : decode cX5_readShip 84 = .ok (.iload 5, 2) := by decide +kernel
theorem dX5_readShip_86 : decode cX5_readShip 86 = .ok (.ifCond .ge 5, 3) := by decide +kernel
theorem dX5_readShip_89 : decode cX5_readShip 89 = .ok (.iconst 0, 1) := by decide +kernel
theorem dX5_readShip_90 : decode cX5_readShip 90 = .ok (.ireturn, 1) := by decide +kernel
theorem dX5_readShip_91 : decode cX5_readShip 91 = .ok (.aload_n 0, 1) := by decide +kernel
theorem dX5_readShip_92 : decode cX5_readShip 92 = .ok (.dup, 1) := by decide +kernel
theorem dX5_readShip_93 : decode cX5_readShip 93 = .ok (.getfield 19, 3) := by decide +kernel
theorem dX5_readShip_96 : decode cX5_readShip 96 = .ok (.iconst 1, 1) := by decide +kernel
theorem dX5_readShip_97 : decode cX5_readShip 97 = .ok (.iadd, 1) := by decide +kernel
theorem dX5_readShip_98 : decode cX5_readShip 98 = .ok (.putfield 19, 3) := by decide +kernel
theorem dX5_readShip_101 : decode cX5_readShip 101 = .ok (.aload_n 1, 1) := by decide +kernel
theorem dX5_readShip_102 : decode cX5_readShip 102 = .ok (.getfield 104, 3) := by decide +kernel
theorem dX5_readShip_105 : decode cX5_readShip 105 = .ok (.iload_n 2, 1) := by decide +kernel
theorem dX5_readShip_106 : decode cX5_readShip 106 = .ok (.iload 5, 2) := by decide +kernel
theorem dX5_readShip_108 : decode cX5_readShip 108 = .ok (.iastore, 1) := by decide +kernel
theorem dX5_readShip_109 : decode cX5_readShip 109 = .ok (.iconst 1, 1) := by decide +kernel
theorem dX5_readShip_110 : decode cX5_readShip 110 = .ok (.ireturn, 1) := by decide +kernel
theorem dX5_readCell_0 : decode cX5_readCell 0 = .ok (.aload_n 0, 1) := by decide +kernel
theorem dX5_readCell_1 : decode cX5_readCell 1 = .ok (.aload_n 1, 1) := by decide +kernel
theorem dX5_readCell_2 : decode cX5_readCell 2 = .ok (.getfield 31, 3) := by decide +kernel
theorem dX5_readCell_5 : decode cX5_readCell 5 = .ok (.getfield 60, 3) := by decide +kernel
theorem dX5_readCell_8 : decode cX5_readCell 8 = .ok (.invokevirtual 101, 3) := by decide +kernel
theorem dX5_readCell_11 : decode cX5_readCell 11 = .ok (.istore_n 3, 1) := by decide +kernel
theorem dX5_readCell_12 : decode cX5_readCell 12 = .ok (.iload_n 3, 1) := by decide +kernel
theorem dX5_readCell_13 : decode cX5_readCell 13 = .ok (.ifCond .ge 5, 3) := by decide +kernel
theorem dX5_readCell_16 : decode cX5_readCell 16 = .ok (.iconst 0, 1) := by decide +kernel
theorem dX5_readCell_17 : decode cX5_readCell 17 = .ok (.ireturn, 1) := by decide +kernel
theorem dX5_readCell_18 : decode cX5_readCell 18 = .ok (.aload_n 0, 1) := by decide +kernel
theorem dX5_readCell_19 : decode cX5_readCell 19 = .ok (.dup, 1) := by decide +kernel
theorem dX5_readCell_20 : decode cX5_readCell 20 = .ok (.getfield 19, 3) := by decide +kernel
theorem dX5_readCell_23 : decode cX5_readCell 23 = .ok (.iconst 1, 1) := by decide +kernel
theorem dX5_readCell_24 : decode cX5_readCell 24 = .ok (.iadd, 1) := by decide +kernel
theorem dX5_readCell_25 : decode cX5_readCell 25 = .ok (.putfield 19, 3) := by decide +kernel
theorem dX5_readCell_28 : decode cX5_readCell 28 = .ok (.aload_n 0, 1) := by decide +kernel
theorem dX5_readCell_29 : decode cX5_readCell 29 = .ok (.aload_n 1, 1) := by decide +kernel
theorem dX5_readCell_30 : decode cX5_readCell 30 = .ok (.getfield 31, 3) := by decide +kernel
theorem dX5_readCell_33 : decode cX5_readCell 33 = .ok (.getfield 65, 3) := by decide +kernel
theorem dX5_readCell_36 : decode cX5_readCell 36 = .ok (.invokevirtual 101, 3) := by decide +kernel
theorem dX5_readCell_39 : decode cX5_readCell 39 = .ok (.istore 4, 2) := by decide +kernel
theorem dX5_readCell_41 : decode cX5_readCell 41 = .ok (.iload 4, 2) := by decide +kernel
theorem dX5_readCell_43 : decode cX5_readCell 43 = .ok (.ifCond .lt 20, 3) := by decide +kernel
theorem dX5_readCell_46 : decode cX5_readCell 46 = .ok (.aload_n 1, 1) := by decide +kernel
theorem dX5_readCell_47 : decode cX5_readCell 47 = .ok (.getfield 31, 3) := by decide +kernel
theorem dX5_readCell_50 : decode cX5_readCell 50 = .ok (.iload_n 3, 1) := by decide +kernel
theorem dX5_readCell_51 : decode cX5_readCell 51 = .ok (.iload 4, 2) := by decide +kernel
theorem dX5_readCell_53 : decode cX5_readCell 53 = .ok (.invokestatic 77, 3) := by decide +kernel
theorem dX5_readCell_56 : decode cX5_readCell 56 = .ok (.invokevirtual 107, 3) := by decide +kernel
theorem dX5_readCell_59 : decode cX5_readCell 59 = .ok (.iconst 1, 1) := by decide +kernel
theorem dX5_readCell_60 : decode cX5_readCell 60 = .ok (.if_icmp .ne 5, 3) := by decide +kernel
theorem dX5_readCell_63 : decode cX5_readCell 63 = .ok (.iconst 0, 1) := by decide +kernel
theorem dX5_readCell_64 : decode cX5_readCell 64 = .ok (.ireturn, 1) := by decide +kernel
theorem dX5_readCell_65 : decode cX5_readCell 65 = .ok (.aload_n 0, 1) := by decide +kernel
theorem dX5_readCell_66 : decode cX5_readCell 66 = .ok (.dup, 1) := by decide +kernel
theorem dX5_readCell_67 : decode cX5_readCell 67 = .ok (.getfield 19, 3) := by decide +kernel
theorem dX5_readCell_70 : decode cX5_readCell 70 = .ok (.iconst 1, 1) := by decide +kernel
theorem dX5_readCell_71 : decode cX5_readCell 71 = .ok (.iadd, 1) := by decide +kernel
theorem dX5_readCell_72 : decode cX5_readCell 72 = .ok (.putfield 19, 3) := by decide +kernel
theorem dX5_readCell_75 : decode cX5_readCell 75 = .ok (.aload_n 1, 1) := by decide +kernel
theorem dX5_readCell_76 : decode cX5_readCell 76 = .ok (.getfield 110, 3) := by decide +kernel
theorem dX5_readCell_79 : decode cX5_readCell 79 = .ok (.iload_n 2, 1) := by decide +kernel
theorem dX5_readCell_80 : decode cX5_readCell 80 = .ok (.iload_n 3, 1) := by decide +kernel
theorem dX5_readCell_81 : decode cX5_readCell 81 = .ok (.iload 4, 2) := by decide +kernel
theorem dX5_readCell_83 : decode cX5_readCell 83 = .ok (.invokestatic 77, 3) := by decide +kernel
theorem dX5_readCell_86 : decode cX5_readCell 86 = .ok (.iastore, 1) := by decide +kernel
theorem dX5_readCell_87 : decode cX5_readCell 87 = .ok (.iconst 1, 1) := by decide +kernel
theorem dX5_readCell_88 : decode cX5_readCell 88 = .ok (.ireturn, 1) := by decide +kernel
theorem dX5_readCredit_0 : decode cX5_readCredit 0 = .ok (.iconst 0, 1) := by decide +kernel
theorem dX5_readCredit_1 : decode cX5_readCredit 1 = .ok (.istore_n 2, 1) := by decide +kernel
theorem dX5_readCredit_2 : decode cX5_readCredit 2 = .ok (.iload_n 2, 1) := by decide +kernel
theorem dX5_readCredit_3 : decode cX5_readCredit 3 = .ok (.iconst 4, 1) := by decide +kernel
theorem dX5_readCredit_4 : decode cX5_readCredit 4 = .ok (.if_icmp .ge 39, 3) := by decide +kernel
theorem dX5_readCredit_7 : decode cX5_readCredit 7 = .ok (.aload_n 0, 1) := by decide +kernel
theorem dX5_readCredit_8 : decode cX5_readCredit 8 = .ok (.bipush 10, 2) := by decide +kernel
theorem dX5_readCredit_10 : decode cX5_readCredit 10 = .ok (.invokevirtual 101, 3) := by decide +kernel
theorem dX5_readCredit_13 : decode cX5_readCredit 13 = .ok (.istore_n 3, 1) := by decide +kernel
theorem dX5_readCredit_14 : decode cX5_readCredit 14 = .ok (.iload_n 3, 1) := by decide +kernel
theorem dX5_readCredit_15 : decode cX5_readCredit 15 = .ok (.ifCond .ge 5, 3) := by decide +kernel
theorem dX5_readCredit_18 : decode cX5_readCredit 18 = .ok (.iconst 0, 1) := by decide +kernel
theorem dX5_readCredit_19 : decode cX5_readCredit 19 = .ok (.ireturn, 1) := by decide +kernel
theorem dX5_readCredit_20 : decode cX5_readCredit 20 = .ok (.aload_n 0, 1) := by decide +kernel
theorem dX5_readCredit_21 : decode cX5_readCredit 21 = .ok (.dup, 1) := by decide +kernel
theorem dX5_readCredit_22 : decode cX5_readCredit 22 = .ok (.getfield 19, 3) := by decide +kernel
theorem dX5_readCredit_25 : decode cX5_readCredit 25 = .ok (.iconst 1, 1) := by decide +kernel
theorem dX5_readCredit_26 : decode cX5_readCredit 26 = .ok (.iadd, 1) := by decide +kernel
theorem dX5_readCredit_27 : decode cX5_readCredit 27 = .ok (.putfield 19, 3) := by decide +kernel
theorem dX5_readCredit_30 : decode cX5_readCredit 30 = .ok (.aload_n 1, 1) := by decide +kernel
theorem dX5_readCredit_31 : decode cX5_readCredit 31 = .ok (.getfield 113, 3) := by decide +kernel
theorem dX5_readCredit_34 : decode cX5_readCredit 34 = .ok (.iload_n 2, 1) := by decide +kernel
theorem dX5_readCredit_35 : decode cX5_readCredit 35 = .ok (.iload_n 3, 1) := by decide +kernel
theorem dX5_readCredit_36 : decode cX5_readCredit 36 = .ok (.iastore, 1) := by decide +kernel
theorem dX5_readCredit_37 : decode cX5_readCredit 37 = .ok (.iinc 2 1, 3) := by decide +kernel
theorem dX5_readCredit_40 : decode cX5_readCredit 40 = .ok (.goto (-38), 3) := by decide +kernel
theorem dX5_readCredit_43 : decode cX5_readCredit 43 = .ok (.iconst 1, 1) := by decide +kernel
theorem dX5_readCredit_44 : decode cX5_readCredit 44 = .ok (.ireturn, 1) := by decide +kernel
theorem dX6_init_0 : decode cX6_init 0 = .ok (.aload_n 0, 1) := by decide +kernel
theorem dX6_init_1 : decode cX6_init 1 = .ok (.invokespecial 3, 3) := by decide +kernel
theorem dX6_init_4 : decode cX6_init 4 = .ok (.aload_n 0, 1) := by decide +kernel
theorem dX6_init_5 : decode cX6_init 5 = .ok (.iconst 4, 1) := by decide +kernel
theorem dX6_init_6 : decode cX6_init 6 = .ok (.newarray .int, 2) := by decide +kernel
theorem dX6_init_8 : decode cX6_init 8 = .ok (.putfield 9, 3) := by decide +kernel
theorem dX6_init_11 : decode cX6_init 11 = .ok (.aload_n 0, 1) := by decide +kernel
theorem dX6_init_12 : decode cX6_init 12 = .ok (.iconst 0, 1) := by decide +kernel
theorem dX6_init_13 : decode cX6_init 13 = .ok (.putfield 15, 3) := by decide +kernel
theorem dX6_init_16 : decode cX6_init 16 = .ok (.aload_n 0, 1) := by decide +kernel
theorem dX6_init_17 : decode cX6_init 17 = .ok (.iconst 0, 1) := by decide +kernel
theorem dX6_init_18 : decode cX6_init 18 = .ok (.putfield 19, 3) := by decide +kernel
theorem dX6_init_21 : decode cX6_init 21 = .ok (.aload_n 0, 1) := by decide +kernel
theorem dX6_init_22 : decode cX6_init 22 = .ok (.iconst 0, 1) := by decide +kernel
theorem dX6_init_23 : decode cX6_init 23 = .ok (.putfield 22, 3) := by decide +kernel
theorem dX6_init_26 : decode cX6_init 26 = .ok (.aload_n 0, 1) := by decide +kernel
theorem dX6_init_27 : decode cX6_init 27 = .ok (.iconst 0, 1) := by decide +kernel
theorem dX6_init_28 : decode cX6_init 28 = .ok (.putfield 25, 3) := by decide +kernel
theorem dX6_init_31 : decode cX6_init 31 = .ok (.aload_n 0, 1) := by decide +kernel
theorem dX6_init_32 : decode cX6_init 32 = .ok (.aload_n 1, 1) := by decide +kernel
theorem dX6_init_33 : decode cX6_init 33 = .ok (.putfield 28, 3) := by decide +kernel
theorem dX6_init_36 : decode cX6_init 36 = .ok (.return_, 1) := by decide +kernel
theorem dX6_board_0 : decode cX6_board 0 = .ok (.aload_n 0, 1) := by decide +kernel
theorem dX6_board_1 : decode cX6_board 1 = .ok (.aload_n 1, 1) := by decide +kernel
theorem dX6_board_2 : decode cX6_board 2 = .ok (.getfield 32, 3) := by decide +kernel
theorem dX6_board_5 : decode cX6_board 5 = .ok (.iload_n 2, 1) := by decide +kernel
theorem dX6_board_6 : decode cX6_board 6 = .ok (.iaload, 1) := by decide +kernel
theorem dX6_board_7 : decode cX6_board 7 = .ok (.putfield 15, 3) := by decide +kernel
theorem dX6_board_10 : decode cX6_board 10 = .ok (.aload_n 0, 1) := by decide +kernel
theorem dX6_board_11 : decode cX6_board 11 = .ok (.aload_n 1, 1) := by decide +kernel
theorem dX6_board_12 : decode cX6_board 12 = .ok (.getfield 36, 3) := by decide +kernel
theorem dX6_board_15 : decode cX6_board 15 = .ok (.iload_n 2, 1) := by decide +kernel
theorem dX6_board_16 : decode cX6_board 16 = .ok (.iaload, 1) := by decide +kernel
theorem dX6_board_17 : decode cX6_board 17 = .ok (.putfield 19, 3) := by decide +kernel
theorem dX6_board_20 : decode cX6_board 20 = .ok (.aload_n 0, 1) := by decide +kernel
theorem dX6_board_21 : decode cX6_board 21 = .ok (.aload_n 1, 1) := by decide +kernel
theorem dX6_board_22 : decode cX6_board 22 = .ok (.getfield 38, 3) := by decide +kernel
theorem dX6_board_25 : decode cX6_board 25 = .ok (.iload_n 2, 1) := by decide +kernel
theorem dX6_board_26 : decode cX6_board 26 = .ok (.iaload, 1) := by decide +kernel
theorem dX6_board_27 : decode cX6_board 27 = .ok (.putfield 22, 3) := by decide +kernel
theorem dX6_board_30 : decode cX6_board 30 = .ok (.aload_n 0, 1) := by decide +kernel
theorem dX6_board_31 : decode cX6_board 31 = .ok (.aload_n 1, 1) := by decide +kernel
theorem dX6_board_32 : decode cX6_board 32 = .ok (.getfield 40, 3) := by decide +kernel
theorem dX6_board_35 : decode cX6_board 35 = .ok (.iload_n 2, 1) := by decide +kernel
theorem dX6_board_36 : decode cX6_board 36 = .ok (.iaload, 1) := by decide +kernel
theorem dX6_board_37 : decode cX6_board 37 = .ok (.putfield 25, 3) := by decide +kernel
theorem dX6_board_40 : decode cX6_board 40 = .ok (.aload_n 1, 1) := by decide +kernel
theorem dX6_board_41 : decode cX6_board 41 = .ok (.getfield 42, 3) := by decide +kernel
theorem dX6_board_44 : decode cX6_board 44 = .ok (.iconst 0, 1) := by decide +kernel
theorem dX6_board_45 : decode cX6_board 45 = .ok (.aload_n 0, 1) := by decide +kernel
theorem dX6_board_46 : decode cX6_board 46 = .ok (.getfield 9, 3) := by decide +kernel
theorem dX6_board_49 : decode cX6_board 49 = .ok (.iconst 0, 1) := by decide +kernel
theorem dX6_board_50 : decode cX6_board 50 = .ok (.iconst 4, 1) := by decide +kernel
theorem dX6_board_51 : decode cX6_board 51 = .ok (.invokestatic 43, 3) := by decide +kernel
theorem dX6_board_54 : decode cX6_board 54 = .ok (.return_, 1) := by decide +kernel
theorem dX6_land_0 : decode cX6_land 0 = .ok (.aload_n 1, 1) := by decide +kernel
theorem dX6_land_1 : decode cX6_land 1 = .ok (.getfield 32, 3) := by decide +kernel
theorem dX6_land_4 : decode cX6_land 4 = .ok (.iload_n 2, 1) := by decide +kernel
theorem dX6_land_5 : decode cX6_land 5 = .ok (.aload_n 0, 1) := by decide +kernel
theorem dX6_land_6 : decode cX6_land 6 = .ok (.getfield 15, 3) := by decide +kernel
theorem dX6_land_9 : decode cX6_land 9 = .ok (.iastore, 1) := by decide +kernel
theorem dX6_land_10 : decode cX6_land 10 = .ok (.aload_n 1, 1) := by decide +kernel
theorem dX6_land_11 : decode cX6_land 11 = .ok (.getfield 36, 3) := by decide +kernel
theorem dX6_land_14 : decode cX6_land 14 = .ok (.iload_n 2, 1) := by decide +kernel
theorem dX6_land_15 : decode cX6_land 15 = .ok (.aload_n 0, 1) := by decide +kernel
theorem dX6_land_16 : decode cX6_land 16 = .ok (.getfield 19, 3) := by decide +kernel
theorem dX6_land_19 : decode cX6_land 19 = .ok (.iastore, 1) := by decide +kernel
theorem dX6_land_20 : decode cX6_land 20 = .ok (.aload_n 1, 1) := by decide +kernel
theorem dX6_land_21 : decode cX6_land 21 = .ok (.getfield 38, 3) := by decide +kernel
theorem dX6_land_24 : decode cX6_land 24 = .ok (.iload_n 2, 1) := by decide +kernel
theorem dX6_land_25 : decode cX6_land 25 = .ok (.aload_n 0, 1) := by decide +kernel
theorem dX6_land_26 : decode cX6_land 26 = .ok (.getfield 22, 3) := by decide +kernel
theorem dX6_land_29 : decode cX6_land 29 = .ok (.iastore, 1) := by decide +kernel
theorem dX6_land_30 : decode cX6_land 30 = .ok (.aload_n 1, 1) := by decide +kernel
theorem dX6_land_31 : decode cX6_land 31 = .ok (.getfield 40, 3) := by decide +kernel
theorem dX6_land_34 : decode cX6_land 34 = .ok (.iload_n 2, 1) := by decide +kernel
theorem dX6_land_35 : decode cX6_land 35 = .ok (.aload_n 0, 1) := by decide +kernel
theorem dX6_land_36 : decode cX6_land 36 = .ok (.getfield 25, 3) := by decide +kernel
theorem dX6_land_39 : decode cX6_land 39 = .ok (.iastore, 1) := by decide +kernel
theorem dX6_land_40 : decode cX6_land 40 = .ok (.aload_n 0, 1) := by decide +kernel
theorem dX6_land_41 : decode cX6_land 41 = .ok (.getfield 9, 3) := by decide +kernel
theorem dX6_land_44 : decode cX6_land 44 = .ok (.iconst 0, 1) := by decide +kernel
theorem dX6_land_45 : decode cX6_land 45 = .ok (.aload_n 1, 1) := by decide +kernel
theorem dX6_land_46 : decode cX6_land 46 = .ok (.getfield 42, 3) := by decide +kernel
theorem dX6_land_49 : decode cX6_land 49 = .ok (.iconst 0, 1) := by decide +kernel
theorem dX6_land_50 : decode cX6_land 50 = .ok (.iconst 4, 1) := by decide +kernel
theorem dX6_land_51 : decode cX6_land 51 = .ok (.invokestatic 43, 3) := by decide +kernel
theorem dX6_land_54 : decode cX6_land 54 = .ok (.return_, 1) := by decide +kernel
theorem dX6_follow_0 : decode cX6_follow 0 = .ok (.aload_n 0, 1) := by decide +kernel
theorem dX6_follow_1 : decode cX6_follow 1 = .ok (.aload_n 1, 1) := by decide +kernel
theorem dX6_follow_2 : decode cX6_follow 2 = .ok (.getfield 15, 3) := by decide +kernel
theorem dX6_follow_5 : decode cX6_follow 5 = .ok (.putfield 15, 3) := by decide +kernel
theorem dX6_follow_8 : decode cX6_follow 8 = .ok (.aload_n 0, 1) := by decide +kernel
theorem dX6_follow_9 : decode cX6_follow 9 = .ok (.aload_n 1, 1) := by decide +kernel
theorem dX6_follow_10 : decode cX6_follow 10 = .ok (.getfield 19, 3) := by decide +kernel
theorem dX6_follow_13 : decode cX6_follow 13 = .ok (.putfield 19, 3) := by decide +kernel
theorem dX6_follow_16 : decode cX6_follow 16 = .ok (.aload_n 0, 1) := by decide +kernel
theorem dX6_follow_17 : decode cX6_follow 17 = .ok (.aload_n 1, 1) := by decide +kernel
theorem dX6_follow_18 : decode cX6_follow 18 = .ok (.getfield 22, 3) := by decide +kernel
theorem dX6_follow_21 : decode cX6_follow 21 = .ok (.putfield 22, 3) := by decide +kernel
theorem dX6_follow_24 : decode cX6_follow 24 = .ok (.aload_n 0, 1) := by decide +kernel
theorem dX6_follow_25 : decode cX6_follow 25 = .ok (.aload_n 1, 1) := by decide +kernel
theorem dX6_follow_26 : decode cX6_follow 26 = .ok (.getfield 25, 3) := by decide +kernel
theorem dX6_follow_29 : decode cX6_follow 29 = .ok (.putfield 25, 3) := by decide +kernel
theorem dX6_follow_32 : decode cX6_follow 32 = .ok (.aload_n 1, 1) := by decide +kernel
theorem dX6_follow_33 : decode cX6_follow 33 = .ok (.getfield 9, 3) := by decide +kernel
theorem dX6_follow_36 : decode cX6_follow 36 = .ok (.iconst 0, 1) := by decide +kernel
theorem dX6_follow_37 : decode cX6_follow 37 = .ok (.aload_n 0, 1) := by decide +kernel
theorem dX6_follow_38 : decode cX6_follow 38 = .ok (.getfield 9, 3) := by decide +kernel
theorem dX6_follow_41 : decode cX6_follow 41 = .ok (.iconst 0, 1) := by decide +kernel
theorem dX6_follow_42 : decode cX6_follow 42 = .ok (.iconst 4, 1) := by decide +kernel
theorem dX6_follow_43 : decode cX6_follow 43 = .ok (.invokestatic 43, 3) := by decide +kernel
theorem dX6_follow_46 : decode cX6_follow 46 = .ok (.return_, 1) := by decide +kernel
theorem dX6_trusts_0 : decode cX6_trusts 0 = .ok (.aload_n 0, 1) := by decide +kernel
theorem dX6_trusts_1 : decode cX6_trusts 1 = .ok (.getfield 9, 3) := by decide +kernel
theorem dX6_trusts_4 : decode cX6_trusts 4 = .ok (.iload_n 1, 1) := by decide +kernel
theorem dX6_trusts_5 : decode cX6_trusts 5 = .ok (.iaload, 1) := by decide +kernel
theorem dX6_trusts_6 : decode cX6_trusts 6 = .ok (.aload_n 0, 1) := by decide +kernel
theorem dX6_trusts_7 : decode cX6_trusts 7 = .ok (.getfield 15, 3) := by decide +kernel
theorem dX6_trusts_10 : decode cX6_trusts 10 = .ok (.aload_n 0, 1) := by decide +kernel
theorem dX6_trusts_11 : decode cX6_trusts 11 = .ok (.getfield 25, 3) := by decide +kernel
theorem dX6_trusts_14 : decode cX6_trusts 14 = .ok (.iload_n 1, 1) := by decide +kernel
theorem dX6_trusts_15 : decode cX6_trusts 15 = .ok (.invokestatic 49, 3) := by decide +kernel
theorem dX6_trusts_18 : decode cX6_trusts 18 = .ok (.if_icmp .lt 7, 3) := by decide +kernel
theorem dX6_trusts_21 : decode cX6_trusts 21 = .ok (.iconst 1, 1) := by decide +kernel
theorem dX6_trusts_22 : decode cX6_trusts 22 = .ok (.goto 4, 3) := by decide +kernel
theorem dX6_trusts_25 : decode cX6_trusts 25 = .ok (.iconst 0, 1) := by decide +kernel
theorem dX6_trusts_26 : decode cX6_trusts 26 = .ok (.ireturn, 1) := by decide +kernel
theorem dX6_hear_0 : decode cX6_hear 0 = .ok (.aload_n 0, 1) := by decide +kernel
theorem dX6_hear_1 : decode cX6_hear 1 = .ok (.iload_n 1, 1) := by decide +kernel
theorem dX6_hear_2 : decode cX6_hear 2 = .ok (.invokevirtual 53, 3) := by decide +kernel
theorem dX6_hear_5 : decode cX6_hear 5 = .ok (.istore_n 3, 1) := by decide +kernel
theorem dX6_hear_6 : decode cX6_hear 6 = .ok (.iload_n 3, 1) := by decide +kernel
theorem dX6_hear_7 : decode cX6_hear 7 = .ok (.ifCond .eq 19, 3) := by decide +kernel
theorem dX6_hear_10 : decode cX6_hear 10 = .ok (.aload_n 0, 1) := by decide +kernel
theorem dX6_hear_11 : decode cX6_hear 11 = .ok (.aload_n 0, 1) := by decide +kernel
theorem dX6_hear_12 : decode cX6_hear 12 = .ok (.getfield 15, 3) := by decide +kernel
theorem dX6_hear_15 : decode cX6_hear 15 = .ok (.aload_n 0, 1) := by decide +kernel
theorem dX6_hear_16 : decode cX6_hear 16 = .ok (.getfield 22, 3) := by decide +kernel
theorem dX6_hear_19 : decode cX6_hear 19 = .ok (.iload_n 2, 1) := by decide +kernel
theorem dX6_hear_20 : decode cX6_hear 20 = .ok (.invokestatic 57, 3) := by decide +kernel
theorem dX6_hear_23 : decode cX6_hear 23 = .ok (.putfield 22, 3) := by decide +kernel
theorem dX6_hear_26 : decode cX6_hear 26 = .ok (.aload_n 0, 1) := by decide +kernel
theorem dX6_hear_27 : decode cX6_hear 27 = .ok (.invokevirtual 60, 3) := by decide +kernel
theorem dX6_hear_30 : decode cX6_hear 30 = .ok (.istore 4, 2) := by decide +kernel
theorem dX6_hear_32 : decode cX6_hear 32 = .ok (.iload_n 3, 1) := by decide +kernel
theorem dX6_hear_33 : decode cX6_hear 33 = .ok (.ifCond .eq 10, 3) := by decide +kernel
theorem dX6_hear_36 : decode cX6_hear 36 = .ok (.aload_n 0, 1) := by decide +kernel
theorem dX6_hear_37 : decode cX6_hear 37 = .ok (.iload_n 1, 1) := by decide +kernel
theorem dX6_hear_38 : decode cX6_hear 38 = .ok (.iload 4, 2) := by decide +kernel
theorem dX6_hear_40 : decode cX6_hear 40 = .ok (.invokevirtual 64, 3) := by decide +kernel
theorem dX6_hear_43 : decode cX6_hear 43 = .ok (.return_, 1) := by decide +kernel
theorem dX6_hearTwo_0 : decode cX6_hearTwo 0 = .ok (.aload_n 0, 1) := by decide +kernel
theorem dX6_hearTwo_1 : decode cX6_hearTwo 1 = .ok (.iload_n 1, 1) := by decide +kernel
theorem dX6_hearTwo_2 : decode cX6_hearTwo 2 = .ok (.invokevirtual 53, 3) := by decide +kernel
theorem dX6_hearTwo_5 : decode cX6_hearTwo 5 = .ok (.istore 5, 2) := by decide +kernel
theorem dX6_hearTwo_7 : decode cX6_hearTwo 7 = .ok (.aload_n 0, 1) := by decide +kernel
theorem dX6_hearTwo_8 : decode cX6_hearTwo 8 = .ok (.iload_n 3, 1) := by decide +kernel
theorem dX6_hearTwo_9 : decode cX6_hearTwo 9 = .ok (.invokevirtual 53, 3) := by decide +kernel
theorem dX6_hearTwo_12 : decode cX6_hearTwo 12 = .ok (.istore 6, 2) := by decide +kernel
theorem dX6_hearTwo_14 : decode cX6_hearTwo 14 = .ok (.iload 5, 2) := by decide +kernel
theorem dX6_hearTwo_16 : decode cX6_hearTwo 16 = .ok (.ifCond .eq 21, 3) := by decide +kernel
theorem dX6_hearTwo_19 : decode cX6_hearTwo 19 = .ok (.iload 6, 2) := by decide +kernel
theorem dX6_hearTwo_21 : decode cX6_hearTwo 21 = .ok (.ifCond .eq 16, 3) := by decide +kernel
theorem dX6_hearTwo_24 : decode cX6_hearTwo 24 = .ok (.iload_n 2, 1) := by decide +kernel
theorem dX6_hearTwo_25 : decode cX6_hearTwo 25 = .ok (.iload 4, 2) := by decide +kernel
theorem dX6_hearTwo_27 : decode cX6_hearTwo 27 = .ok (.if_icmp .eq 10, 3) := by decide +kernel
theorem dX6_hearTwo_30 : decode cX6_hearTwo 30 = .ok (.aload_n 0, 1) := by decide +kernel
theorem dX6_hearTwo_31 : decode cX6_hearTwo 31 = .ok (.iload_n 1, 1) := by decide +kernel
theorem dX6_hearTwo_32 : decode cX6_hearTwo 32 = .ok (.iload_n 3, 1) := by decide +kernel
theorem dX6_hearTwo_33 : decode cX6_hearTwo 33 = .ok (.invokevirtual 68, 3) := by decide +kernel
theorem dX6_hearTwo_36 : decode cX6_hearTwo 36 = .ok (.return_, 1) := by decide +kernel
theorem dX6_hearTwo_37 : decode cX6_hearTwo 37 = .ok (.iload 5, 2) := by decide +kernel
theorem dX6_hearTwo_39 : decode cX6_hearTwo 39 = .ok (.ifCond .ne 8, 3) := by decide +kernel
theorem dX6_hearTwo_42 : decode cX6_hearTwo 42 = .ok (.iload 6, 2) := by decide +kernel
theorem dX6_hearTwo_44 : decode cX6_hearTwo 44 = .ok (.ifCond .eq 29, 3) := by decide +kernel
theorem dX6_hearTwo_47 : decode cX6_hearTwo 47 = .ok (.aload_n 0, 1) := by decide +kernel
theorem dX6_hearTwo_48 : decode cX6_hearTwo 48 = .ok (.aload_n 0, 1) := by decide +kernel
theorem dX6_hearTwo_49 : decode cX6_hearTwo 49 = .ok (.getfield 15, 3) := by decide +kernel
theorem dX6_hearTwo_52 : decode cX6_hearTwo 52 = .ok (.aload_n 0, 1) := by decide +kernel
theorem dX6_hearTwo_53 : decode cX6_hearTwo 53 = .ok (.getfield 22, 3) := by decide +kernel
theorem dX6_hearTwo_56 : decode cX6_hearTwo 56 = .ok (.iload 5, 2) := by decide +kernel
theorem dX6_hearTwo_58 : decode cX6_hearTwo 58 = .ok (.ifCond .eq 7, 3) := by decide +kernel
theorem dX6_hearTwo_61 : decode cX6_hearTwo 61 = .ok (.iload_n 2, 1) := by decide +kernel
theorem dX6_hearTwo_62 : decode cX6_hearTwo 62 = .ok (.goto 5, 3) := by decide +kernel
theorem dX6_hearTwo_65 : decode cX6_hearTwo 65 = .ok (.iload 4, 2) := by decide +kernel
theorem dX6_hearTwo_67 : decode cX6_hearTwo 67 = .ok (.invokestatic 57, 3) := by decide +kernel
theorem dX6_hearTwo_70 : decode cX6_hearTwo 70 = .ok (.putfield 22, 3) := by decide +kernel
theorem dX6_hearTwo_73 : decode cX6_hearTwo 73 = .ok (.aload_n 0, 1) := by decide +kernel
theorem dX6_hearTwo_74 : decode cX6_hearTwo 74 = .ok (.invokevirtual 60, 3) := by decide +kernel
theorem dX6_hearTwo_77 : decode cX6_hearTwo 77 = .ok (.istore 7, 2) := by decide +kernel
theorem dX6_hearTwo_79 : decode cX6_hearTwo 79 = .ok (.iload 5, 2) := by decide +kernel
theorem dX6_hearTwo_81 : decode cX6_hearTwo 81 = .ok (.ifCond .eq 10, 3) := by decide +kernel
theorem dX6_hearTwo_84 : decode cX6_hearTwo 84 = .ok (.aload_n 0, 1) := by decide +kernel
theorem dX6_hearTwo_85 : decode cX6_hearTwo 85 = .ok (.iload_n 1, 1) := by decide +kernel
theorem dX6_hearTwo_86 : decode cX6_hearTwo 86 = .ok (.iload 7, 2) := by decide +kernel
theorem dX6_hearTwo_88 : decode cX6_hearTwo 88 = .ok (.invokevirtual 64, 3) := by decide +kernel
theorem dX6_hearTwo_91 : decode cX6_hearTwo 91 = .ok (.iload 6, 2) := by decide +kernel
theorem dX6_hearTwo_93 : decode cX6_hearTwo 93 = .ok (.ifCond .eq 10, 3) := by decide +kernel
theorem dX6_hearTwo_96 : decode cX6_hearTwo 96 = .ok (.aload_n 0, 1) := by decide +kernel
theorem dX6_hearTwo_97 : decode cX6_hearTwo 97 = .ok (.iload_n 3, 1) := by decide +kernel
theorem dX6_hearTwo_98 : decode cX6_hearTwo 98 = .ok (.iload 7, 2) := by decide +kernel
theorem dX6_hearTwo_100 : decode cX6_hearTwo 100 = .ok (.invokevirtual 64, 3) := by decide +kernel
theorem dX6_hearTwo_103 : decode cX6_hearTwo 103 = .ok (.return_, 1) := by decide +kernel
theorem dX6_beTorn_0 : decode cX6_beTorn 0 = .ok (.aload_n 0, 1) := by decide +kernel
theorem dX6_beTorn_1 : decode cX6_beTorn 1 = .ok (.invokevirtual 72, 3) := by decide +kernel
theorem dX6_beTorn_4 : decode cX6_beTorn 4 = .ok (.aload_n 0, 1) := by decide +kernel
theorem dX6_beTorn_5 : decode cX6_beTorn 5 = .ok (.getfield 9, 3) := by decide +kernel
theorem dX6_beTorn_8 : decode cX6_beTorn 8 = .ok (.iload_n 1, 1) := by decide +kernel
theorem dX6_beTorn_9 : decode cX6_beTorn 9 = .ok (.iconst 0, 1) := by decide +kernel
theorem dX6_beTorn_10 : decode cX6_beTorn 10 = .ok (.aload_n 0, 1) := by decide +kernel
theorem dX6_beTorn_11 : decode cX6_beTorn 11 = .ok (.getfield 9, 3) := by decide +kernel
theorem dX6_beTorn_14 : decode cX6_beTorn 14 = .ok (.iload_n 1, 1) := by decide +kernel
theorem dX6_beTorn_15 : decode cX6_beTorn 15 = .ok (.iaload, 1) := by decide +kernel
theorem dX6_beTorn_16 : decode cX6_beTorn 16 = .ok (.iconst 1, 1) := by decide +kernel
theorem dX6_beTorn_17 : decode cX6_beTorn 17 = .ok (.isub, 1) := by decide +kernel
theorem dX6_beTorn_18 : decode cX6_beTorn 18 = .ok (.invokestatic 75, 3) := by decide +kernel
theorem dX6_beTorn_21 : decode cX6_beTorn 21 = .ok (.iastore, 1) := by decide +kernel
theorem dX6_beTorn_22 : decode cX6_beTorn 22 = .ok (.aload_n 0, 1) := by decide +kernel
theorem dX6_beTorn_23 : decode cX6_beTorn 23 = .ok (.getfield 9, 3) := by decide +kernel
theorem dX6_beTorn_26 : decode cX6_beTorn 26 = .ok (.iload_n 2, 1) := by decide +kernel
theorem dX6_beTorn_27 : decode cX6_beTorn 27 = .ok (.iconst 0, 1) := by decide +kernel
theorem dX6_beTorn_28 : decode cX6_beTorn 28 = .ok (.aload_n 0, 1) := by decide +kernel
theorem dX6_beTorn_29 : decode cX6_beTorn 29 = .ok (.getfield 9, 3) := by decide +kernel
theorem dX6_beTorn_32 : decode cX6_beTorn 32 = .ok (.iload_n 2, 1) := by decide +kernel
theorem dX6_beTorn_33 : decode cX6_beTorn 33 = .ok (.iaload, 1) := by decide +kernel
theorem dX6_beTorn_34 : decode cX6_beTorn 34 = .ok (.iconst 1, 1) := by decide +kernel
theorem dX6_beTorn_35 : decode cX6_beTorn 35 = .ok (.isub, 1) := by decide +kernel
theorem dX6_beTorn_36 : decode cX6_beTorn 36 = .ok (.invokestatic 75, 3) := by decide +kernel
theorem dX6_beTorn_39 : decode cX6_beTorn 39 = .ok (.iastore, 1) := by decide +kernel
theorem dX6_beTorn_40 : decode cX6_beTorn 40 = .ok (.return_, 1) := by decide +kernel
theorem dX6_goOn_0 : decode cX6_goOn 0 = .ok (.aload_n 0, 1) := by decide +kernel
theorem dX6_goOn_1 : decode cX6_goOn 1 = .ok (.getfield 28, 3) := by decide +kernel
theorem dX6_goOn_4 : decode cX6_goOn 4 = .ok (.aload_n 0, 1) := by decide +kernel
theorem dX6_goOn_5 : decode cX6_goOn 5 = .ok (.getfield 19, 3) := by decide +kernel
theorem dX6_goOn_8 : decode cX6_goOn 8 = .ok (.aload_n 0, 1) := by decide +kernel
theorem dX6_goOn_9 : decode cX6_goOn 9 = .ok (.getfield 22, 3) := by decide +kernel
theorem dX6_goOn_12 : decode cX6_goOn 12 = .ok (.invokevirtual 81, 3) := by decide +kernel
theorem dX6_goOn_15 : decode cX6_goOn 15 = .ok (.istore_n 1, 1) := by decide +kernel
theorem dX6_goOn_16 : decode cX6_goOn 16 = .ok (.iload_n 1, 1) := by decide +kernel
theorem dX6_goOn_17 : decode cX6_goOn 17 = .ok (.ifCond .ge 9, 3) := by decide +kernel
theorem dX6_goOn_20 : decode cX6_goOn 20 = .ok (.aload_n 0, 1) := by decide +kernel
theorem dX6_goOn_21 : decode cX6_goOn 21 = .ok (.invokevirtual 72, 3) := by decide +kernel
theorem dX6_goOn_24 : decode cX6_goOn 24 = .ok (.iconst 1, 1) := by decide +kernel
theorem dX6_goOn_25 : decode cX6_goOn 25 = .ok (.ireturn, 1) := by decide +kernel
theorem dX6_goOn_26 : decode cX6_goOn 26 = .ok (.aload_n 0, 1) := by decide +kernel
theorem dX6_goOn_27 : decode cX6_goOn 27 = .ok (.iload_n 1, 1) := by decide +kernel
theorem dX6_goOn_28 : decode cX6_goOn 28 = .ok (.putfield 19, 3) := by decide +kernel
theorem dX6_goOn_31 : decode cX6_goOn 31 = .ok (.iconst 0, 1) := by decide +kernel
theorem dX6_goOn_32 : decode cX6_goOn 32 = .ok (.ireturn, 1) := by decide +kernel
theorem dX6_beWormed_0 : decode cX6_beWormed 0 = .ok (.aload_n 0, 1) := by decide +kernel
theorem dX6_beWormed_1 : decode cX6_beWormed 1 = .ok (.iconst 5, 1) := by decide +kernel
theorem dX6_beWormed_2 : decode cX6_beWormed 2 = .ok (.aload_n 0, 1) := by decide +kernel
theorem dX6_beWormed_3 : decode cX6_beWormed 3 = .ok (.getfield 25, 3) := by decide +kernel
theorem dX6_beWormed_6 : decode cX6_beWormed 6 = .ok (.iconst 1, 1) := by decide +kernel
theorem dX6_beWormed_7 : decode cX6_beWormed 7 = .ok (.iadd, 1) := by decide +kernel
theorem dX6_beWormed_8 : decode cX6_beWormed 8 = .ok (.invokestatic 86, 3) := by decide +kernel
theorem dX6_beWormed_11 : decode cX6_beWormed 11 = .ok (.putfield 25, 3) := by decide +kernel
theorem dX6_beWormed_14 : decode cX6_beWormed 14 = .ok (.return_, 1) := by decide +kernel
theorem dX6_settle_0 : decode cX6_settle 0 = .ok (.aload_n 0, 1) := by decide +kernel
theorem dX6_settle_1 : decode cX6_settle 1 = .ok (.getfield 9, 3) := by decide +kernel
theorem dX6_settle_4 : decode cX6_settle 4 = .ok (.iload_n 1, 1) := by decide +kernel
theorem dX6_settle_5 : decode cX6_settle 5 = .ok (.iload_n 2, 1) := by decide +kernel
theorem dX6_settle_6 : decode cX6_settle 6 = .ok (.ifCond .eq 18, 3) := by decide +kernel
theorem dX6_settle_9 : decode cX6_settle 9 = .ok (.iconst 0, 1) := by decide +kernel
theorem dX6_settle_10 : decode cX6_settle 10 = .ok (.aload_n 0, 1) := by decide +kernel
theorem dX6_settle_11 : decode cX6_settle 11 = .ok (.getfield 9, 3) := by decide +kernel
theorem dX6_settle_14 : decode cX6_settle 14 = .ok (.iload_n 1, 1) := by decide +kernel
theorem dX6_settle_15 : decode cX6_settle 15 = .ok (.iaload, 1) := by decide +kernel
theorem dX6_settle_16 : decode cX6_settle 16 = .ok (.iconst 2, 1) := by decide +kernel
theorem dX6_settle_17 : decode cX6_settle 17 = .ok (.isub, 1) := by decide +kernel
theorem dX6_settle_18 : decode cX6_settle 18 = .ok (.invokestatic 75, 3) := by decide +kernel
theorem dX6_settle_21 : decode cX6_settle 21 = .ok (.goto 16, 3) := by decide +kernel
theorem dX6_settle_24 : decode cX6_settle 24 = .ok (.bipush 9, 2) := by decide +kernel
theorem dX6_settle_26 : decode cX6_settle 26 = .ok (.aload_n 0, 1) := by decide +kernel
theorem dX6_settle_27 : decode cX6_settle 27 = .ok (.getfield 9, 3) := by decide +kernel
theorem dX6_settle_30 : decode cX6_settle 30 = .ok (.iload_n 1, 1) := by decide +kernel
theorem dX6_settle_31 : decode cX6_settle 31 = .ok (.iaload, 1) := by decide +kernel
theorem dX6_settle_32 : decode cX6_settle 32 = .ok (.iconst 1, 1) := by decide +kernel
theorem dX6_settle_33 : decode cX6_settle 33 = .ok (.iadd, 1) := by decide +kernel
theorem dX6_settle_34 : decode cX6_settle 34 = .ok (.invokestatic 86, 3) := by decide +kernel
theorem dX6_settle_37 : decode cX6_settle 37 = .ok (.iastore, 1) := by decide +kernel
theorem dX6_settle_38 : decode cX6_settle 38 = .ok (.return_, 1) := by decide +kernel
theorem dX6_keepsTo_0 : decode cX6_keepsTo 0 = .ok (.iconst 0, 1) := by decide +kernel
theorem dX6_keepsTo_1 : decode cX6_keepsTo 1 = .ok (.istore 5, 2) := by decide +kernel
theorem dX6_keepsTo_3 : decode cX6_keepsTo 3 = .ok (.iload 5, 2) := by decide +kernel
theorem dX6_keepsTo_5 : decode cX6_keepsTo 5 = .ok (.iload 4, 2) := by decide +kernel
theorem dX6_keepsTo_7 : decode cX6_keepsTo 7 = .ok (.if_icmp .ge 50, 3) := by decide +kernel
theorem dX6_keepsTo_10 : decode cX6_keepsTo 10 = .ok (.aload_n 0, 1) := by decide +kernel
theorem dX6_keepsTo_11 : decode cX6_keepsTo 11 = .ok (.iload_n 1, 1) := by decide +kernel
theorem dX6_keepsTo_12 : decode cX6_keepsTo 12 = .ok (.aload_n 2, 1) := by decide +kernel
theorem dX6_keepsTo_13 : decode cX6_keepsTo 13 = .ok (.getfield 89, 3) := by decide +kernel
theorem dX6_keepsTo_16 : decode cX6_keepsTo 16 = .ok (.iload_n 3, 1) := by decide +kernel
theorem dX6_keepsTo_17 : decode cX6_keepsTo 17 = .ok (.iconst 2, 1) := by decide +kernel
theorem dX6_keepsTo_18 : decode cX6_keepsTo 18 = .ok (.iload 5, 2) := by decide +kernel
theorem dX6_keepsTo_20 : decode cX6_keepsTo 20 = .ok (.imul, 1) := by decide +kernel
theorem dX6_keepsTo_21 : decode cX6_keepsTo 21 = .ok (.iadd, 1) := by decide +kernel
theorem dX6_keepsTo_22 : decode cX6_keepsTo 22 = .ok (.laload, 1) := by decide +kernel
theorem dX6_keepsTo_23 : decode cX6_keepsTo 23 = .ok (.l2i, 1) := by decide +kernel
theorem dX6_keepsTo_24 : decode cX6_keepsTo 24 = .ok (.invokevirtual 95, 3) := by decide +kernel
theorem dX6_keepsTo_27 : decode cX6_keepsTo 27 = .ok (.aload_n 0, 1) := by decide +kernel
theorem dX6_keepsTo_28 : decode cX6_keepsTo 28 = .ok (.getfield 19, 3) := by decide +kernel
theorem dX6_keepsTo_31 : decode cX6_keepsTo 31 = .ok (.i2l, 1) := by decide +kernel
theorem dX6_keepsTo_32 : decode cX6_keepsTo 32 = .ok (.aload_n 2, 1) := by decide +kernel
theorem dX6_keepsTo_33 : decode cX6_keepsTo 33 = .ok (.getfield 89, 3) := by decide +kernel
theorem dX6_keepsTo_36 : decode cX6_keepsTo 36 = .ok (.iload_n 3, 1) := by decide +kernel
theorem dX6_keepsTo_37 : decode cX6_keepsTo 37 = .ok (.iconst 2, 1) := by decide +kernel
theorem dX6_keepsTo_38 : decode cX6_keepsTo 38 = .ok (.iload 5, 2) := by decide +kernel
theorem dX6_keepsTo_40 : decode cX6_keepsTo 40 = .ok (.imul, 1) := by decide +kernel
theorem dX6_keepsTo_41 : decode cX6_keepsTo 41 = .ok (.iadd, 1) := by decide +kernel
theorem dX6_keepsTo_42 : decode cX6_keepsTo 42 = .ok (.iconst 1, 1) := by decide +kernel
theorem dX6_keepsTo_43 : decode cX6_keepsTo 43 = .ok (.iadd, 1) := by decide +kernel
theorem dX6_keepsTo_44 : decode cX6_keepsTo 44 = .ok (.laload, 1) := by decide +kernel
theorem dX6_keepsTo_45 : decode cX6_keepsTo 45 = .ok (.lcmp, 1) := by decide +kernel
theorem dX6_keepsTo_46 : decode cX6_keepsTo 46 = .ok (.ifCond .eq 5, 3) := by decide +kernel
theorem dX6_keepsTo_49 : decode cX6_keepsTo 49 = .ok (.iconst 0, 1) := by decide +kernel
theorem dX6_keepsTo_50 : decode cX6_keepsTo 50 = .ok (.ireturn, 1) := by decide +kernel
theorem dX6_keepsTo_51 : decode cX6_keepsTo 51 = .ok (.iinc 5 1, 3) := by decide +kernel
theorem dX6_keepsTo_54 : decode cX6_keepsTo 54 = .ok (.goto (-51), 3) := by decide +kernel
theorem dX6_keepsTo_57 : decode cX6_keepsTo 57 = .ok (.iconst 1, 1) := by decide +kernel
theorem dX6_keepsTo_58 : decode cX6_keepsTo 58 = .ok (.ireturn, 1) := by decide +kernel
end
section
-- ===== the words that every method of the system may use =====
def gtbl : List Cond := lw_tbl.filter goodWord
theorem gm {w : Cond} (i : Nat) (h : tables_1[i]? = some w) (hg : goodWord w = true) : w ∈ gtbl :=
  List.mem_filter.mpr ⟨List.mem_append_right _ (List.mem_of_getElem? h), hg⟩
theorem gs {w : Cond} (i : Nat) (h : (k2_sels lw_privs)[i]? = some w) (hg : goodWord w = true) : w ∈ gtbl :=
  List.mem_filter.mpr ⟨List.mem_append_left _ (List.mem_of_getElem? h), hg⟩
theorem gtbl_good : ∀ w ∈ gtbl, goodWord w = true := fun _ h => (List.mem_filter.mp h).2
-- a method: name, bytes, locals, answer, its class
abbrev MT : Type := MethodName × ByteArray × Nat × Option FieldType × String
-- what is fixed for a run: launch, classes, array classes, old cells, the first of our cells
abbrev GT : Type := Launch × va_G × (Nat → ClassId) × (Nat → Nat) × Nat × (Nat → Nat)
abbrev gD (g : GT) : va_G := g.2.1
abbrev gA (g : GT) : Nat → ClassId := g.2.2.1
abbrev gR (g : GT) : Nat → Nat := g.2.2.2.1
abbrev gB (g : GT) : Nat := g.2.2.2.2.1
abbrev ga (g : GT) : Nat → Nat := g.2.2.2.2.2
def gF (g : GT) : Nat → Prop := fun q => gB g ≤ q
def clsL : List vw_C := [(RX0, TX0, 5), (RX1, TX1, 6), (RX2, TX2, 8), (RX3, TX3, 3), (RX4, TX4, 4), (RX5, TX5, 3), (RX6, TX6, 6), (RX7, TX7, 9), (RX8, TX8, 14)]
def tysL (g : GT) : List (ClassId × FieldType) := [(gA g 0, .int), (gA g 1, .long), (gA g 2, .object "FigureHeads$Fleet"), (gA g 3, .object "FigureHeads$Voyage"), (gA g 4, .object "FigureHeads$Sheet")]
def WL (b : Nat → Nat) (es : List va_E) : va_W := es.mapIdx (fun k e => (b k, e))
theorem WL_at {b : Nat → Nat} {es : List va_E} {k : Nat} {e : va_E} (h : es[k]? = some e) : (WL b es)[k]? = some (b k, e) := by
  unfold WL; rw [List.getElem?_mapIdx, h]; rfl
theorem WL_set {b : Nat → Nat} {es : List va_E} {k : Nat} {e : va_E} : (WL b es).set k (b k, e) = WL b (es.set k e) := by
  apply List.ext_getElem?
  intro i
  unfold WL
  rw [List.getElem?_set, List.getElem?_mapIdx, List.getElem?_mapIdx, List.getElem?_set, List.length_mapIdx]
  by_cases h : k = i
  · subst h
    by_cases h2 : k < es.length
    · simp [h2]
    · simp [h2]
  · simp [h]
def nestW : List Cond := [.methodLinkNest RX7 9 yX5_init RX7, .methodLinkNest RX7 18 yX2_init RX7, .methodLinkNest RX2 11 yX3_init RX7, .methodLinkNest RX7 67 yX4_init RX7, .methodLinkNest RX2 54 yX7_doubtBy RX7, .methodLinkNest RX6 49 yX7_doubtBy RX7, .methodLinkNest RX6 57 yX7_turned RX7, .methodLinkNest RX1 61 yX7_turned RX7, .methodLinkNest RX4 32 yX7_isWord RX7, .fieldLinkNest RX3 32 "FigureHeads" "ROW_STEP" "[I" "FigureHeads", .fieldLinkNest RX3 35 "FigureHeads" "COLUMN_STEP" "[I" "FigureHeads"]
theorem nestW_on : nestW.all (fun w => w.onTables) = true := by decide +kernel
def stB : List (List Int32) := [[46, 35, 111], [111, 103, 100, 116, 109], [110, 101, 115, 119]]
def ovr (j : Nat) : Int32 := ([-1, 0, 1, 0, 1, 2] : List Int32).getD j 0
def rst (j : Nat) : Int32 := ([-1, 0, 1, 0] : List Int32).getD j 0
def cst (j : Nat) : Int32 := ([0, 1, 0, -1] : List Int32).getD j 0
/-- what lies below our cells and is only read -/
def RoOK (g : GT) (U : State) (H : Heap) : Prop :=
  (va_Z "FigureHeads" "OVER" "[I" (.ref (gR g 0)) (gF g) U H ∧ va_T .int (gR g 0) 6 (fun j => .int (ovr j)) (gF g) U H) ∧
  (va_Z "FigureHeads" "ROW_STEP" "[I" (.ref (gR g 1)) (gF g) U H ∧ va_T .int (gR g 1) 4 (fun j => .int (rst j)) (gF g) U H) ∧
  (va_Z "FigureHeads" "COLUMN_STEP" "[I" (.ref (gR g 2)) (gF g) U H ∧ va_T .int (gR g 2) 4 (fun j => .int (cst j)) (gF g) U H) ∧
  va_Z "java/lang/String" "COMPACT_STRINGS" "Z" (.int 1) (gF g) U H ∧
  vk_S 3 [3, 5, 4] stB (fun i => gR g (3 + i)) (fun i => gR g (6 + i)) (gF g) U H ∧
  (vk_R RX5 68 ".#o" (gR g 3) U ∧ vk_R RX5 88 "ogdtm" (gR g 4) U ∧ vk_R RX5 96 "nesw" (gR g 5) U) ∧
  ∀ w ∈ nestW, va_Nw w U
theorem nest_warm {s U : State} (hW : s.WarmedH U.vm) (h : ∀ w ∈ nestW, va_Nw w s) : ∀ w ∈ nestW, va_Nw w U := by
  intro w hw
  have h0 := h w hw
  simp only [nestW, List.mem_cons, List.not_mem_nil, or_false] at hw
  rcases hw with rfl | rfl | rfl | rfl | rfl | rfl | rfl | rfl | rfl | rfl | rfl
  all_goals first | exact va_Nw.warmM hW h0 | exact va_Nw.warmF hW h0
theorem RoOK.move {g : GT} {s U : State} {H : Heap} (h : RoOK g s H) (hW : s.WarmedH U.vm) : RoOK g U H := by
  obtain ⟨⟨a1, a2⟩, ⟨b1, b2⟩, ⟨c1, c2⟩, d, e, ⟨f1, f2, f3⟩, n⟩ := h
  have ha := hW.alike
  exact ⟨⟨va_Z.moved ha a1, va_T.moved ha a2⟩, ⟨va_Z.moved ha b1, va_T.moved ha b2⟩, ⟨va_Z.moved ha c1, va_T.moved ha c2⟩, va_Z.moved ha d, vk_S.moved ha e, ⟨vk_R.warm hW f1, vk_R.warm hW f2, vk_R.warm hW f3⟩, nest_warm hW n⟩
theorem RoOK.same {g : GT} {s U : State} {H : Heap} (h : RoOK g s H) (hv : U.vm = s.vm) : RoOK g U H := by
  obtain ⟨⟨a1, a2⟩, ⟨b1, b2⟩, ⟨c1, c2⟩, d, e, ⟨f1, f2, f3⟩, n⟩ := h
  have ha : s.vm.Alike U.vm := by rw [hv]; exact Vm.Alike.refl s.vm
  exact ⟨⟨va_Z.moved ha a1, va_T.moved ha a2⟩, ⟨va_Z.moved ha b1, va_T.moved ha b2⟩, ⟨va_Z.moved ha c1, va_T.moved ha c2⟩, va_Z.moved ha d, vk_S.moved ha e, ⟨vk_R.same hv f1, vk_R.same hv f2, vk_R.same hv f3⟩, fun w hw => va_Nw.same (List.all_eq_true.mp nestW_on w hw) hv.symm (n w hw)⟩
theorem RoOK.kept {g : GT} {U : State} {H H1 : Heap} (h : RoOK g U H) (hq : ∀ a : Nat, a < H.size → ¬ gF g a → H1[a]? = H[a]?) : RoOK g U H1 := by
  obtain ⟨⟨a1, a2⟩, ⟨b1, b2⟩, ⟨c1, c2⟩, d, e, f, n⟩ := h
  exact ⟨⟨a1.kept hq, a2.kept hq⟩, ⟨b1.kept hq, b2.kept hq⟩, ⟨c1.kept hq, c2.kept hq⟩, d.kept hq, e.kept hq, f, n⟩
-- the judgement's fixed part: run, room, end, what else holds at the method's start, the method
abbrev KT : Type := GT × Room × (List Frame → Array Value → State → State → Prop) × (Array Value → State → Prop) × MT
abbrev kC (k : KT) : ByteArray := k.2.2.2.2.2.1
abbrev kN (k : KT) : Nat := k.2.2.2.2.2.2.1
abbrev kO (k : KT) : String := k.2.2.2.2.2.2.2.2
def Cx (k : KT) (p : Program) (s : State) (m : MethodId) (args : Array Value) (meth : Method) (c : Code) : Prop :=
  p.tables.exec = Jvm.exec ∧ c.code = kC k ∧ meth.sig.returnType = k.2.2.2.2.2.2.2.1 ∧ c.maxLocals = kN k ∧ s.vm.findClass (kO k) = some m.cls ∧ meth.locks = false ∧
  (∀ w ∈ gtbl, w.before args s = true) ∧ va_K (gD k.1) clsL (tysL k.1) s ∧ RoOK k.1 s s.heap ∧ k.2.2.2.1 args s ∧ meth.name = k.2.2.2.2.1.name ∧ gB k.1 ≤ s.heap.size
/-- from this point of the method, with these locals and this stack, over these cells, the machine comes to the end that is wanted -/
def AW (k : KT) (cells slots pc : Nat) (L : List (Nat × Value)) (S : List Value) (es : va_W) : Prop :=
  ∀ (p : Program) (e : Env) (s : State) (m : MethodId) (args : Array Value) (below : List Frame) (meth : Method) (c : Code), Cx k p s m args meth c →
  ∀ (ls : Array Slot) (H : Heap) (locs : List Loc), lv_has ls (kN k) L → va_P (gD k.1) clsL es H → va_D (gF k.1) es → va_S (gF k.1) s.heap H locs →
  W p k.1.1 e k.2.1 s m args below meth c H locs cells slots (k.2.2.1 below args s) (F0 m pc ls S)
def rmD (d mc ms : Nat) : Room := { frames := d, cells := mc, slots := ms, locals := 60 * d }
def QcD (g : GT) (Post : Option Value → va_W → Prop) : Array Value → State → Outcome → State → Prop := fun _ st o t =>
  ∃ (v : Option Value) (es' : va_W), o = .returned v ∧ Post v es' ∧ va_P (gD g) clsL es' t.heap ∧ va_D (gF g) es' ∧ va_F (gF g) st t
def PreH (g : GT) (es : va_W) (U : State) : Prop := va_P (gD g) clsL es U.heap ∧ va_D (gF g) es ∧ va_K (gD g) clsL (tysL g) U ∧ RoOK g U U.heap ∧ gB g ≤ U.heap.size
/-- a method's contract over the cells es -/
def Sem (g : GT) (d : Nat) (M : MT) (mc ms : Nat) (args : List Value) (es : va_W) (Post : Option Value → va_W → Prop) : Prop :=
  Met g.1 M.1 (Cond.code M.1 M.2.1 M.2.2.1 M.2.2.2.1 :: gtbl) (rmD d mc ms) (fun v U => v = args.toArray ∧ PreH g es U) (QcD g Post) mc ms (gF g)
abbrev kM (g : GT) (d : Nat) (M : MT) (mc ms : Nat) (Post : Option Value → va_W → Prop) : KT :=
  (g, rmD d mc ms, (fun below args s => MQ below (QcD g Post) args s mc ms (gF g)), (fun _ _ => True), M)
theorem sem_intro {g : GT} {d : Nat} {M : MT} {mc ms : Nat} {args : List Value} {es : va_W} {Post : Option Value → va_W → Prop} (hpl : plainName M.1.cls = true) (hc : M.1.cls = M.2.2.2.2) (hlen : (lg_sl args).length ≤ M.2.2.1)
    (h : AW (kM g d M mc ms Post) 0 0 0 (lv_args 0 args) [] es) : Sem g d M mc ms args es Post := by
  refine Met.ofW (cc := M.2.1) (maxL := M.2.2.1) (ret := M.2.2.2.1) hpl rfl ?_
  intro p e s m args' below meth c s₁ B hml hv
  obtain ⟨rfl, hP, hD, hK, hRo, hB⟩ := hv
  have hts := atoms_spec (ws := Cond.code M.1 M.2.1 M.2.2.1 M.2.2.2.1 :: gtbl) B.pre
  have hown : s.vm.findClass M.1.cls = some m.cls := findClass_of_methodNamed B.named
  rw [hc] at hown
  have hl := lv_entry args (n := M.2.2.1) hlen
  rw [lg_entry_eq]
  exact h p e s m _ below meth c ⟨B.exec, B.bytes, B.returns, hml, hown, B.notSynchronized, fun w hw => hts w (List.mem_cons_of_mem _ hw), hK, hRo, trivial, (name_of_methodNamed B.named B.method).1, hB⟩ _ s.heap [] hl hP hD va_S.rf
theorem PreH.of {g : GT} {es : va_W} {s U : State} {H : Heap} {locs : List Loc} (hP : va_P (gD g) clsL es H) (hD : va_D (gF g) es) (hB : gB g ≤ s.heap.size) (hK : va_K (gD g) clsL (tysL g) s) (hR : RoOK g s s.heap) (hS : va_S (gF g) s.heap H locs) (hU : U.heap = H) (hW : s.WarmedH U.vm) : PreH g es U := by
  refine ⟨by rw [hU]; exact hP, hD, va_K.moved hW.alike hK, ?_, by rw [hU]; exact Nat.le_trans hB hS.1⟩
  rw [hU]
  exact (hR.kept hS.2.1).move hW
theorem PreH.blind {g : GT} {es : va_W} {args : List Value} : FrameBlind (fun v U => v = args.toArray ∧ PreH g es U) := by
  intro a U gg mk h
  obtain ⟨h0, h1, h2, h3, h4, h5⟩ := h
  exact ⟨h0, h1, h2, va_K.moved (u := U) (U := U.calling gg mk a) (Vm.Alike.refl U.vm) h3, h4.same (U := U.calling gg mk a) rfl, h5⟩
/-- behind a call -/
theorem AW.call {k : KT} {c0 s0 pc mc ms : Nat} {L : List (Nat × Value)} {S rest : List Value} {es : va_W} {Post : Option Value → va_W → Prop} {av : Array Value}
    (hr : ∀ (p : Program) (e : Env) (s : State) (m : MethodId) (args : Array Value) (below : List Frame) (meth : Method) (c : Code), Cx k p s m args meth c →
      ∀ (ls : Array Slot) (H : Heap) (locs : List Loc), lv_has ls (kN k) L → va_P (gD k.1) clsL es H → va_D (gF k.1) es → va_S (gF k.1) s.heap H locs →
      va_Run p k.1.1 e k.2.1 s m args below meth c H locs c0 s0 mc ms (F0 m pc ls S) rest (QcD k.1 Post av) (gF k.1))
    (h : ∀ v es', Post v es' → AW k (c0 + mc) (s0 + ms) (pc + 3) L (v.toList ++ rest) es') : AW k c0 s0 pc L S es := by
  intro p e s m args below meth c C ls H locs hl hP hD hS
  intro T hT X
  obtain ⟨v, st₀, t, T', LL, h0, X', hL, e1, e2, ⟨v', es', hv, hp, hP', hD', hF⟩, st⟩ := hr p e s m args below meth c C ls H locs hl hP hD hS T hT X
  cases hv
  have hF1 : H.size ≤ t.heap.size := by rw [← h0]; exact hF.1
  have hF2 : ∀ q : Nat, q < H.size → ¬ gF k.1 q → t.heap[q]? = H[q]? := by rw [← h0]; exact hF.2
  obtain ⟨t2, a1, b1⟩ := h v es' hp p e s m args below meth c C ls T'.heap (locs ++ LL) hl (by rw [e1]; exact hP') hD'
    ⟨Nat.le_trans hS.1 (by rw [e1]; exact hF1), fun q h1 h2 => by rw [e1, hF2 q (Nat.lt_of_lt_of_le h1 hS.1) h2]; exact hS.2.1 q h1 h2, fun q hq => by
      rcases List.mem_append.mp hq with h | h
      · exact hS.2.2 q h
      · exact hL q h⟩ T' rfl X'
  exact ⟨t2, st t2 a1, b1⟩
-- the words of a call
def CF (own : String) (idx : Nat) (M : MT) (n : Nat) : Prop :=
  Cond.methodLink own idx M.1 ∈ gtbl ∧ Cond.code M.1 M.2.1 M.2.2.1 M.2.2.2.1 ∈ gtbl ∧ Cond.initialized M.1.cls ∈ gtbl ∧ (M.1.cls ≠ "java/lang/invoke/MethodHandle" ∧ M.1.cls ≠ "java/lang/invoke/VarHandle") ∧ (parseMethodDescriptor M.1.desc).map (fun d => d.parameters.length) = some n
def CFV (own : String) (idx : Nat) (M : MT) (n : Nat) : Prop := CF own idx M n ∧ Cond.instanceMethod M.1 ∈ gtbl ∧ Cond.selects M.1.cls M.1 M.1 ∈ gtbl
def CFS (own : String) (idx : Nat) (M : MT) (n : Nat) : Prop := CF own idx M n ∧ Cond.static M.1 ∈ gtbl
def CFI (own : String) (idx : Nat) (M : MT) (n : Nat) : Prop := CF own idx M n ∧ M.1.name = "<init>" ∧ Cond.instanceMethod M.1 ∈ gtbl ∧ M.2.2.2.1 = none
-- a nest mate's
def CFN (own : String) (idx : Nat) (M : MT) (n : Nat) : Prop :=
  Cond.methodLinkNest own idx M.1 RX7 ∈ nestW ∧ Cond.code M.1 M.2.1 M.2.2.1 M.2.2.2.1 ∈ gtbl ∧ Cond.initialized M.1.cls ∈ gtbl ∧ (M.1.cls ≠ "java/lang/invoke/MethodHandle" ∧ M.1.cls ≠ "java/lang/invoke/VarHandle") ∧ (parseMethodDescriptor M.1.desc).map (fun d => d.parameters.length) = some n
def CFSN (own : String) (idx : Nat) (M : MT) (n : Nat) : Prop := CFN own idx M n ∧ Cond.static M.1 ∈ gtbl
def CFIN (own : String) (idx : Nat) (M : MT) (n : Nat) : Prop := CFN own idx M n ∧ M.1.name = "<init>" ∧ Cond.instanceMethod M.1 ∈ gtbl ∧ M.2.2.2.1 = none
theorem ws_of {s : State} {args : Array Value} (M : MT) (hts : ∀ w ∈ gtbl, w.before args s = true) (hc : Cond.code M.1 M.2.1 M.2.2.1 M.2.2.2.1 ∈ gtbl) : ∀ w ∈ (Cond.code M.1 M.2.1 M.2.2.1 M.2.2.2.1 :: gtbl), ∀ (a' : Array Value) (U : State), s.WarmedH U.vm → w.before a' U = true := by
  intro w hw a' U hW
  have hw' : w ∈ gtbl := by
    rcases List.mem_cons.mp hw with h | h
    · rw [h]; exact hc
    · exact h
  exact word_at hW (good_of_word (gtbl_good w hw')) (hts w hw')
theorem len_of {y : MethodName} {n : Nat} (h2 : (parseMethodDescriptor y.desc).map (fun d => d.parameters.length) = some n) : ∀ sig, parseMethodDescriptor y.desc = some sig → n = sig.parameters.length := by
  intro sig h
  rw [h] at h2
  exact (Option.some.inj h2).symm
theorem CF.B {R : Room} {s : State} {args : Array Value} {own : String} {idx : Nat} {M : MT} {n d mc ms : Nat} (h : CF own idx M n) (hts : ∀ w ∈ gtbl, w.before args s = true) (hR : d + 1 ≤ R.frames ∧ 8 + (M.2.2.1 + 11) + 60 * d ≤ R.locals) :
    CallB R s args own idx M.1 M.2.1 M.2.2.1 M.2.2.2.1 (Cond.code M.1 M.2.1 M.2.2.1 M.2.2.2.1 :: gtbl) (rmD d mc ms) mc ms n :=
  ⟨rfl, rfl, hR.1, hR.2, ws_of M hts h.2.1, List.mem_cons_self, hts _ h.2.1, hts _ h.2.2.1, h.2.2.2.1, len_of h.2.2.2.2, hts _ h.1⟩
theorem CFN.B {R : Room} {s : State} {args : Array Value} {own : String} {idx : Nat} {M : MT} {n d mc ms : Nat} (h : CFN own idx M n) (hts : ∀ w ∈ gtbl, w.before args s = true) (hN : ∀ w ∈ nestW, va_Nw w s) (hR : d + 1 ≤ R.frames ∧ 8 + (M.2.2.1 + 11) + 60 * d ≤ R.locals) :
    va_CN R s args own idx M.1 RX7 M.2.1 M.2.2.1 M.2.2.2.1 (Cond.code M.1 M.2.1 M.2.2.1 M.2.2.2.1 :: gtbl) (rmD d mc ms) mc ms n :=
  ⟨⟨rfl, rfl, hR.1, hR.2, ws_of M hts h.2.1, List.mem_cons_self⟩, hts _ h.2.1, hts _ h.2.2.1, h.2.2.2.1, len_of h.2.2.2.2, va_Nw.use rfl (hN _ h.1)⟩
abbrev rOK (R : Room) (d mL : Nat) : Prop := d + 1 ≤ R.frames ∧ 8 + (mL + 11) + 60 * d ≤ R.locals
theorem AW.callV {k : KT} {c0 s0 pc mc ms idx n d ci o : Nat} {M : MT} {L : List (Nat × Value)} {S As rest : List Value} {es : va_W} {Post : Option Value → va_W → Prop} {fs : List Value} {T : u_T} {N : Nat}
    (hM : Sem k.1 d M mc ms (.ref (o) :: As) es Post) (hF : CFV (kO k) idx M n) (q0 : Nat) (he : es[q0]? = some (o, .inr (ci, fs))) (hc : clsL[ci]? = some (M.1.cls, T, N)) (hn : As.length = n) (hS : S = As.reverse ++ .ref (o) :: rest) (hw : (rest.map fun v => v.category).sum ≤ 8)
    (hR : rOK k.2.1 d M.2.2.1) (hf : c0 + mc ≤ k.2.1.cells ∧ s0 + ms ≤ k.2.1.slots) (hd : decode (kC k) pc = .ok (.invokevirtual idx, 3)) (h : ∀ v es', Post v es' → AW k (c0 + mc) (s0 + ms) (pc + 3) L (v.toList ++ rest) es') : AW k c0 s0 pc L S es := by
  refine AW.call (rest := rest) (av := (Value.ref (o) :: As).toArray) (fun p e s m args below meth c C ls H locs hl hP hD hSS => ?_) h
  obtain ⟨hx, hb, hr, hml, hown, hlk, hts, hK, hRo, -, -, hB0⟩ := C
  exact va_runV (As := As) (rest := rest) (b := o) (nL := kN k) (Ts := gtbl) ⟨hx, hb, hml, hown, hts⟩ hM ⟨hF.1.B hts hR, hts _ hF.2.1, hts _ hF.2.2⟩ ⟨PreH.blind, va_recv hK hP hc he, fun U hU hW => ⟨rfl, PreH.of hP hD hB0 hK hRo hSS hU hW⟩⟩ rfl hn hl.1 hS (by show 2 * 0 + _ ≤ 8; omega) hd hf
theorem AW.callS {k : KT} {c0 s0 pc mc ms idx n d : Nat} {M : MT} {L : List (Nat × Value)} {S As rest : List Value} {es : va_W} {Post : Option Value → va_W → Prop}
    (hM : Sem k.1 d M mc ms As es Post) (hF : CFS (kO k) idx M n) (hn : As.length = n) (hS : S = As.reverse ++ rest) (hw : (rest.map fun v => v.category).sum ≤ 8)
    (hR : rOK k.2.1 d M.2.2.1) (hf : c0 + mc ≤ k.2.1.cells ∧ s0 + ms ≤ k.2.1.slots) (hd : decode (kC k) pc = .ok (.invokestatic idx, 3)) (h : ∀ v es', Post v es' → AW k (c0 + mc) (s0 + ms) (pc + 3) L (v.toList ++ rest) es') : AW k c0 s0 pc L S es := by
  refine AW.call (rest := rest) (av := As.toArray) (fun p e s m args below meth c C ls H locs hl hP hD hSS => ?_) h
  obtain ⟨hx, hb, hr, hml, hown, hlk, hts, hK, hRo, -, -, hB0⟩ := C
  exact va_runS (As := As) (rest := rest) (nL := kN k) (Ts := gtbl) ⟨hx, hb, hml, hown, hts⟩ hM ⟨hF.1.B hts hR, hts _ hF.2⟩ ⟨PreH.blind, fun U hU hW => ⟨rfl, PreH.of hP hD hB0 hK hRo hSS hU hW⟩⟩ rfl hn hl.1 hS (by show 2 * 0 + _ ≤ 8; omega) hd hf
theorem AW.callSN {k : KT} {c0 s0 pc mc ms idx n d : Nat} {M : MT} {L : List (Nat × Value)} {S As rest : List Value} {es : va_W} {Post : Option Value → va_W → Prop}
    (hM : Sem k.1 d M mc ms As es Post) (hF : CFSN (kO k) idx M n) (hn : As.length = n) (hS : S = As.reverse ++ rest) (hw : (rest.map fun v => v.category).sum ≤ 8)
    (hR : rOK k.2.1 d M.2.2.1) (hf : c0 + mc ≤ k.2.1.cells ∧ s0 + ms ≤ k.2.1.slots) (hd : decode (kC k) pc = .ok (.invokestatic idx, 3)) (h : ∀ v es', Post v es' → AW k (c0 + mc) (s0 + ms) (pc + 3) L (v.toList ++ rest) es') : AW k c0 s0 pc L S es := by
  refine AW.call (rest := rest) (av := As.toArray) (fun p e s m args below meth c C ls H locs hl hP hD hSS => ?_) h
  obtain ⟨hx, hb, hr, hml, hown, hlk, hts, hK, hRo, -, -, hB0⟩ := C
  exact va_runSN (As := As) (rest := rest) (nL := kN k) (Ts := gtbl) (host := RX7) ⟨hx, hb, hml, hown, hts⟩ hM ⟨hF.1.B hts hRo.2.2.2.2.2.2 hR, hts _ hF.2, trivial⟩ ⟨PreH.blind, fun U hU hW => ⟨rfl, PreH.of hP hD hB0 hK hRo hSS hU hW⟩⟩ rfl hn hl.1 hS (by show 2 * 0 + _ ≤ 8; omega) hd hf
theorem AW.callI {k : KT} {c0 s0 pc mc ms idx n d o : Nat} {M : MT} {L : List (Nat × Value)} {S As rest : List Value} {es : va_W} {Post : Option Value → va_W → Prop}
    (hM : Sem k.1 d M mc ms (.ref (o) :: As) es Post) (hF : CFI (kO k) idx M n) (hn : As.length = n) (hS : S = As.reverse ++ .ref (o) :: rest) (hw : (rest.map fun v => v.category).sum ≤ 8)
    (hR : rOK k.2.1 d M.2.2.1) (hf : c0 + mc ≤ k.2.1.cells ∧ s0 + ms ≤ k.2.1.slots) (hd : decode (kC k) pc = .ok (.invokespecial idx, 3)) (h : ∀ v es', Post v es' → AW k (c0 + mc) (s0 + ms) (pc + 3) L (v.toList ++ rest) es') : AW k c0 s0 pc L S es := by
  refine AW.call (rest := rest) (av := (Value.ref (o) :: As).toArray) (fun p e s m args below meth c C ls H locs hl hP hD hSS => ?_) h
  obtain ⟨hx, hb, hr, hml, hown, hlk, hts, hK, hRo, -, -, hB0⟩ := C
  have hB := hF.1.B (R := k.2.1) (d := d) (mc := mc) (ms := ms) hts hR
  rw [hF.2.2.2] at hB
  have hM' := hM
  unfold Sem at hM'
  rw [hF.2.2.2] at hM'
  exact va_runI (As := As) (rest := rest) (b := o) (nL := kN k) (Ts := gtbl) ⟨hx, hb, hml, hown, hts⟩ hM' ⟨hB, hF.2.1, hts _ hF.2.2.1⟩ ⟨PreH.blind, fun U hU hW => ⟨rfl, PreH.of hP hD hB0 hK hRo hSS hU hW⟩⟩ rfl hn hl.1 hS (by show 2 * 0 + _ ≤ 8; omega) hd hf
theorem AW.callIN {k : KT} {c0 s0 pc mc ms idx n d o : Nat} {M : MT} {L : List (Nat × Value)} {S As rest : List Value} {es : va_W} {Post : Option Value → va_W → Prop}
    (hM : Sem k.1 d M mc ms (.ref (o) :: As) es Post) (hF : CFIN (kO k) idx M n) (hn : As.length = n) (hS : S = As.reverse ++ .ref (o) :: rest) (hw : (rest.map fun v => v.category).sum ≤ 8)
    (hR : rOK k.2.1 d M.2.2.1) (hf : c0 + mc ≤ k.2.1.cells ∧ s0 + ms ≤ k.2.1.slots) (hd : decode (kC k) pc = .ok (.invokespecial idx, 3)) (h : ∀ v es', Post v es' → AW k (c0 + mc) (s0 + ms) (pc + 3) L (v.toList ++ rest) es') : AW k c0 s0 pc L S es := by
  refine AW.call (rest := rest) (av := (Value.ref (o) :: As).toArray) (fun p e s m args below meth c C ls H locs hl hP hD hSS => ?_) h
  obtain ⟨hx, hb, hr, hml, hown, hlk, hts, hK, hRo, -, -, hB0⟩ := C
  have hB := hF.1.B (R := k.2.1) (d := d) (mc := mc) (ms := ms) hts hRo.2.2.2.2.2.2 hR
  rw [hF.2.2.2] at hB
  have hM' := hM
  unfold Sem at hM'
  rw [hF.2.2.2] at hM'
  exact va_runIN (As := As) (rest := rest) (b := o) (nL := kN k) (Ts := gtbl) (host := RX7) ⟨hx, hb, hml, hown, hts⟩ hM' ⟨hB, hF.2.1, hts _ hF.2.2.1⟩ ⟨PreH.blind, fun U hU hW => ⟨rfl, PreH.of hP hD hB0 hK hRo hSS hU hW⟩⟩ rfl hn hl.1 hS (by show 2 * 0 + _ ≤ 8; omega) hd hf
theorem AW.eq {k : KT} {c0 s0 pc : Nat} {L : List (Nat × Value)} {S : List Value} {es es' : va_W} (e : es = es') (h : AW k c0 s0 pc L S es') : AW k c0 s0 pc L S es := e ▸ h
end
section
theorem a_iconst {k : KT} {c0 s0 pc : Nat} {L : List (Nat × Value)} {S : List Value} {es : va_W} {n : Int} {v : Int32} (hd : decode (kC k) pc = .ok (.iconst n, 1)) (hv : Int32.ofInt n = v) (h : AW k c0 s0 (pc + 1) L (.int v :: S) es) : AW k c0 s0 pc L (S) es := by
  intro p e s m args below meth c C ls H locs hl hP hD hS
  exact lv_iconst C.1 C.2.1 hd hv (h p e s m args below meth c C ls H locs hl hP hD hS)
theorem a_bipush {k : KT} {c0 s0 pc : Nat} {L : List (Nat × Value)} {S : List Value} {es : va_W} {n : Int} {v : Int32} (hd : decode (kC k) pc = .ok (.bipush n, 2)) (hv : (Int8.ofInt n).toInt32 = v) (h : AW k c0 s0 (pc + 2) L (.int v :: S) es) : AW k c0 s0 pc L (S) es := by
  intro p e s m args below meth c C ls H locs hl hP hD hS
  exact lv_bipush C.1 C.2.1 hd hv (h p e s m args below meth c C ls H locs hl hP hD hS)
theorem a_sipush {k : KT} {c0 s0 pc : Nat} {L : List (Nat × Value)} {S : List Value} {es : va_W} {n : Int} {v : Int32} (hd : decode (kC k) pc = .ok (.sipush n, 3)) (hv : (Int16.ofInt n).toInt32 = v) (h : AW k c0 s0 (pc + 3) L (.int v :: S) es) : AW k c0 s0 pc L (S) es := by
  intro p e s m args below meth c C ls H locs hl hP hD hS
  exact lv_sipush C.1 C.2.1 hd hv (h p e s m args below meth c C ls H locs hl hP hD hS)
theorem a_lconst {k : KT} {c0 s0 pc : Nat} {L : List (Nat × Value)} {S : List Value} {es : va_W} {n : Fin 2} {v : Int64} (hd : decode (kC k) pc = .ok (.lconst n, 1)) (hv : Int64.ofNat (n : Nat) = v) (h : AW k c0 s0 (pc + 1) L (.long v :: S) es) : AW k c0 s0 pc L (S) es := by
  intro p e s m args below meth c C ls H locs hl hP hD hS
  exact lv_lconst C.1 C.2.1 hd hv (h p e s m args below meth c C ls H locs hl hP hD hS)
theorem a_iadd {k : KT} {c0 s0 pc : Nat} {L : List (Nat × Value)} {S : List Value} {es : va_W} {x y : Int32} (hd : decode (kC k) pc = .ok (.iadd, 1))  (h : AW k c0 s0 (pc + 1) L (.int (x + y) :: S) es) : AW k c0 s0 pc L (.int y :: .int x :: S) es := by
  intro p e s m args below meth c C ls H locs hl hP hD hS
  exact lv_iadd C.1 C.2.1 hd  (h p e s m args below meth c C ls H locs hl hP hD hS)
theorem a_isub {k : KT} {c0 s0 pc : Nat} {L : List (Nat × Value)} {S : List Value} {es : va_W} {x y : Int32} (hd : decode (kC k) pc = .ok (.isub, 1))  (h : AW k c0 s0 (pc + 1) L (.int (x - y) :: S) es) : AW k c0 s0 pc L (.int y :: .int x :: S) es := by
  intro p e s m args below meth c C ls H locs hl hP hD hS
  exact lv_isub C.1 C.2.1 hd  (h p e s m args below meth c C ls H locs hl hP hD hS)
theorem a_imul {k : KT} {c0 s0 pc : Nat} {L : List (Nat × Value)} {S : List Value} {es : va_W} {x y : Int32} (hd : decode (kC k) pc = .ok (.imul, 1))  (h : AW k c0 s0 (pc + 1) L (.int (x * y) :: S) es) : AW k c0 s0 pc L (.int y :: .int x :: S) es := by
  intro p e s m args below meth c C ls H locs hl hP hD hS
  exact lv_imul C.1 C.2.1 hd  (h p e s m args below meth c C ls H locs hl hP hD hS)
theorem a_iand {k : KT} {c0 s0 pc : Nat} {L : List (Nat × Value)} {S : List Value} {es : va_W} {x y : Int32} (hd : decode (kC k) pc = .ok (.iand, 1))  (h : AW k c0 s0 (pc + 1) L (.int (x &&& y) :: S) es) : AW k c0 s0 pc L (.int y :: .int x :: S) es := by
  intro p e s m args below meth c C ls H locs hl hP hD hS
  exact lv_iand C.1 C.2.1 hd  (h p e s m args below meth c C ls H locs hl hP hD hS)
theorem a_ior {k : KT} {c0 s0 pc : Nat} {L : List (Nat × Value)} {S : List Value} {es : va_W} {x y : Int32} (hd : decode (kC k) pc = .ok (.ior, 1))  (h : AW k c0 s0 (pc + 1) L (.int (x ||| y) :: S) es) : AW k c0 s0 pc L (.int y :: .int x :: S) es := by
  intro p e s m args below meth c C ls H locs hl hP hD hS
  exact lv_ior C.1 C.2.1 hd  (h p e s m args below meth c C ls H locs hl hP hD hS)
theorem a_ixor {k : KT} {c0 s0 pc : Nat} {L : List (Nat × Value)} {S : List Value} {es : va_W} {x y : Int32} (hd : decode (kC k) pc = .ok (.ixor, 1))  (h : AW k c0 s0 (pc + 1) L (.int (x ^^^ y) :: S) es) : AW k c0 s0 pc L (.int y :: .int x :: S) es := by
  intro p e s m args below meth c C ls H locs hl hP hD hS
  exact lv_ixor C.1 C.2.1 hd  (h p e s m args below meth c C ls H locs hl hP hD hS)
theorem a_ladd {k : KT} {c0 s0 pc : Nat} {L : List (Nat × Value)} {S : List Value} {es : va_W} {x y : Int64} (hd : decode (kC k) pc = .ok (.ladd, 1))  (h : AW k c0 s0 (pc + 1) L (.long (x + y) :: S) es) : AW k c0 s0 pc L (.long y :: .long x :: S) es := by
  intro p e s m args below meth c C ls H locs hl hP hD hS
  exact lv_ladd C.1 C.2.1 hd  (h p e s m args below meth c C ls H locs hl hP hD hS)
theorem a_lsub {k : KT} {c0 s0 pc : Nat} {L : List (Nat × Value)} {S : List Value} {es : va_W} {x y : Int64} (hd : decode (kC k) pc = .ok (.lsub, 1))  (h : AW k c0 s0 (pc + 1) L (.long (x - y) :: S) es) : AW k c0 s0 pc L (.long y :: .long x :: S) es := by
  intro p e s m args below meth c C ls H locs hl hP hD hS
  exact lv_lsub C.1 C.2.1 hd  (h p e s m args below meth c C ls H locs hl hP hD hS)
theorem a_lmul {k : KT} {c0 s0 pc : Nat} {L : List (Nat × Value)} {S : List Value} {es : va_W} {x y : Int64} (hd : decode (kC k) pc = .ok (.lmul, 1))  (h : AW k c0 s0 (pc + 1) L (.long (x * y) :: S) es) : AW k c0 s0 pc L (.long y :: .long x :: S) es := by
  intro p e s m args below meth c C ls H locs hl hP hD hS
  exact lv_lmul C.1 C.2.1 hd  (h p e s m args below meth c C ls H locs hl hP hD hS)
theorem a_land {k : KT} {c0 s0 pc : Nat} {L : List (Nat × Value)} {S : List Value} {es : va_W} {x y : Int64} (hd : decode (kC k) pc = .ok (.land, 1))  (h : AW k c0 s0 (pc + 1) L (.long (x &&& y) :: S) es) : AW k c0 s0 pc L (.long y :: .long x :: S) es := by
  intro p e s m args below meth c C ls H locs hl hP hD hS
  exact lv_land C.1 C.2.1 hd  (h p e s m args below meth c C ls H locs hl hP hD hS)
theorem a_lor {k : KT} {c0 s0 pc : Nat} {L : List (Nat × Value)} {S : List Value} {es : va_W} {x y : Int64} (hd : decode (kC k) pc = .ok (.lor, 1))  (h : AW k c0 s0 (pc + 1) L (.long (x ||| y) :: S) es) : AW k c0 s0 pc L (.long y :: .long x :: S) es := by
  intro p e s m args below meth c C ls H locs hl hP hD hS
  exact lv_lor C.1 C.2.1 hd  (h p e s m args below meth c C ls H locs hl hP hD hS)
theorem a_idiv {k : KT} {c0 s0 pc : Nat} {L : List (Nat × Value)} {S : List Value} {es : va_W} {x y : Int32} (hd : decode (kC k) pc = .ok (.idiv, 1)) (hne : ¬ y = 0) (h : AW k c0 s0 (pc + 1) L (.int (x / y) :: S) es) : AW k c0 s0 pc L (.int y :: .int x :: S) es := by
  intro p e s m args below meth c C ls H locs hl hP hD hS
  exact lv_idiv C.1 C.2.1 hd hne (h p e s m args below meth c C ls H locs hl hP hD hS)
theorem a_irem {k : KT} {c0 s0 pc : Nat} {L : List (Nat × Value)} {S : List Value} {es : va_W} {x y : Int32} (hd : decode (kC k) pc = .ok (.irem, 1)) (hne : ¬ y = 0) (h : AW k c0 s0 (pc + 1) L (.int (x - x / y * y) :: S) es) : AW k c0 s0 pc L (.int y :: .int x :: S) es := by
  intro p e s m args below meth c C ls H locs hl hP hD hS
  exact lv_irem C.1 C.2.1 hd hne (h p e s m args below meth c C ls H locs hl hP hD hS)
theorem a_ldiv {k : KT} {c0 s0 pc : Nat} {L : List (Nat × Value)} {S : List Value} {es : va_W} {x y : Int64} (hd : decode (kC k) pc = .ok (.ldiv, 1)) (hne : ¬ y = 0) (h : AW k c0 s0 (pc + 1) L (.long (x / y) :: S) es) : AW k c0 s0 pc L (.long y :: .long x :: S) es := by
  intro p e s m args below meth c C ls H locs hl hP hD hS
  exact lv_ldiv C.1 C.2.1 hd hne (h p e s m args below meth c C ls H locs hl hP hD hS)
theorem a_lrem {k : KT} {c0 s0 pc : Nat} {L : List (Nat × Value)} {S : List Value} {es : va_W} {x y : Int64} (hd : decode (kC k) pc = .ok (.lrem, 1)) (hne : ¬ y = 0) (h : AW k c0 s0 (pc + 1) L (.long (x - x / y * y) :: S) es) : AW k c0 s0 pc L (.long y :: .long x :: S) es := by
  intro p e s m args below meth c C ls H locs hl hP hD hS
  exact lv_lrem C.1 C.2.1 hd hne (h p e s m args below meth c C ls H locs hl hP hD hS)
theorem a_ineg {k : KT} {c0 s0 pc : Nat} {L : List (Nat × Value)} {S : List Value} {es : va_W} {x : Int32} (hd : decode (kC k) pc = .ok (.ineg, 1))  (h : AW k c0 s0 (pc + 1) L (.int (-x) :: S) es) : AW k c0 s0 pc L (.int x :: S) es := by
  intro p e s m args below meth c C ls H locs hl hP hD hS
  exact lv_ineg C.1 C.2.1 hd  (h p e s m args below meth c C ls H locs hl hP hD hS)
theorem a_ishl {k : KT} {c0 s0 pc : Nat} {L : List (Nat × Value)} {S : List Value} {es : va_W} {x y : Int32} (hd : decode (kC k) pc = .ok (.ishl, 1))  (h : AW k c0 s0 (pc + 1) L (.int (x <<< (y &&& 31)) :: S) es) : AW k c0 s0 pc L (.int y :: .int x :: S) es := by
  intro p e s m args below meth c C ls H locs hl hP hD hS
  exact lv_ishl C.1 C.2.1 hd  (h p e s m args below meth c C ls H locs hl hP hD hS)
theorem a_ishr {k : KT} {c0 s0 pc : Nat} {L : List (Nat × Value)} {S : List Value} {es : va_W} {x y : Int32} (hd : decode (kC k) pc = .ok (.ishr, 1))  (h : AW k c0 s0 (pc + 1) L (.int (x >>> (y &&& 31)) :: S) es) : AW k c0 s0 pc L (.int y :: .int x :: S) es := by
  intro p e s m args below meth c C ls H locs hl hP hD hS
  exact lv_ishr C.1 C.2.1 hd  (h p e s m args below meth c C ls H locs hl hP hD hS)
theorem a_iushr {k : KT} {c0 s0 pc : Nat} {L : List (Nat × Value)} {S : List Value} {es : va_W} {x y : Int32} (hd : decode (kC k) pc = .ok (.iushr, 1))  (h : AW k c0 s0 (pc + 1) L (.int ((x.toUInt32 >>> (y.toUInt32 &&& Int32.toUInt32 31)).toInt32) :: S) es) : AW k c0 s0 pc L (.int y :: .int x :: S) es := by
  intro p e s m args below meth c C ls H locs hl hP hD hS
  exact lv_iushr C.1 C.2.1 hd rfl (h p e s m args below meth c C ls H locs hl hP hD hS)
theorem a_lshl {k : KT} {c0 s0 pc : Nat} {L : List (Nat × Value)} {S : List Value} {es : va_W} {x : Int64} {y : Int32} (hd : decode (kC k) pc = .ok (.lshl, 1))  (h : AW k c0 s0 (pc + 1) L (.long (x <<< (y.toInt64 &&& 63)) :: S) es) : AW k c0 s0 pc L (.int y :: .long x :: S) es := by
  intro p e s m args below meth c C ls H locs hl hP hD hS
  exact lv_lshl C.1 C.2.1 hd rfl (h p e s m args below meth c C ls H locs hl hP hD hS)
theorem a_i2l {k : KT} {c0 s0 pc : Nat} {L : List (Nat × Value)} {S : List Value} {es : va_W} {x : Int32} (hd : decode (kC k) pc = .ok (.i2l, 1))  (h : AW k c0 s0 (pc + 1) L (.long (x.toInt64) :: S) es) : AW k c0 s0 pc L (.int x :: S) es := by
  intro p e s m args below meth c C ls H locs hl hP hD hS
  exact lv_i2l C.1 C.2.1 hd rfl (h p e s m args below meth c C ls H locs hl hP hD hS)
theorem a_l2i {k : KT} {c0 s0 pc : Nat} {L : List (Nat × Value)} {S : List Value} {es : va_W} {x : Int64} (hd : decode (kC k) pc = .ok (.l2i, 1))  (h : AW k c0 s0 (pc + 1) L (.int (x.toInt32) :: S) es) : AW k c0 s0 pc L (.long x :: S) es := by
  intro p e s m args below meth c C ls H locs hl hP hD hS
  exact lv_l2i C.1 C.2.1 hd rfl (h p e s m args below meth c C ls H locs hl hP hD hS)
theorem a_i2b {k : KT} {c0 s0 pc : Nat} {L : List (Nat × Value)} {S : List Value} {es : va_W} {x : Int32} (hd : decode (kC k) pc = .ok (.i2b, 1))  (h : AW k c0 s0 (pc + 1) L (.int (x.toInt8.toInt32) :: S) es) : AW k c0 s0 pc L (.int x :: S) es := by
  intro p e s m args below meth c C ls H locs hl hP hD hS
  exact lv_i2b C.1 C.2.1 hd rfl (h p e s m args below meth c C ls H locs hl hP hD hS)
theorem a_i2s {k : KT} {c0 s0 pc : Nat} {L : List (Nat × Value)} {S : List Value} {es : va_W} {x : Int32} (hd : decode (kC k) pc = .ok (.i2s, 1))  (h : AW k c0 s0 (pc + 1) L (.int (x.toInt16.toInt32) :: S) es) : AW k c0 s0 pc L (.int x :: S) es := by
  intro p e s m args below meth c C ls H locs hl hP hD hS
  exact lv_i2s C.1 C.2.1 hd rfl (h p e s m args below meth c C ls H locs hl hP hD hS)
theorem a_i2c {k : KT} {c0 s0 pc : Nat} {L : List (Nat × Value)} {S : List Value} {es : va_W} {x : Int32} (hd : decode (kC k) pc = .ok (.i2c, 1))  (h : AW k c0 s0 (pc + 1) L (.int ((x.toUInt32 % 65536).toInt32) :: S) es) : AW k c0 s0 pc L (.int x :: S) es := by
  intro p e s m args below meth c C ls H locs hl hP hD hS
  exact lv_i2c C.1 C.2.1 hd rfl (h p e s m args below meth c C ls H locs hl hP hD hS)
theorem a_dup {k : KT} {c0 s0 pc : Nat} {L : List (Nat × Value)} {S : List Value} {es : va_W} {v : Value} (hd : decode (kC k) pc = .ok (.dup, 1)) (hv : v.category = 1) (h : AW k c0 s0 (pc + 1) L (v :: v :: S) es) : AW k c0 s0 pc L (v :: S) es := by
  intro p e s m args below meth c C ls H locs hl hP hD hS
  exact lv_dup C.1 C.2.1 hd hv (h p e s m args below meth c C ls H locs hl hP hD hS)
theorem a_pop {k : KT} {c0 s0 pc : Nat} {L : List (Nat × Value)} {S : List Value} {es : va_W} {v : Value} (hd : decode (kC k) pc = .ok (.pop, 1)) (hv : v.category = 1) (h : AW k c0 s0 (pc + 1) L (S) es) : AW k c0 s0 pc L (v :: S) es := by
  intro p e s m args below meth c C ls H locs hl hP hD hS
  exact lv_pop C.1 C.2.1 hd hv (h p e s m args below meth c C ls H locs hl hP hD hS)
theorem a_pop2 {k : KT} {c0 s0 pc : Nat} {L : List (Nat × Value)} {S : List Value} {es : va_W} {v : Value} (hd : decode (kC k) pc = .ok (.pop2, 1)) (hv : v.category = 2) (h : AW k c0 s0 (pc + 1) L (S) es) : AW k c0 s0 pc L (v :: S) es := by
  intro p e s m args below meth c C ls H locs hl hP hD hS
  exact lv_pop2_2 C.1 C.2.1 hd hv (h p e s m args below meth c C ls H locs hl hP hD hS)
theorem a_dup2 {k : KT} {c0 s0 pc : Nat} {L : List (Nat × Value)} {S : List Value} {es : va_W} {v u : Value} (hd : decode (kC k) pc = .ok (.dup2, 1)) (hv : v.category = 1) (hu : u.category = 1) (h : AW k c0 s0 (pc + 1) L (v :: u :: v :: u :: S) es) : AW k c0 s0 pc L (v :: u :: S) es := by
  intro p e s m args below meth c C ls H locs hl hP hD hS
  exact lv_dup2_11 C.1 C.2.1 hd hv hu (h p e s m args below meth c C ls H locs hl hP hD hS)
theorem a_lcmp {k : KT} {c0 s0 pc : Nat} {L : List (Nat × Value)} {S : List Value} {es : va_W} {x y : Int64} (hd : decode (kC k) pc = .ok (.lcmp, 1))  (h : AW k c0 s0 (pc + 1) L (.int (lg_cmp x y) :: S) es) : AW k c0 s0 pc L (.long y :: .long x :: S) es := by
  intro p e s m args below meth c C ls H locs hl hP hD hS
  exact W.lcmp C.1 C.2.1 hd  (h p e s m args below meth c C ls H locs hl hP hD hS)
theorem a_iload_n {k : KT} {c0 s0 pc : Nat} {L : List (Nat × Value)} {S : List Value} {es : va_W} {q : Fin 4} {i : Nat} (n : Nat) {x : Int32} (hd : decode (kC k) pc = .ok (.iload_n q, 1)) (hi : (q : Nat) = i) (hv : L[n]? = some (i, .int x)) (h : AW k c0 s0 (pc + 1) L (.int x :: S) es) : AW k c0 s0 pc L S es := by
  intro p e s m args below meth c C ls H locs hl hP hD hS
  exact lv_iload_n C.1 C.2.1 hd hi (lv_at hl n hv) (h p e s m args below meth c C ls H locs hl hP hD hS)
theorem a_iload {k : KT} {c0 s0 pc : Nat} {L : List (Nat × Value)} {S : List Value} {es : va_W} {i : Nat} (n : Nat) {x : Int32} (hd : decode (kC k) pc = .ok (.iload i, 2)) (hv : L[n]? = some (i, .int x)) (h : AW k c0 s0 (pc + 2) L (.int x :: S) es) : AW k c0 s0 pc L S es := by
  intro p e s m args below meth c C ls H locs hl hP hD hS
  exact lv_iload C.1 C.2.1 hd (lv_at hl n hv) (h p e s m args below meth c C ls H locs hl hP hD hS)
theorem a_istore_n {k : KT} {c0 s0 pc : Nat} {L : List (Nat × Value)} {S : List Value} {es : va_W} {q : Fin 4} {i : Nat} {x : Int32} (L' : List (Nat × Value)) (hd : decode (kC k) pc = .ok (.istore_n q, 1)) (hi : (q : Nat) = i) (hn : i < kN k) (hL : (i, Value.int x) :: L.filter (fun q => !(q.1 == i) && !(q.1 + 1 == i && q.2.category == 2)) = L') (h : AW k c0 s0 (pc + 1) L' S es) : AW k c0 s0 pc L (.int x :: S) es := by
  intro p e s m args below meth c C ls H locs hl hP hD hS
  exact lv_istore_n C.1 C.2.1 hd hi hl hn hL (fun ls hl => (h p e s m args below meth c C ls H locs hl hP hD hS))
theorem a_istore {k : KT} {c0 s0 pc : Nat} {L : List (Nat × Value)} {S : List Value} {es : va_W} {i : Nat} {x : Int32} (L' : List (Nat × Value)) (hd : decode (kC k) pc = .ok (.istore i, 2)) (hn : i < kN k) (hL : (i, Value.int x) :: L.filter (fun q => !(q.1 == i) && !(q.1 + 1 == i && q.2.category == 2)) = L') (h : AW k c0 s0 (pc + 2) L' S es) : AW k c0 s0 pc L (.int x :: S) es := by
  intro p e s m args below meth c C ls H locs hl hP hD hS
  exact lv_istore C.1 C.2.1 hd hl hn hL (fun ls hl => (h p e s m args below meth c C ls H locs hl hP hD hS))
theorem a_lload_n {k : KT} {c0 s0 pc : Nat} {L : List (Nat × Value)} {S : List Value} {es : va_W} {q : Fin 4} {i : Nat} (n : Nat) {x : Int64} (hd : decode (kC k) pc = .ok (.lload_n q, 1)) (hi : (q : Nat) = i) (hv : L[n]? = some (i, .long x)) (h : AW k c0 s0 (pc + 1) L (.long x :: S) es) : AW k c0 s0 pc L S es := by
  intro p e s m args below meth c C ls H locs hl hP hD hS
  exact lv_lload_n C.1 C.2.1 hd hi (lv_at hl n hv) (h p e s m args below meth c C ls H locs hl hP hD hS)
theorem a_lload {k : KT} {c0 s0 pc : Nat} {L : List (Nat × Value)} {S : List Value} {es : va_W} {i : Nat} (n : Nat) {x : Int64} (hd : decode (kC k) pc = .ok (.lload i, 2)) (hv : L[n]? = some (i, .long x)) (h : AW k c0 s0 (pc + 2) L (.long x :: S) es) : AW k c0 s0 pc L S es := by
  intro p e s m args below meth c C ls H locs hl hP hD hS
  exact lv_lload C.1 C.2.1 hd (lv_at hl n hv) (h p e s m args below meth c C ls H locs hl hP hD hS)
theorem a_lstore_n {k : KT} {c0 s0 pc : Nat} {L : List (Nat × Value)} {S : List Value} {es : va_W} {q : Fin 4} {i : Nat} {x : Int64} (L' : List (Nat × Value)) (hd : decode (kC k) pc = .ok (.lstore_n q, 1)) (hi : (q : Nat) = i) (hn : i + 1 < kN k) (hL : (i, Value.long x) :: L.filter (fun q => !(q.1 == i) && (!(q.1 == i + 1) && !(q.1 + 1 == i && q.2.category == 2))) = L') (h : AW k c0 s0 (pc + 1) L' S es) : AW k c0 s0 pc L (.long x :: S) es := by
  intro p e s m args below meth c C ls H locs hl hP hD hS
  exact lv_lstore_n C.1 C.2.1 hd hi hl hn hL (fun ls hl => (h p e s m args below meth c C ls H locs hl hP hD hS))
theorem a_lstore {k : KT} {c0 s0 pc : Nat} {L : List (Nat × Value)} {S : List Value} {es : va_W} {i : Nat} {x : Int64} (L' : List (Nat × Value)) (hd : decode (kC k) pc = .ok (.lstore i, 2)) (hn : i + 1 < kN k) (hL : (i, Value.long x) :: L.filter (fun q => !(q.1 == i) && (!(q.1 == i + 1) && !(q.1 + 1 == i && q.2.category == 2))) = L') (h : AW k c0 s0 (pc + 2) L' S es) : AW k c0 s0 pc L (.long x :: S) es := by
  intro p e s m args below meth c C ls H locs hl hP hD hS
  exact lv_lstore C.1 C.2.1 hd hl hn hL (fun ls hl => (h p e s m args below meth c C ls H locs hl hP hD hS))
theorem a_aload_n {k : KT} {c0 s0 pc : Nat} {L : List (Nat × Value)} {S : List Value} {es : va_W} {q : Fin 4} {i : Nat} (n : Nat) {x : Nat} (hd : decode (kC k) pc = .ok (.aload_n q, 1)) (hi : (q : Nat) = i) (hv : L[n]? = some (i, .ref x)) (h : AW k c0 s0 (pc + 1) L (.ref x :: S) es) : AW k c0 s0 pc L S es := by
  intro p e s m args below meth c C ls H locs hl hP hD hS
  exact lv_aload_n C.1 C.2.1 hd hi (lv_at hl n hv) (h p e s m args below meth c C ls H locs hl hP hD hS)
theorem a_aload {k : KT} {c0 s0 pc : Nat} {L : List (Nat × Value)} {S : List Value} {es : va_W} {i : Nat} (n : Nat) {x : Nat} (hd : decode (kC k) pc = .ok (.aload i, 2)) (hv : L[n]? = some (i, .ref x)) (h : AW k c0 s0 (pc + 2) L (.ref x :: S) es) : AW k c0 s0 pc L S es := by
  intro p e s m args below meth c C ls H locs hl hP hD hS
  exact lv_aload C.1 C.2.1 hd (lv_at hl n hv) (h p e s m args below meth c C ls H locs hl hP hD hS)
theorem a_astore_n {k : KT} {c0 s0 pc : Nat} {L : List (Nat × Value)} {S : List Value} {es : va_W} {q : Fin 4} {i : Nat} {x : Nat} (L' : List (Nat × Value)) (hd : decode (kC k) pc = .ok (.astore_n q, 1)) (hi : (q : Nat) = i) (hn : i < kN k) (hL : (i, Value.ref x) :: L.filter (fun q => !(q.1 == i) && !(q.1 + 1 == i && q.2.category == 2)) = L') (h : AW k c0 s0 (pc + 1) L' S es) : AW k c0 s0 pc L (.ref x :: S) es := by
  intro p e s m args below meth c C ls H locs hl hP hD hS
  exact lv_astore_n C.1 C.2.1 hd hi hl hn hL (fun ls hl => (h p e s m args below meth c C ls H locs hl hP hD hS))
theorem a_astore {k : KT} {c0 s0 pc : Nat} {L : List (Nat × Value)} {S : List Value} {es : va_W} {i : Nat} {x : Nat} (L' : List (Nat × Value)) (hd : decode (kC k) pc = .ok (.astore i, 2)) (hn : i < kN k) (hL : (i, Value.ref x) :: L.filter (fun q => !(q.1 == i) && !(q.1 + 1 == i && q.2.category == 2)) = L') (h : AW k c0 s0 (pc + 2) L' S es) : AW k c0 s0 pc L (.ref x :: S) es := by
  intro p e s m args below meth c C ls H locs hl hP hD hS
  exact lv_astore C.1 C.2.1 hd hl hn hL (fun ls hl => (h p e s m args below meth c C ls H locs hl hP hD hS))
theorem a_iinc {k : KT} {c0 s0 pc : Nat} {L : List (Nat × Value)} {S : List Value} {es : va_W} {i : Nat} {z : Int} (n : Nat) {x : Int32} (v : Int32) (L' : List (Nat × Value)) (hd : decode (kC k) pc = .ok (.iinc i z, 3)) (hx : L[n]? = some (i, .int x)) (hv : x + Int32.ofInt z = v) (hn : i < kN k) (hL : (i, Value.int v) :: L.filter (fun q => !(q.1 == i) && !(q.1 + 1 == i && q.2.category == 2)) = L') (h : AW k c0 s0 (pc + 3) L' S es) : AW k c0 s0 pc L S es := by
  intro p e s m args below meth c C ls H locs hl hP hD hS
  exact lv_iinc C.1 C.2.1 hd hl hx hv hn hL (fun ls hl => (h p e s m args below meth c C ls H locs hl hP hD hS))
theorem a_if_eq {k : KT} {c0 s0 pc : Nat} {L : List (Nat × Value)} {S : List Value} {es : va_W} {x : Int32} {off : Int} (tgt : Nat) (hd : decode (kC k) pc = .ok (.ifCond .eq off, 3)) (ht : (pc : Int) + off = (tgt : Int)) (h1 : x = 0 → AW k c0 s0 tgt L S es) (h2 : ¬ x = 0 → AW k c0 s0 (pc + 3) L S es) : AW k c0 s0 pc L (.int x :: S) es := by
  intro p e s m args below meth c C ls H locs hl hP hD hS
  exact lv_if_eq C.1 C.2.1 hd ht (fun q => h1 q p e s m args below meth c C ls H locs hl hP hD hS) (fun q => h2 q p e s m args below meth c C ls H locs hl hP hD hS)
theorem a_icmp_eq {k : KT} {c0 s0 pc : Nat} {L : List (Nat × Value)} {S : List Value} {es : va_W} {x y : Int32} {off : Int} (tgt : Nat) (hd : decode (kC k) pc = .ok (.if_icmp .eq off, 3)) (ht : (pc : Int) + off = (tgt : Int)) (h1 : x = y → AW k c0 s0 tgt L S es) (h2 : ¬ x = y → AW k c0 s0 (pc + 3) L S es) : AW k c0 s0 pc L (.int y :: .int x :: S) es := by
  intro p e s m args below meth c C ls H locs hl hP hD hS
  exact lv_icmp_eq C.1 C.2.1 hd ht (fun q => h1 q p e s m args below meth c C ls H locs hl hP hD hS) (fun q => h2 q p e s m args below meth c C ls H locs hl hP hD hS)
theorem a_if_ne {k : KT} {c0 s0 pc : Nat} {L : List (Nat × Value)} {S : List Value} {es : va_W} {x : Int32} {off : Int} (tgt : Nat) (hd : decode (kC k) pc = .ok (.ifCond .ne off, 3)) (ht : (pc : Int) + off = (tgt : Int)) (h1 : ¬ x = 0 → AW k c0 s0 tgt L S es) (h2 : x = 0 → AW k c0 s0 (pc + 3) L S es) : AW k c0 s0 pc L (.int x :: S) es := by
  intro p e s m args below meth c C ls H locs hl hP hD hS
  exact lv_if_ne C.1 C.2.1 hd ht (fun q => h1 q p e s m args below meth c C ls H locs hl hP hD hS) (fun q => h2 q p e s m args below meth c C ls H locs hl hP hD hS)
theorem a_icmp_ne {k : KT} {c0 s0 pc : Nat} {L : List (Nat × Value)} {S : List Value} {es : va_W} {x y : Int32} {off : Int} (tgt : Nat) (hd : decode (kC k) pc = .ok (.if_icmp .ne off, 3)) (ht : (pc : Int) + off = (tgt : Int)) (h1 : ¬ x = y → AW k c0 s0 tgt L S es) (h2 : x = y → AW k c0 s0 (pc + 3) L S es) : AW k c0 s0 pc L (.int y :: .int x :: S) es := by
  intro p e s m args below meth c C ls H locs hl hP hD hS
  exact lv_icmp_ne C.1 C.2.1 hd ht (fun q => h1 q p e s m args below meth c C ls H locs hl hP hD hS) (fun q => h2 q p e s m args below meth c C ls H locs hl hP hD hS)
theorem a_if_lt {k : KT} {c0 s0 pc : Nat} {L : List (Nat × Value)} {S : List Value} {es : va_W} {x : Int32} {off : Int} (tgt : Nat) (hd : decode (kC k) pc = .ok (.ifCond .lt off, 3)) (ht : (pc : Int) + off = (tgt : Int)) (h1 : x < 0 → AW k c0 s0 tgt L S es) (h2 : ¬ x < 0 → AW k c0 s0 (pc + 3) L S es) : AW k c0 s0 pc L (.int x :: S) es := by
  intro p e s m args below meth c C ls H locs hl hP hD hS
  exact lv_if_lt C.1 C.2.1 hd ht (fun q => h1 q p e s m args below meth c C ls H locs hl hP hD hS) (fun q => h2 q p e s m args below meth c C ls H locs hl hP hD hS)
theorem a_icmp_lt {k : KT} {c0 s0 pc : Nat} {L : List (Nat × Value)} {S : List Value} {es : va_W} {x y : Int32} {off : Int} (tgt : Nat) (hd : decode (kC k) pc = .ok (.if_icmp .lt off, 3)) (ht : (pc : Int) + off = (tgt : Int)) (h1 : x < y → AW k c0 s0 tgt L S es) (h2 : ¬ x < y → AW k c0 s0 (pc + 3) L S es) : AW k c0 s0 pc L (.int y :: .int x :: S) es := by
  intro p e s m args below meth c C ls H locs hl hP hD hS
  exact lv_icmp_lt C.1 C.2.1 hd ht (fun q => h1 q p e s m args below meth c C ls H locs hl hP hD hS) (fun q => h2 q p e s m args below meth c C ls H locs hl hP hD hS)
theorem a_if_ge {k : KT} {c0 s0 pc : Nat} {L : List (Nat × Value)} {S : List Value} {es : va_W} {x : Int32} {off : Int} (tgt : Nat) (hd : decode (kC k) pc = .ok (.ifCond .ge off, 3)) (ht : (pc : Int) + off = (tgt : Int)) (h1 : 0 ≤ x → AW k c0 s0 tgt L S es) (h2 : ¬ 0 ≤ x → AW k c0 s0 (pc + 3) L S es) : AW k c0 s0 pc L (.int x :: S) es := by
  intro p e s m args below meth c C ls H locs hl hP hD hS
  exact lv_if_ge C.1 C.2.1 hd ht (fun q => h1 q p e s m args below meth c C ls H locs hl hP hD hS) (fun q => h2 q p e s m args below meth c C ls H locs hl hP hD hS)
theorem a_icmp_ge {k : KT} {c0 s0 pc : Nat} {L : List (Nat × Value)} {S : List Value} {es : va_W} {x y : Int32} {off : Int} (tgt : Nat) (hd : decode (kC k) pc = .ok (.if_icmp .ge off, 3)) (ht : (pc : Int) + off = (tgt : Int)) (h1 : y ≤ x → AW k c0 s0 tgt L S es) (h2 : ¬ y ≤ x → AW k c0 s0 (pc + 3) L S es) : AW k c0 s0 pc L (.int y :: .int x :: S) es := by
  intro p e s m args below meth c C ls H locs hl hP hD hS
  exact lv_icmp_ge C.1 C.2.1 hd ht (fun q => h1 q p e s m args below meth c C ls H locs hl hP hD hS) (fun q => h2 q p e s m args below meth c C ls H locs hl hP hD hS)
theorem a_if_gt {k : KT} {c0 s0 pc : Nat} {L : List (Nat × Value)} {S : List Value} {es : va_W} {x : Int32} {off : Int} (tgt : Nat) (hd : decode (kC k) pc = .ok (.ifCond .gt off, 3)) (ht : (pc : Int) + off = (tgt : Int)) (h1 : 0 < x → AW k c0 s0 tgt L S es) (h2 : ¬ 0 < x → AW k c0 s0 (pc + 3) L S es) : AW k c0 s0 pc L (.int x :: S) es := by
  intro p e s m args below meth c C ls H locs hl hP hD hS
  exact lv_if_gt C.1 C.2.1 hd ht (fun q => h1 q p e s m args below meth c C ls H locs hl hP hD hS) (fun q => h2 q p e s m args below meth c C ls H locs hl hP hD hS)
theorem a_icmp_gt {k : KT} {c0 s0 pc : Nat} {L : List (Nat × Value)} {S : List Value} {es : va_W} {x y : Int32} {off : Int} (tgt : Nat) (hd : decode (kC k) pc = .ok (.if_icmp .gt off, 3)) (ht : (pc : Int) + off = (tgt : Int)) (h1 : y < x → AW k c0 s0 tgt L S es) (h2 : ¬ y < x → AW k c0 s0 (pc + 3) L S es) : AW k c0 s0 pc L (.int y :: .int x :: S) es := by
  intro p e s m args below meth c C ls H locs hl hP hD hS
  exact lv_icmp_gt C.1 C.2.1 hd ht (fun q => h1 q p e s m args below meth c C ls H locs hl hP hD hS) (fun q => h2 q p e s m args below meth c C ls H locs hl hP hD hS)
theorem a_if_le {k : KT} {c0 s0 pc : Nat} {L : List (Nat × Value)} {S : List Value} {es : va_W} {x : Int32} {off : Int} (tgt : Nat) (hd : decode (kC k) pc = .ok (.ifCond .le off, 3)) (ht : (pc : Int) + off = (tgt : Int)) (h1 : x ≤ 0 → AW k c0 s0 tgt L S es) (h2 : ¬ x ≤ 0 → AW k c0 s0 (pc + 3) L S es) : AW k c0 s0 pc L (.int x :: S) es := by
  intro p e s m args below meth c C ls H locs hl hP hD hS
  exact lv_if_le C.1 C.2.1 hd ht (fun q => h1 q p e s m args below meth c C ls H locs hl hP hD hS) (fun q => h2 q p e s m args below meth c C ls H locs hl hP hD hS)
theorem a_icmp_le {k : KT} {c0 s0 pc : Nat} {L : List (Nat × Value)} {S : List Value} {es : va_W} {x y : Int32} {off : Int} (tgt : Nat) (hd : decode (kC k) pc = .ok (.if_icmp .le off, 3)) (ht : (pc : Int) + off = (tgt : Int)) (h1 : x ≤ y → AW k c0 s0 tgt L S es) (h2 : ¬ x ≤ y → AW k c0 s0 (pc + 3) L S es) : AW k c0 s0 pc L (.int y :: .int x :: S) es := by
  intro p e s m args below meth c C ls H locs hl hP hD hS
  exact lv_icmp_le C.1 C.2.1 hd ht (fun q => h1 q p e s m args below meth c C ls H locs hl hP hD hS) (fun q => h2 q p e s m args below meth c C ls H locs hl hP hD hS)
theorem a_goto {k : KT} {c0 s0 pc : Nat} {L : List (Nat × Value)} {S : List Value} {es : va_W} {off : Int} (tgt : Nat) (hd : decode (kC k) pc = .ok (.goto off, 3)) (ht : (pc : Int) + off = (tgt : Int)) (h : AW k c0 s0 tgt L S es) : AW k c0 s0 pc L S es := by
  intro p e s m args below meth c C ls H locs hl hP hD hS
  exact lv_goto C.1 C.2.1 hd ht (h p e s m args below meth c C ls H locs hl hP hD hS)
theorem a_tabOut {k : KT} {c0 s0 pc : Nat} {L : List (Nat × Value)} {S : List Value} {es : va_W} {dflt lo hi : Int} {offs : Array Int} {len : Nat} {x : Int32} (tgt : Nat) (hd : decode (kC k) pc = .ok (.tableswitch dflt lo hi offs, len)) (hx : x.toInt < lo ∨ hi < x.toInt) (ht : (pc : Int) + dflt = (tgt : Int)) (h : AW k c0 s0 tgt L S es) : AW k c0 s0 pc L (.int x :: S) es := by
  intro p e s m args below meth c C ls H locs hl hP hD hS
  exact lv_tableOut C.1 C.2.1 hd hx ht (h p e s m args below meth c C ls H locs hl hP hD hS)
theorem a_tabIn {k : KT} {c0 s0 pc : Nat} {L : List (Nat × Value)} {S : List Value} {es : va_W} {dflt lo hi : Int} {offs : Array Int} {len : Nat} {x : Int32} {off : Int} (tgt : Nat) (hd : decode (kC k) pc = .ok (.tableswitch dflt lo hi offs, len)) (h1 : ¬ x.toInt < lo) (h2 : ¬ hi < x.toInt) (ho : offs[(x.toInt - lo).toNat]? = some off) (ht : (pc : Int) + off = (tgt : Int)) (h : AW k c0 s0 tgt L S es) : AW k c0 s0 pc L (.int x :: S) es := by
  intro p e s m args below meth c C ls H locs hl hP hD hS
  exact lv_tableIn C.1 C.2.1 hd h1 h2 ho ht (h p e s m args below meth c C ls H locs hl hP hD hS)
theorem a_ldc {k : KT} {c0 s0 pc : Nat} {L : List (Nat × Value)} {S : List Value} {es : va_W} {i : Nat} {v : Int32} (hd : decode (kC k) pc = .ok (.ldc i, 2)) (hw : Cond.constant (kO k) i v ∈ gtbl) (h : AW k c0 s0 (pc + 2) L (.int v :: S) es) : AW k c0 s0 pc L S es := by
  intro p e s m args below meth c C ls H locs hl hP hD hS
  exact lv_ldc C.1 C.2.1 C.2.2.2.2.1 (C.2.2.2.2.2.2.1 _ hw) hd (h p e s m args below meth c C ls H locs hl hP hD hS)
theorem a_ldc2 {k : KT} {c0 s0 pc : Nat} {L : List (Nat × Value)} {S : List Value} {es : va_W} {i : Nat} {v : Int64} (hd : decode (kC k) pc = .ok (.ldc2_w i, 3)) (hw : Cond.constantLong (kO k) i v ∈ gtbl) (h : AW k c0 s0 (pc + 3) L (.long v :: S) es) : AW k c0 s0 pc L S es := by
  intro p e s m args below meth c C ls H locs hl hP hD hS
  exact lv_ldc2 C.1 C.2.1 C.2.2.2.2.1 (C.2.2.2.2.2.2.1 _ hw) hd (h p e s m args below meth c C ls H locs hl hP hD hS)
end
section
abbrev IT : Type := Nat → Nat → Int32
abbrev JT : Type := Nat → Nat → Int64
abbrev SH : Type := (Nat × Nat × List Nat) ⊕ (Nat × List (Option Nat))
def shL : List SH := [.inr (7, [some 1, some 3, some 11, some 19, some 20, some 72, some 73, some 78, some 79]), .inr (5, [some 2, none, none]), .inl (0, 130, []), .inr (2, [some 4, some 6, some 7, some 8, some 9, some 10, none, none]), .inr (3, [some 5, none, none]), .inl (0, 48, []), .inl (0, 6, []), .inl (0, 6, []), .inl (0, 6, []), .inl (0, 6, []), .inl (0, 4, []), .inr (2, [some 12, some 14, some 15, some 16, some 17, some 18, none, none]), .inr (3, [some 13, none, none]), .inl (0, 48, []), .inl (0, 6, []), .inl (0, 6, []), .inl (0, 6, []), .inl (0, 6, []), .inl (0, 4, []), .inl (2, 2, [80, 88]), .inr (0, [some 21, some 22, some 23, none, none]), .inl (3, 24, [24, 26, 28, 30, 32, 34, 36, 38, 40, 42, 44, 46, 48, 50, 52, 54, 56, 58, 60, 62, 64, 66, 68, 70]), .inl (0, 24, []), .inl (0, 24, []), .inr (6, [some 4, some 25, none, none, none, none]), .inl (0, 4, []), .inr (6, [some 4, some 27, none, none, none, none]), .inl (0, 4, []), .inr (6, [some 4, some 29, none, none, none, none]), .inl (0, 4, []), .inr (6, [some 4, some 31, none, none, none, none]), .inl (0, 4, []), .inr (6, [some 4, some 33, none, none, none, none]), .inl (0, 4, []), .inr (6, [some 4, some 35, none, none, none, none]), .inl (0, 4, []), .inr (6, [some 4, some 37, none, none, none, none]), .inl (0, 4, []), .inr (6, [some 4, some 39, none, none, none, none]), .inl (0, 4, []), .inr (6, [some 4, some 41, none, none, none, none]), .inl (0, 4, []), .inr (6, [some 4, some 43, none, none, none, none]), .inl (0, 4, []), .inr (6, [some 4, some 45, none, none, none, none]), .inl (0, 4, []), .inr (6, [some 4, some 47, none, none, none, none]), .inl (0, 4, []), .inr (6, [some 4, some 49, none, none, none, none]), .inl (0, 4, []), .inr (6, [some 4, some 51, none, none, none, none]), .inl (0, 4, []), .inr (6, [some 4, some 53, none, none, none, none]), .inl (0, 4, []), .inr (6, [some 4, some 55, none, none, none, none]), .inl (0, 4, []), .inr (6, [some 4, some 57, none, none, none, none]), .inl (0, 4, []), .inr (6, [some 4, some 59, none, none, none, none]), .inl (0, 4, []), .inr (6, [some 4, some 61, none, none, none, none]), .inl (0, 4, []), .inr (6, [some 4, some 63, none, none, none, none]), .inl (0, 4, []), .inr (6, [some 4, some 65, none, none, none, none]), .inl (0, 4, []), .inr (6, [some 4, some 67, none, none, none, none]), .inl (0, 4, []), .inr (6, [some 4, some 69, none, none, none, none]), .inl (0, 4, []), .inr (6, [some 4, some 71, none, none, none, none]), .inl (0, 4, []), .inl (3, 7, [96, 98, 100, 102, 104, 106, 108]), .inr (1, [some 4, some 74, some 75, some 76, some 77, none]), .inl (0, 192, []), .inl (0, 192, []), .inl (0, 192, []), .inl (0, 192, []), .inl (4, 4, [110, 112, 114, 116]), .inl (0, 6, []), .inr (2, [some 81, some 83, some 84, some 85, some 86, some 87, none, none]), .inr (3, [some 82, none, none]), .inl (0, 48, []), .inl (0, 6, []), .inl (0, 6, []), .inl (0, 6, []), .inl (0, 6, []), .inl (0, 4, []), .inr (2, [some 89, some 91, some 92, some 93, some 94, some 95, none, none]), .inr (3, [some 90, none, none]), .inl (0, 48, []), .inl (0, 6, []), .inl (0, 6, []), .inl (0, 6, []), .inl (0, 6, []), .inl (0, 4, []), .inr (6, [some 4, some 97, none, none, none, none]), .inl (0, 4, []), .inr (6, [some 4, some 99, none, none, none, none]), .inl (0, 4, []), .inr (6, [some 4, some 101, none, none, none, none]), .inl (0, 4, []), .inr (6, [some 4, some 103, none, none, none, none]), .inl (0, 4, []), .inr (6, [some 4, some 105, none, none, none, none]), .inl (0, 4, []), .inr (6, [some 4, some 107, none, none, none, none]), .inl (0, 4, []), .inr (6, [some 4, some 109, none, none, none, none]), .inl (0, 4, []), .inr (4, [some 111, none, none, none]), .inl (1, 24, []), .inr (4, [some 113, none, none, none]), .inl (1, 24, []), .inr (4, [some 115, none, none, none]), .inl (1, 24, []), .inr (4, [some 117, none, none, none]), .inl (1, 24, []), .inr (8, [some 119, none, some 120, none, some 121, some 122, some 123, none, some 124, some 125, some 126, some 127, some 128, some 129]), .inl (0, 952, []), .inl (0, 130, []), .inl (1, 96, []), .inl (0, 4, []), .inl (0, 4, []), .inl (0, 192, []), .inl (0, 7, []), .inl (0, 6, []), .inl (0, 729, []), .inl (1, 24, []), .inl (0, 6, [])]
set_option maxRecDepth 4000 in
theorem shL_len : shL.length = 130 := rfl
theorem sh_0 : shL[0]? = some (.inr (7, [some 1, some 3, some 11, some 19, some 20, some 72, some 73, some 78, some 79])) := rfl
theorem sh_1 : shL[1]? = some (.inr (5, [some 2, none, none])) := rfl
theorem sh_2 : shL[2]? = some (.inl (0, 130, [])) := rfl
theorem sh_3 : shL[3]? = some (.inr (2, [some 4, some 6, some 7, some 8, some 9, some 10, none, none])) := rfl
theorem sh_4 : shL[4]? = some (.inr (3, [some 5, none, none])) := rfl
theorem sh_5 : shL[5]? = some (.inl (0, 48, [])) := rfl
theorem sh_6 : shL[6]? = some (.inl (0, 6, [])) := rfl
theorem sh_7 : shL[7]? = some (.inl (0, 6, [])) := rfl
theorem sh_8 : shL[8]? = some (.inl (0, 6, [])) := rfl
theorem sh_9 : shL[9]? = some (.inl (0, 6, [])) := rfl
theorem sh_10 : shL[10]? = some (.inl (0, 4, [])) := rfl
theorem sh_11 : shL[11]? = some (.inr (2, [some 12, some 14, some 15, some 16, some 17, some 18, none, none])) := rfl
theorem sh_12 : shL[12]? = some (.inr (3, [some 13, none, none])) := rfl
theorem sh_13 : shL[13]? = some (.inl (0, 48, [])) := rfl
theorem sh_14 : shL[14]? = some (.inl (0, 6, [])) := rfl
theorem sh_15 : shL[15]? = some (.inl (0, 6, [])) := rfl
theorem sh_16 : shL[16]? = some (.inl (0, 6, [])) := rfl
theorem sh_17 : shL[17]? = some (.inl (0, 6, [])) := rfl
theorem sh_18 : shL[18]? = some (.inl (0, 4, [])) := rfl
theorem sh_19 : shL[19]? = some (.inl (2, 2, [80, 88])) := rfl
theorem sh_20 : shL[20]? = some (.inr (0, [some 21, some 22, some 23, none, none])) := rfl
theorem sh_21 : shL[21]? = some (.inl (3, 24, [24, 26, 28, 30, 32, 34, 36, 38, 40, 42, 44, 46, 48, 50, 52, 54, 56, 58, 60, 62, 64, 66, 68, 70])) := rfl
theorem sh_22 : shL[22]? = some (.inl (0, 24, [])) := rfl
theorem sh_23 : shL[23]? = some (.inl (0, 24, [])) := rfl
theorem sh_24 : shL[24]? = some (.inr (6, [some 4, some 25, none, none, none, none])) := rfl
theorem sh_25 : shL[25]? = some (.inl (0, 4, [])) := rfl
theorem sh_26 : shL[26]? = some (.inr (6, [some 4, some 27, none, none, none, none])) := rfl
theorem sh_27 : shL[27]? = some (.inl (0, 4, [])) := rfl
theorem sh_28 : shL[28]? = some (.inr (6, [some 4, some 29, none, none, none, none])) := rfl
theorem sh_29 : shL[29]? = some (.inl (0, 4, [])) := rfl
theorem sh_30 : shL[30]? = some (.inr (6, [some 4, some 31, none, none, none, none])) := rfl
theorem sh_31 : shL[31]? = some (.inl (0, 4, [])) := rfl
theorem sh_32 : shL[32]? = some (.inr (6, [some 4, some 33, none, none, none, none])) := rfl
theorem sh_33 : shL[33]? = some (.inl (0, 4, [])) := rfl
theorem sh_34 : shL[34]? = some (.inr (6, [some 4, some 35, none, none, none, none])) := rfl
theorem sh_35 : shL[35]? = some (.inl (0, 4, [])) := rfl
theorem sh_36 : shL[36]? = some (.inr (6, [some 4, some 37, none, none, none, none])) := rfl
theorem sh_37 : shL[37]? = some (.inl (0, 4, [])) := rfl
theorem sh_38 : shL[38]? = some (.inr (6, [some 4, some 39, none, none, none, none])) := rfl
theorem sh_39 : shL[39]? = some (.inl (0, 4, [])) := rfl
theorem sh_40 : shL[40]? = some (.inr (6, [some 4, some 41, none, none, none, none])) := rfl
theorem sh_41 : shL[41]? = some (.inl (0, 4, [])) := rfl
theorem sh_42 : shL[42]? = some (.inr (6, [some 4, some 43, none, none, none, none])) := rfl
theorem sh_43 : shL[43]? = some (.inl (0, 4, [])) := rfl
theorem sh_44 : shL[44]? = some (.inr (6, [some 4, some 45, none, none, none, none])) := rfl
theorem sh_45 : shL[45]? = some (.inl (0, 4, [])) := rfl
theorem sh_46 : shL[46]? = some (.inr (6, [some 4, some 47, none, none, none, none])) := rfl
theorem sh_47 : shL[47]? = some (.inl (0, 4, [])) := rfl
theorem sh_48 : shL[48]? = some (.inr (6, [some 4, some 49, none, none, none, none])) := rfl
theorem sh_49 : shL[49]? = some (.inl (0, 4, [])) := rfl
theorem sh_50 : shL[50]? = some (.inr (6, [some 4, some 51, none, none, none, none])) := rfl
theorem sh_51 : shL[51]? = some (.inl (0, 4, [])) := rfl
theorem sh_52 : shL[52]? = some (.inr (6, [some 4, some 53, none, none, none, none])) := rfl
theorem sh_53 : shL[53]? = some (.inl (0, 4, [])) := rfl
theorem sh_54 : shL[54]? = some (.inr (6, [some 4, some 55, none, none, none, none])) := rfl
theorem sh_55 : shL[55]? = some (.inl (0, 4, [])) := rfl
theorem sh_56 : shL[56]? = some (.inr (6, [some 4, some 57, none, none, none, none])) := rfl
theorem sh_57 : shL[57]? = some (.inl (0, 4, [])) := rfl
theorem sh_58 : shL[58]? = some (.inr (6, [some 4, some 59, none, none, none, none])) := rfl
theorem sh_59 : shL[59]? = some (.inl (0, 4, [])) := rfl
theorem sh_60 : shL[60]? = some (.inr (6, [some 4, some 61, none, none, none, none])) := rfl
theorem sh_61 : shL[61]? = some (.inl (0, 4, [])) := rfl
theorem sh_62 : shL[62]? = some (.inr (6, [some 4, some 63, none, none, none, none])) := rfl
theorem sh_63 : shL[63]? = some (.inl (0, 4, [])) := rfl
theorem sh_64 : shL[64]? = some (.inr (6, [some 4, some 65, none, none, none, none])) := rfl
theorem sh_65 : shL[65]? = some (.inl (0, 4, [])) := rfl
theorem sh_66 : shL[66]? = some (.inr (6, [some 4, some 67, none, none, none, none])) := rfl
theorem sh_67 : shL[67]? = some (.inl (0, 4, [])) := rfl
theorem sh_68 : shL[68]? = some (.inr (6, [some 4, some 69, none, none, none, none])) := rfl
theorem sh_69 : shL[69]? = some (.inl (0, 4, [])) := rfl
theorem sh_70 : shL[70]? = some (.inr (6, [some 4, some 71, none, none, none, none])) := rfl
theorem sh_71 : shL[71]? = some (.inl (0, 4, [])) := rfl
theorem sh_72 : shL[72]? = some (.inl (3, 7, [96, 98, 100, 102, 104, 106, 108])) := rfl
theorem sh_73 : shL[73]? = some (.inr (1, [some 4, some 74, some 75, some 76, some 77, none])) := rfl
theorem sh_74 : shL[74]? = some (.inl (0, 192, [])) := rfl
theorem sh_75 : shL[75]? = some (.inl (0, 192, [])) := rfl
theorem sh_76 : shL[76]? = some (.inl (0, 192, [])) := rfl
theorem sh_77 : shL[77]? = some (.inl (0, 192, [])) := rfl
theorem sh_78 : shL[78]? = some (.inl (4, 4, [110, 112, 114, 116])) := rfl
theorem sh_79 : shL[79]? = some (.inl (0, 6, [])) := rfl
theorem sh_80 : shL[80]? = some (.inr (2, [some 81, some 83, some 84, some 85, some 86, some 87, none, none])) := rfl
theorem sh_81 : shL[81]? = some (.inr (3, [some 82, none, none])) := rfl
theorem sh_82 : shL[82]? = some (.inl (0, 48, [])) := rfl
theorem sh_83 : shL[83]? = some (.inl (0, 6, [])) := rfl
theorem sh_84 : shL[84]? = some (.inl (0, 6, [])) := rfl
theorem sh_85 : shL[85]? = some (.inl (0, 6, [])) := rfl
theorem sh_86 : shL[86]? = some (.inl (0, 6, [])) := rfl
theorem sh_87 : shL[87]? = some (.inl (0, 4, [])) := rfl
theorem sh_88 : shL[88]? = some (.inr (2, [some 89, some 91, some 92, some 93, some 94, some 95, none, none])) := rfl
theorem sh_89 : shL[89]? = some (.inr (3, [some 90, none, none])) := rfl
theorem sh_90 : shL[90]? = some (.inl (0, 48, [])) := rfl
theorem sh_91 : shL[91]? = some (.inl (0, 6, [])) := rfl
theorem sh_92 : shL[92]? = some (.inl (0, 6, [])) := rfl
theorem sh_93 : shL[93]? = some (.inl (0, 6, [])) := rfl
theorem sh_94 : shL[94]? = some (.inl (0, 6, [])) := rfl
theorem sh_95 : shL[95]? = some (.inl (0, 4, [])) := rfl
theorem sh_96 : shL[96]? = some (.inr (6, [some 4, some 97, none, none, none, none])) := rfl
theorem sh_97 : shL[97]? = some (.inl (0, 4, [])) := rfl
theorem sh_98 : shL[98]? = some (.inr (6, [some 4, some 99, none, none, none, none])) := rfl
theorem sh_99 : shL[99]? = some (.inl (0, 4, [])) := rfl
theorem sh_100 : shL[100]? = some (.inr (6, [some 4, some 101, none, none, none, none])) := rfl
theorem sh_101 : shL[101]? = some (.inl (0, 4, [])) := rfl
theorem sh_102 : shL[102]? = some (.inr (6, [some 4, some 103, none, none, none, none])) := rfl
theorem sh_103 : shL[103]? = some (.inl (0, 4, [])) := rfl
theorem sh_104 : shL[104]? = some (.inr (6, [some 4, some 105, none, none, none, none])) := rfl
theorem sh_105 : shL[105]? = some (.inl (0, 4, [])) := rfl
theorem sh_106 : shL[106]? = some (.inr (6, [some 4, some 107, none, none, none, none])) := rfl
theorem sh_107 : shL[107]? = some (.inl (0, 4, [])) := rfl
theorem sh_108 : shL[108]? = some (.inr (6, [some 4, some 109, none, none, none, none])) := rfl
theorem sh_109 : shL[109]? = some (.inl (0, 4, [])) := rfl
theorem sh_110 : shL[110]? = some (.inr (4, [some 111, none, none, none])) := rfl
theorem sh_111 : shL[111]? = some (.inl (1, 24, [])) := rfl
theorem sh_112 : shL[112]? = some (.inr (4, [some 113, none, none, none])) := rfl
theorem sh_113 : shL[113]? = some (.inl (1, 24, [])) := rfl
theorem sh_114 : shL[114]? = some (.inr (4, [some 115, none, none, none])) := rfl
theorem sh_115 : shL[115]? = some (.inl (1, 24, [])) := rfl
theorem sh_116 : shL[116]? = some (.inr (4, [some 117, none, none, none])) := rfl
theorem sh_117 : shL[117]? = some (.inl (1, 24, [])) := rfl
theorem sh_118 : shL[118]? = some (.inr (8, [some 119, none, some 120, none, some 121, some 122, some 123, none, some 124, some 125, some 126, some 127, some 128, some 129])) := rfl
theorem sh_119 : shL[119]? = some (.inl (0, 952, [])) := rfl
theorem sh_120 : shL[120]? = some (.inl (0, 130, [])) := rfl
theorem sh_121 : shL[121]? = some (.inl (1, 96, [])) := rfl
theorem sh_122 : shL[122]? = some (.inl (0, 4, [])) := rfl
theorem sh_123 : shL[123]? = some (.inl (0, 4, [])) := rfl
theorem sh_124 : shL[124]? = some (.inl (0, 192, [])) := rfl
theorem sh_125 : shL[125]? = some (.inl (0, 7, [])) := rfl
theorem sh_126 : shL[126]? = some (.inl (0, 6, [])) := rfl
theorem sh_127 : shL[127]? = some (.inl (0, 729, [])) := rfl
theorem sh_128 : shL[128]? = some (.inl (1, 24, [])) := rfl
theorem sh_129 : shL[129]? = some (.inl (0, 6, [])) := rfl

def fE (g : GT) (f : Nat → Int32) (j : Nat) (x : Option Nat) : Value := match x with
  | none => .int (f j)
  | some r => .ref (ga g r)
def cE (g : GT) (I : IT) (J : JT) (k : Nat) (x : SH) : va_E := match x with
  | .inl (0, n, _) => .inl (gA g 0, n, .inl (I k))
  | .inl (1, n, _) => .inl (gA g 1, n, .inr (.inl (J k)))
  | .inl (t + 2, n, rs) => .inl (gA g (t + 2), n, .inr (.inr (.inr (.inr (fun j => (rs[j]?).map (fun r => ga g r))))))
  | .inr (ci, fs) => .inr (ci, fs.mapIdx (fE g (I k)))
/-- the system's cells, with their whole numbers I and longs J -/
def cw (g : GT) (I : IT) (J : JT) : List va_E := shL.mapIdx (cE g I J)
def cW (g : GT) (I : IT) (J : JT) : va_W := WL (ga g) (cw g I J)
theorem cw_at {g : GT} {I : IT} {J : JT} {k : Nat} {x : SH} (h : shL[k]? = some x) : (cw g I J)[k]? = some (cE g I J k x) := by
  unfold cw; rw [List.getElem?_mapIdx, h]; rfl
theorem cw_len (g : GT) (I : IT) (J : JT) : (cw g I J).length = 130 := by
  unfold cw; rw [List.length_mapIdx, shL_len]
def sI (I : IT) (o j : Nat) (v : Int32) : IT := fun a => if a = o then upd (I o) j v else I a
def sJ (J : JT) (o j : Nat) (v : Int64) : JT := fun a => if a = o then vp_updL (J o) j v else J a
def cI (I : IT) (src dst sp dp n : Nat) : IT := fun a => if a = dst then va_cpy (I src) (I dst) sp dp n else I a
def cJ (J : JT) (src dst sp dp n : Nat) : JT := fun a => if a = dst then va_cpy (J src) (J dst) sp dp n else J a
theorem cE_I {g : GT} {I I' : IT} {J : JT} {k : Nat} {x : SH} (h : I' k = I k) : cE g I' J k x = cE g I J k x := by
  unfold cE; rw [h]
theorem cE_J {g : GT} {I : IT} {J J' : JT} {k : Nat} {x : SH} (h : J' k = J k) : cE g I J' k x = cE g I J k x := by
  unfold cE; rw [h]
/-- one cell is written: only the row of that cell is another -/
theorem cw_setI {g : GT} {I I' : IT} {J : JT} {o : Nat} {x : SH} {e : va_E} (hs : shL[o]? = some x) (hI : ∀ a, a ≠ o → I' a = I a) (he : cE g I' J o x = e) : (cw g I J).set o e = cw g I' J := by
  apply List.ext_getElem?
  intro i
  rw [List.getElem?_set, cw_len]
  by_cases h : o = i
  · subst h
    rw [if_pos rfl, cw_at hs, he]
    have h2 := (List.getElem?_eq_some_iff.mp hs).1
    rw [shL_len] at h2
    rw [if_pos h2]
  · rw [if_neg h]
    unfold cw
    rw [List.getElem?_mapIdx, List.getElem?_mapIdx]
    cases shL[i]? with
    | none => rfl
    | some y => exact congrArg some (cE_I (hI i (fun q => h q.symm))).symm
theorem cw_setJ {g : GT} {I : IT} {J J' : JT} {o : Nat} {x : SH} {e : va_E} (hs : shL[o]? = some x) (hJ : ∀ a, a ≠ o → J' a = J a) (he : cE g I J' o x = e) : (cw g I J).set o e = cw g I J' := by
  apply List.ext_getElem?
  intro i
  rw [List.getElem?_set, cw_len]
  by_cases h : o = i
  · subst h
    rw [if_pos rfl, cw_at hs, he]
    have h2 := (List.getElem?_eq_some_iff.mp hs).1
    rw [shL_len] at h2
    rw [if_pos h2]
  · rw [if_neg h]
    unfold cw
    rw [List.getElem?_mapIdx, List.getElem?_mapIdx]
    cases shL[i]? with
    | none => rfl
    | some y => exact congrArg some (cE_J (hJ i (fun q => h q.symm))).symm
theorem sI_ne {I : IT} {o j : Nat} {v : Int32} {a : Nat} (h : a ≠ o) : sI I o j v a = I a := by unfold sI; rw [if_neg h]
theorem sI_eq {I : IT} {o j : Nat} {v : Int32} : sI I o j v o = upd (I o) j v := by unfold sI; rw [if_pos rfl]
theorem sI_at {I : IT} {o j : Nat} {v : Int32} (a b : Nat) : sI I o j v a b = if a = o ∧ b = j then v else I a b := by
  unfold sI upd
  by_cases h : a = o
  · subst h
    by_cases h2 : b = j <;> simp [h2]
  · simp [h]
theorem sJ_ne {J : JT} {o j : Nat} {v : Int64} {a : Nat} (h : a ≠ o) : sJ J o j v a = J a := by unfold sJ; rw [if_neg h]
theorem sJ_eq {J : JT} {o j : Nat} {v : Int64} : sJ J o j v o = vp_updL (J o) j v := by unfold sJ; rw [if_pos rfl]
theorem sJ_at {J : JT} {o j : Nat} {v : Int64} (a b : Nat) : sJ J o j v a b = if a = o ∧ b = j then v else J a b := by
  unfold sJ vp_updL
  by_cases h : a = o
  · subst h
    by_cases h2 : b = j <;> simp [h2]
  · simp [h]
theorem fE_set {g : GT} {f : Nat → Int32} {fs : List (Option Nat)} {j : Nat} {v : Int32} (hj : fs[j]? = some none) : (fs.mapIdx (fE g f)).set j (.int v) = fs.mapIdx (fE g (upd f j v)) := by
  apply List.ext_getElem?
  intro i
  rw [List.getElem?_set, List.length_mapIdx, List.getElem?_mapIdx, List.getElem?_mapIdx]
  by_cases h : j = i
  · subst h
    have h2 := (List.getElem?_eq_some_iff.mp hj).1
    rw [if_pos rfl, if_pos h2, hj]
    show some (Value.int v) = some (Value.int (upd f j v j))
    unfold upd
    rw [if_pos rfl]
  · rw [if_neg h]
    cases fs[i]? with
    | none => rfl
    | some y =>
      cases y with
      | some r => rfl
      | none =>
        show some (Value.int (f i)) = some (Value.int (upd f j v i))
        unfold upd
        rw [if_neg (fun q => h q.symm)]
-- the words of a field
def FL (own : String) (idx ci j : Nat) : Prop := ∃ (C : String) (T : u_T) (N : Nat), clsL[ci]? = some (C, T, N) ∧ (∀ w ∈ u_ws C T N, w ∈ gtbl) ∧ j < N ∧ Cond.fieldLink own idx (T j).1 (T j).2.1 (T j).2.2.1 ∈ gtbl
def FP (own : String) (idx ci j : Nat) (ty : FieldType) : Prop := ∃ (C : String) (T : u_T) (N : Nat) (ty0 : Nat → FieldType), clsL[ci]? = some (C, T, N) ∧ (∀ w ∈ u_ws C T N, w ∈ gtbl) ∧ j < N ∧ Cond.fieldLink own idx (T j).1 (T j).2.1 (T j).2.2.1 ∈ gtbl ∧ (∀ k, k < N → parseFieldDescriptor (T k).2.2.1 = some (ty0 k)) ∧ (∀ a, a < N → ∀ b, b < N → a ≠ b → (T a).2.1 ≠ (T b).2.1) ∧ (T j).2.2.2 = false ∧ parseFieldDescriptor (T j).2.2.1 = some ty
theorem a_getI {k : KT} {c0 s0 pc : Nat} {L : List (Nat × Value)} {S : List Value} {I : IT} {J : JT} {o j ci idx : Nat} {fs : List (Option Nat)} (hf : FL (kO k) idx ci j) (hs : shL[o]? = some (.inr (ci, fs))) (hj : fs[j]? = some none) (hd : decode (kC k) pc = .ok (.getfield idx, 3)) (h : AW k c0 s0 (pc + 3) L (.int (I o j) :: S) (cW k.1 I J)) : AW k c0 s0 pc L (.ref (ga k.1 o) :: S) (cW k.1 I J) := by
  obtain ⟨CC, T, N, h1, h2, h3, h4⟩ := hf
  intro p e s m args below meth c C ls H locs hl hP hD hS
  exact va_get (C := CC) (T := T) (N := N) C.1 C.2.1 C.2.2.2.2.2.2.1 h2 C.2.2.2.2.1 C.2.2.2.2.2.2.2.1 hP o (WL_at (cw_at hs)) h1 j h3 (C.2.2.2.2.2.2.1 _ h4) (fun _ h9 => h9) (v := .int (I o j)) (by rw [List.getElem?_mapIdx, hj]; rfl) hd (h p e s m args below meth c C ls H locs hl hP hD hS)
theorem a_getR {k : KT} {c0 s0 pc : Nat} {L : List (Nat × Value)} {S : List Value} {I : IT} {J : JT} {o j ci idx r : Nat} {fs : List (Option Nat)} (hf : FL (kO k) idx ci j) (hs : shL[o]? = some (.inr (ci, fs))) (hj : fs[j]? = some (some r)) (hd : decode (kC k) pc = .ok (.getfield idx, 3)) (h : AW k c0 s0 (pc + 3) L (.ref (ga k.1 r) :: S) (cW k.1 I J)) : AW k c0 s0 pc L (.ref (ga k.1 o) :: S) (cW k.1 I J) := by
  obtain ⟨CC, T, N, h1, h2, h3, h4⟩ := hf
  intro p e s m args below meth c C ls H locs hl hP hD hS
  exact va_get (C := CC) (T := T) (N := N) C.1 C.2.1 C.2.2.2.2.2.2.1 h2 C.2.2.2.2.1 C.2.2.2.2.2.2.2.1 hP o (WL_at (cw_at hs)) h1 j h3 (C.2.2.2.2.2.2.1 _ h4) (fun _ h9 => h9) (v := .ref (ga k.1 r)) (by rw [List.getElem?_mapIdx, hj]; rfl) hd (h p e s m args below meth c C ls H locs hl hP hD hS)
theorem a_putI {k : KT} {c0 s0 pc : Nat} {L : List (Nat × Value)} {S : List Value} {I : IT} {J : JT} {o j ci idx : Nat} {fs : List (Option Nat)} {ty : FieldType} {v : Int32} (hf : FP (kO k) idx ci j ty) (hs : shL[o]? = some (.inr (ci, fs))) (hj : fs[j]? = some none) (hn : narrow ty (.int v) = .int v) (hfit : fits ty (.int v) = true) (hd : decode (kC k) pc = .ok (.putfield idx, 3)) (h : AW k c0 s0 (pc + 3) L S (cW k.1 (sI I o j v) J)) : AW k c0 s0 pc L (.int v :: .ref (ga k.1 o) :: S) (cW k.1 I J) := by
  obtain ⟨CC, T, N, ty0, h1, h2, h3, h4, h5, h6, h7, h8⟩ := hf
  intro p e s m args below meth c C ls H locs hl hP hD hS
  refine va_put (C := CC) (T := T) (N := N) (D := gD k.1) (A := gF k.1) C.1 C.2.1 C.2.2.2.2.2.2.1 h2 ty0 h5 h6 C.2.2.2.2.1 C.2.2.2.2.2.2.2.1 hP hD hS o (WL_at (cw_at hs)) h1 j h3 (C.2.2.2.2.2.2.1 _ h4) (fun _ h9 => h9) h7 (v := .int v) h8 hn hfit (by rw [List.length_mapIdx]; exact (List.getElem?_eq_some_iff.mp hj).1) hd ?_
  intro H1 locs1 hP1 hD1 hS1
  rw [cW, WL_set, fE_set hj, cw_setI (I' := sI I o j v) hs (fun a ha => sI_ne ha) (by unfold cE; rw [sI_eq])] at hP1 hD1
  exact h p e s m args below meth c C ls H1 locs1 hl hP1 hD1 hS1
end
section
theorem a_iald {k : KT} {c0 s0 pc : Nat} {L : List (Nat × Value)} {S : List Value} {I : IT} {J : JT} {o n : Nat} {rs : List Nat} {i : Int32} (hs : shL[o]? = some (.inl (0, n, rs))) (hin : vp_in i n) (hd : decode (kC k) pc = .ok (.iaload, 1)) (h : AW k c0 s0 (pc + 1) L (.int (I o i.toNatClampNeg) :: S) (cW k.1 I J)) : AW k c0 s0 pc L (.int i :: .ref (ga k.1 o) :: S) (cW k.1 I J) := by
  intro p e s m args below meth c C ls H locs hl hP hD hS
  exact va_iald C.1 C.2.1 C.2.2.2.2.2.2.2.1 hP o 0 (WL_at (cw_at hs)) rfl hin hd (h p e s m args below meth c C ls H locs hl hP hD hS)
theorem a_iast {k : KT} {c0 s0 pc : Nat} {L : List (Nat × Value)} {S : List Value} {I : IT} {J : JT} {o n : Nat} {rs : List Nat} {i : Int32} {x : Int32} (hs : shL[o]? = some (.inl (0, n, rs))) (hin : vp_in i n) (hd : decode (kC k) pc = .ok (.iastore, 1)) (h : AW k c0 s0 (pc + 1) L S (cW k.1 (sI I o i.toNatClampNeg x) J)) : AW k c0 s0 pc L (.int x :: .int i :: .ref (ga k.1 o) :: S) (cW k.1 I J) := by
  intro p e s m args below meth c C ls H locs hl hP hD hS
  refine va_iast C.1 C.2.1 C.2.2.2.2.2.2.2.1 hP hD hS o 0 (WL_at (cw_at hs)) rfl hin hd ?_
  intro H1 locs1 hP1 hD1 hS1
  rw [cW, WL_set, cw_setI (I' := sI I o i.toNatClampNeg x) hs (fun a ha => sI_ne ha) (by unfold cE; rw [sI_eq])] at hP1 hD1
  exact h p e s m args below meth c C ls H1 locs1 hl hP1 hD1 hS1
theorem a_lald {k : KT} {c0 s0 pc : Nat} {L : List (Nat × Value)} {S : List Value} {I : IT} {J : JT} {o n : Nat} {rs : List Nat} {i : Int32} (hs : shL[o]? = some (.inl (1, n, rs))) (hin : vp_in i n) (hd : decode (kC k) pc = .ok (.laload, 1)) (h : AW k c0 s0 (pc + 1) L (.long (J o i.toNatClampNeg) :: S) (cW k.1 I J)) : AW k c0 s0 pc L (.int i :: .ref (ga k.1 o) :: S) (cW k.1 I J) := by
  intro p e s m args below meth c C ls H locs hl hP hD hS
  exact va_lald C.1 C.2.1 C.2.2.2.2.2.2.2.1 hP o 1 (WL_at (cw_at hs)) rfl hin hd (h p e s m args below meth c C ls H locs hl hP hD hS)
theorem a_last {k : KT} {c0 s0 pc : Nat} {L : List (Nat × Value)} {S : List Value} {I : IT} {J : JT} {o n : Nat} {rs : List Nat} {i : Int32} {x : Int64} (hs : shL[o]? = some (.inl (1, n, rs))) (hin : vp_in i n) (hd : decode (kC k) pc = .ok (.lastore, 1)) (h : AW k c0 s0 (pc + 1) L S (cW k.1 I (sJ J o i.toNatClampNeg x))) : AW k c0 s0 pc L (.long x :: .int i :: .ref (ga k.1 o) :: S) (cW k.1 I J) := by
  intro p e s m args below meth c C ls H locs hl hP hD hS
  refine va_last C.1 C.2.1 C.2.2.2.2.2.2.2.1 hP hD hS o 1 (WL_at (cw_at hs)) rfl hin hd ?_
  intro H1 locs1 hP1 hD1 hS1
  rw [cW, WL_set, cw_setJ (J' := sJ J o i.toNatClampNeg x) hs (fun a ha => sJ_ne ha) (by unfold cE; rw [sJ_eq])] at hP1 hD1
  exact h p e s m args below meth c C ls H1 locs1 hl hP1 hD1 hS1
theorem a_alen {k : KT} {c0 s0 pc : Nat} {L : List (Nat × Value)} {S : List Value} {I : IT} {J : JT} {o n t : Nat} {rs : List Nat} (v : Int32) (hs : shL[o]? = some (.inl (t, n, rs))) (ht : t < 5) (hv : Int32.ofNat n = v) (hd : decode (kC k) pc = .ok (.arraylength, 1)) (h : AW k c0 s0 (pc + 1) L (.int v :: S) (cW k.1 I J)) : AW k c0 s0 pc L (.ref (ga k.1 o) :: S) (cW k.1 I J) := by
  intro p e s m args below meth c C ls H locs hl hP hD hS
  have hw := WL_at (b := ga k.1) (cw_at (g := k.1) (I := I) (J := J) hs)
  have ht' : t = 0 ∨ t = 1 ∨ t = 2 ∨ t = 3 ∨ t = 4 := by omega
  rcases ht' with e | e | e | e | e
  · subst e; exact va_alen C.1 C.2.1 C.2.2.2.2.2.2.2.1 hP o 0 hw rfl hv hd (h p e s m args below meth c C ls H locs hl hP hD hS)
  · subst e; exact va_alen C.1 C.2.1 C.2.2.2.2.2.2.2.1 hP o 1 hw rfl hv hd (h p e s m args below meth c C ls H locs hl hP hD hS)
  · subst e; exact va_alen C.1 C.2.1 C.2.2.2.2.2.2.2.1 hP o 2 hw rfl hv hd (h p e s m args below meth c C ls H locs hl hP hD hS)
  · subst e; exact va_alen C.1 C.2.1 C.2.2.2.2.2.2.2.1 hP o 3 hw rfl hv hd (h p e s m args below meth c C ls H locs hl hP hD hS)
  · subst e; exact va_alen C.1 C.2.1 C.2.2.2.2.2.2.2.1 hP o 4 hw rfl hv hd (h p e s m args below meth c C ls H locs hl hP hD hS)
theorem a_aald {k : KT} {c0 s0 pc : Nat} {L : List (Nat × Value)} {S : List Value} {I : IT} {J : JT} {o n t r : Nat} {rs : List Nat} {i : Int32} (hs : shL[o]? = some (.inl (t + 2, n, rs))) (ht : t < 3) (hin : vp_in i n) (hr : rs[i.toNatClampNeg]? = some r) (hd : decode (kC k) pc = .ok (.aaload, 1)) (h : AW k c0 s0 (pc + 1) L (.ref (ga k.1 r) :: S) (cW k.1 I J)) : AW k c0 s0 pc L (.int i :: .ref (ga k.1 o) :: S) (cW k.1 I J) := by
  intro p e s m args below meth c C ls H locs hl hP hD hS
  have hw := WL_at (b := ga k.1) (cw_at (g := k.1) (I := I) (J := J) hs)
  have hv : va_rf ((rs[i.toNatClampNeg]?).map (fun r => ga k.1 r)) = .ref (ga k.1 r) := by rw [hr]; rfl
  have h' := (h p e s m args below meth c C ls H locs hl hP hD hS)
  rw [← hv] at h'
  have ht' : t = 0 ∨ t = 1 ∨ t = 2 := by omega
  rcases ht' with e | e | e
  · subst e; exact va_aldq C.1 C.2.1 C.2.2.2.2.2.2.2.1 hP o 2 hw rfl hin hd h'
  · subst e; exact va_aldq C.1 C.2.1 C.2.2.2.2.2.2.2.1 hP o 3 hw rfl hin hd h'
  · subst e; exact va_aldq C.1 C.2.1 C.2.2.2.2.2.2.2.1 hP o 4 hw rfl hin hd h'
theorem ac_nat : Cond.native arraycopyName ∈ gtbl := List.mem_filter.mpr ⟨List.mem_append_right _ (by decide +kernel), rfl⟩
theorem ac_sta : Cond.static arraycopyName ∈ gtbl := List.mem_filter.mpr ⟨List.mem_append_right _ (by decide +kernel), rfl⟩
theorem ac_ini : Cond.initialized "java/lang/System" ∈ gtbl := List.mem_filter.mpr ⟨List.mem_append_right _ (by decide +kernel), rfl⟩
theorem cI_ne {I : IT} {a b sp dp n x : Nat} (h : x ≠ b) : cI I a b sp dp n x = I x := by unfold cI; rw [if_neg h]
theorem cI_eq {I : IT} {a b sp dp n : Nat} : cI I a b sp dp n b = va_cpy (I a) (I b) sp dp n := by unfold cI; rw [if_pos rfl]
theorem a_copyI {k : KT} {c0 s0 pc : Nat} {L : List (Nat × Value)} {S : List Value} {I : IT} {J : JT} {a b na nb idx : Nat} {ra rb : List Nat} {sp dp n : Int32} (hl0 : Cond.methodLink (kO k) idx arraycopyName ∈ gtbl) (ha : shL[a]? = some (.inl (0, na, ra))) (hb : shL[b]? = some (.inl (0, nb, rb))) (h1 : ¬ sp < 0) (h2 : ¬ dp < 0) (h3 : ¬ n < 0) (h4 : sp.toNatClampNeg + n.toNatClampNeg ≤ na) (h5 : dp.toNatClampNeg + n.toNatClampNeg ≤ nb)
    (hR : 1 ≤ k.2.1.frames ∧ (S.map fun v => v.category).sum + 40 ≤ k.2.1.locals) (hd : decode (kC k) pc = .ok (.invokestatic idx, 3)) (h : AW k c0 s0 (pc + 3) L S (cW k.1 (cI I a b sp.toNatClampNeg dp.toNatClampNeg n.toNatClampNeg) J)) : AW k c0 s0 pc L (.int n :: .int dp :: .ref (ga k.1 b) :: .int sp :: .ref (ga k.1 a) :: S) (cW k.1 I J) := by
  intro p e s m args below meth c C ls H locs hl hP hD hS
  have hnf : nativeFrameWords "java/lang/System" "arraycopy" 5 + 11 ≤ 40 := by decide +kernel
  refine va_copyi C.1 C.2.1 (C.2.2.2.1.trans hl.1.symm) C.2.2.2.2.1 (C.2.2.2.2.2.2.1 _ hl0) (C.2.2.2.2.2.2.1 _ ac_nat) (C.2.2.2.2.2.2.1 _ ac_sta) (C.2.2.2.2.2.2.1 _ ac_ini) C.2.2.2.2.2.2.2.1 hP hD hS a b 0 0 (WL_at (cw_at ha)) (WL_at (cw_at hb)) rfl rfl (ty := .int) rfl h1 h2 h3 h4 h5 (fun _ _ => rfl) hR.1 (by omega) hd ?_
  intro H1 locs1 hP1 hD1 hS1
  rw [cW, WL_set, cw_setI (I' := cI I a b sp.toNatClampNeg dp.toNatClampNeg n.toNatClampNeg) hb (fun x hx => cI_ne hx) (by unfold cE; rw [cI_eq])] at hP1 hD1
  exact h p e s m args below meth c C ls H1 locs1 hl hP1 hD1 hS1
theorem cJ_ne {J : JT} {a b sp dp n x : Nat} (h : x ≠ b) : cJ J a b sp dp n x = J x := by unfold cJ; rw [if_neg h]
theorem cJ_eq {J : JT} {a b sp dp n : Nat} : cJ J a b sp dp n b = va_cpy (J a) (J b) sp dp n := by unfold cJ; rw [if_pos rfl]
theorem a_copyJ {k : KT} {c0 s0 pc : Nat} {L : List (Nat × Value)} {S : List Value} {I : IT} {J : JT} {a b na nb idx : Nat} {ra rb : List Nat} {sp dp n : Int32} (hl0 : Cond.methodLink (kO k) idx arraycopyName ∈ gtbl) (ha : shL[a]? = some (.inl (1, na, ra))) (hb : shL[b]? = some (.inl (1, nb, rb))) (h1 : ¬ sp < 0) (h2 : ¬ dp < 0) (h3 : ¬ n < 0) (h4 : sp.toNatClampNeg + n.toNatClampNeg ≤ na) (h5 : dp.toNatClampNeg + n.toNatClampNeg ≤ nb)
    (hR : 1 ≤ k.2.1.frames ∧ (S.map fun v => v.category).sum + 40 ≤ k.2.1.locals) (hd : decode (kC k) pc = .ok (.invokestatic idx, 3)) (h : AW k c0 s0 (pc + 3) L S (cW k.1 I (cJ J a b sp.toNatClampNeg dp.toNatClampNeg n.toNatClampNeg))) : AW k c0 s0 pc L (.int n :: .int dp :: .ref (ga k.1 b) :: .int sp :: .ref (ga k.1 a) :: S) (cW k.1 I J) := by
  intro p e s m args below meth c C ls H locs hl hP hD hS
  have hnf : nativeFrameWords "java/lang/System" "arraycopy" 5 + 11 ≤ 40 := by decide +kernel
  refine va_copyl C.1 C.2.1 (C.2.2.2.1.trans hl.1.symm) C.2.2.2.2.1 (C.2.2.2.2.2.2.1 _ hl0) (C.2.2.2.2.2.2.1 _ ac_nat) (C.2.2.2.2.2.2.1 _ ac_sta) (C.2.2.2.2.2.2.1 _ ac_ini) C.2.2.2.2.2.2.2.1 hP hD hS a b 1 1 (WL_at (cw_at ha)) (WL_at (cw_at hb)) rfl rfl (ty := .long) rfl h1 h2 h3 h4 h5 (fun _ _ => rfl) hR.1 (by omega) hd ?_
  intro H1 locs1 hP1 hD1 hS1
  rw [cW, WL_set, cw_setJ (J' := cJ J a b sp.toNatClampNeg dp.toNatClampNeg n.toNatClampNeg) hb (fun x hx => cJ_ne hx) (by unfold cE; rw [cJ_eq])] at hP1 hD1
  exact h p e s m args below meth c C ls H1 locs1 hl hP1 hD1 hS1
theorem a_OVER {k : KT} {c0 s0 pc : Nat} {L : List (Nat × Value)} {S : List Value} {I : IT} {J : JT} {idx : Nat} (hw : Cond.fieldLink (kO k) idx "FigureHeads" "OVER" "[I" ∈ gtbl) (hd : decode (kC k) pc = .ok (.getstatic idx, 3)) (h : AW k c0 s0 (pc + 3) L (.ref (gR k.1 0) :: S) (cW k.1 I J)) : AW k c0 s0 pc L S (cW k.1 I J) := by
  intro p e s m args below meth c C ls H locs hl hP hD hS
  exact va_gets (A := gF k.1) C.1 C.2.1 C.2.2.2.2.2.2.2.2.1.1.1 hS C.2.2.2.2.1 (C.2.2.2.2.2.2.1 _ hw) (fun _ h9 => h9) hd (h p e s m args below meth c C ls H locs hl hP hD hS)
theorem a_ROW {k : KT} {c0 s0 pc : Nat} {L : List (Nat × Value)} {S : List Value} {I : IT} {J : JT} {idx : Nat} (hw : Cond.fieldLinkNest (kO k) idx "FigureHeads" "ROW_STEP" "[I" "FigureHeads" ∈ nestW) (hd : decode (kC k) pc = .ok (.getstatic idx, 3)) (h : AW k c0 s0 (pc + 3) L (.ref (gR k.1 1) :: S) (cW k.1 I J)) : AW k c0 s0 pc L S (cW k.1 I J) := by
  intro p e s m args below meth c C ls H locs hl hP hD hS
  exact va_getsN (A := gF k.1) C.1 C.2.1 C.2.2.2.2.2.2.2.2.1.2.1.1 hS C.2.2.2.2.1 (va_Nw.use rfl (C.2.2.2.2.2.2.2.2.1.2.2.2.2.2.2 _ hw)) (fun _ h9 => h9) hd (h p e s m args below meth c C ls H locs hl hP hD hS)
theorem a_COL {k : KT} {c0 s0 pc : Nat} {L : List (Nat × Value)} {S : List Value} {I : IT} {J : JT} {idx : Nat} (hw : Cond.fieldLinkNest (kO k) idx "FigureHeads" "COLUMN_STEP" "[I" "FigureHeads" ∈ nestW) (hd : decode (kC k) pc = .ok (.getstatic idx, 3)) (h : AW k c0 s0 (pc + 3) L (.ref (gR k.1 2) :: S) (cW k.1 I J)) : AW k c0 s0 pc L S (cW k.1 I J) := by
  intro p e s m args below meth c C ls H locs hl hP hD hS
  exact va_getsN (A := gF k.1) C.1 C.2.1 C.2.2.2.2.2.2.2.2.1.2.2.1.1 hS C.2.2.2.2.1 (va_Nw.use rfl (C.2.2.2.2.2.2.2.2.1.2.2.2.2.2.2 _ hw)) (fun _ h9 => h9) hd (h p e s m args below meth c C ls H locs hl hP hD hS)
theorem a_OVERld {k : KT} {c0 s0 pc : Nat} {L : List (Nat × Value)} {S : List Value} {I : IT} {J : JT} {i : Int32} (hin : vp_in i 6) (hd : decode (kC k) pc = .ok (.iaload, 1)) (h : AW k c0 s0 (pc + 1) L (.int (ovr i.toNatClampNeg) :: S) (cW k.1 I J)) : AW k c0 s0 pc L (.int i :: .ref (gR k.1 0) :: S) (cW k.1 I J) := by
  intro p e s m args below meth c C ls H locs hl hP hD hS
  exact va_ti (A := gF k.1) C.1 C.2.1 C.2.2.2.2.2.2.2.2.1.1.2 hS hin rfl hd (h p e s m args below meth c C ls H locs hl hP hD hS)
theorem a_ROWld {k : KT} {c0 s0 pc : Nat} {L : List (Nat × Value)} {S : List Value} {I : IT} {J : JT} {i : Int32} (hin : vp_in i 4) (hd : decode (kC k) pc = .ok (.iaload, 1)) (h : AW k c0 s0 (pc + 1) L (.int (rst i.toNatClampNeg) :: S) (cW k.1 I J)) : AW k c0 s0 pc L (.int i :: .ref (gR k.1 1) :: S) (cW k.1 I J) := by
  intro p e s m args below meth c C ls H locs hl hP hD hS
  exact va_ti (A := gF k.1) C.1 C.2.1 C.2.2.2.2.2.2.2.2.1.2.1.2 hS hin rfl hd (h p e s m args below meth c C ls H locs hl hP hD hS)
theorem a_COLld {k : KT} {c0 s0 pc : Nat} {L : List (Nat × Value)} {S : List Value} {I : IT} {J : JT} {i : Int32} (hin : vp_in i 4) (hd : decode (kC k) pc = .ok (.iaload, 1)) (h : AW k c0 s0 (pc + 1) L (.int (cst i.toNatClampNeg) :: S) (cW k.1 I J)) : AW k c0 s0 pc L (.int i :: .ref (gR k.1 2) :: S) (cW k.1 I J) := by
  intro p e s m args below meth c C ls H locs hl hP hD hS
  exact va_ti (A := gF k.1) C.1 C.2.1 C.2.2.2.2.2.2.2.2.1.2.2.1.2 hS hin rfl hd (h p e s m args below meth c C ls H locs hl hP hD hS)
def bI (b : Bool) : Int32 := if b then 1 else 0
def qI (g : GT) (P : Int32 → IT → JT → Prop) : Option Value → va_W → Prop := fun v ws => ∃ (r : Int32) (I : IT) (J : JT), v = some (.int r) ∧ ws = cW g I J ∧ P r I J
def SemI (g : GT) (d : Nat) (M : MT) (args : List Value) (I : IT) (J : JT) (P : Int32 → IT → JT → Prop) : Prop := Sem g d M 0 0 args (cW g I J) (qI g P)
def qZ (g : GT) (P : Bool → IT → JT → Prop) : Option Value → va_W → Prop := fun v ws => ∃ (r : Bool) (I : IT) (J : JT), v = some (.int (bI r)) ∧ ws = cW g I J ∧ P r I J
def SemZ (g : GT) (d : Nat) (M : MT) (args : List Value) (I : IT) (J : JT) (P : Bool → IT → JT → Prop) : Prop := Sem g d M 0 0 args (cW g I J) (qZ g P)
def qL (g : GT) (P : Int64 → IT → JT → Prop) : Option Value → va_W → Prop := fun v ws => ∃ (r : Int64) (I : IT) (J : JT), v = some (.long r) ∧ ws = cW g I J ∧ P r I J
def SemL (g : GT) (d : Nat) (M : MT) (args : List Value) (I : IT) (J : JT) (P : Int64 → IT → JT → Prop) : Prop := Sem g d M 0 0 args (cW g I J) (qL g P)
def qR (g : GT) (P : Nat → IT → JT → Prop) : Option Value → va_W → Prop := fun v ws => ∃ (r : Nat) (I : IT) (J : JT), v = some (.ref (ga g r)) ∧ ws = cW g I J ∧ P r I J
def SemR (g : GT) (d : Nat) (M : MT) (args : List Value) (I : IT) (J : JT) (P : Nat → IT → JT → Prop) : Prop := Sem g d M 0 0 args (cW g I J) (qR g P)
def qV (g : GT) (P : IT → JT → Prop) : Option Value → va_W → Prop := fun v ws => ∃ (I : IT) (J : JT), v = none ∧ ws = cW g I J ∧ P I J
def SemV (g : GT) (d : Nat) (M : MT) (args : List Value) (I : IT) (J : JT) (P : IT → JT → Prop) : Prop := Sem g d M 0 0 args (cW g I J) (qV g P)
theorem a_iret {g : GT} {d pc : Nat} {M : MT} {L : List (Nat × Value)} {I : IT} {J : JT} {x : Int32} {P : Int32 → IT → JT → Prop} (hr : M.2.2.2.1 = some .int) (hd : decode M.2.1 pc = .ok (.ireturn, 1)) (h : P x I J) : AW (kM g d M 0 0 (qI g P)) 0 0 pc L [.int x] (cW g I J) := by
  intro p e s m args below meth c C ls H locs hl hP hD hS
  exact W.iret C.1 C.2.1 (C.2.2.1.trans hr) (fun t ht hW => ⟨_, _, rfl, ⟨x, I, J, rfl, rfl, h⟩, by rw [ht]; exact hP, hD, hS.F ht⟩) hS.2.2 hd C.2.2.2.2.2.1
theorem a_zret {g : GT} {d pc : Nat} {M : MT} {L : List (Nat × Value)} {I : IT} {J : JT} (x : Int32) (b : Bool) (hb : x = bI b) {P : Bool → IT → JT → Prop} (hr : M.2.2.2.1 = some .boolean) (hd : decode M.2.1 pc = .ok (.ireturn, 1)) (h : P b I J) : AW (kM g d M 0 0 (qZ g P)) 0 0 pc L [.int x] (cW g I J) := by
  subst hb
  intro p e s m args below meth c C ls H locs hl hP hD hS
  exact W.zret C.1 C.2.1 (C.2.2.1.trans hr) (by cases b <;> rfl) (fun t ht hW => ⟨_, _, rfl, ⟨b, I, J, rfl, rfl, h⟩, by rw [ht]; exact hP, hD, hS.F ht⟩) hS.2.2 hd C.2.2.2.2.2.1
theorem a_lret {g : GT} {d pc : Nat} {M : MT} {L : List (Nat × Value)} {I : IT} {J : JT} {x : Int64} {P : Int64 → IT → JT → Prop} (hr : M.2.2.2.1 = some .long) (hd : decode M.2.1 pc = .ok (.lreturn, 1)) (h : P x I J) : AW (kM g d M 0 0 (qL g P)) 0 0 pc L [.long x] (cW g I J) := by
  intro p e s m args below meth c C ls H locs hl hP hD hS
  exact W.lret C.1 C.2.1 (C.2.2.1.trans hr) (fun t ht hW => ⟨_, _, rfl, ⟨x, I, J, rfl, rfl, h⟩, by rw [ht]; exact hP, hD, hS.F ht⟩) hS.2.2 hd C.2.2.2.2.2.1
theorem a_aret {g : GT} {d pc : Nat} {M : MT} {L : List (Nat × Value)} {I : IT} {J : JT} {x : Nat} {cn : String} {P : Nat → IT → JT → Prop} (hr : M.2.2.2.1 = some (.object cn)) (hd : decode M.2.1 pc = .ok (.areturn, 1)) (h : P x I J) : AW (kM g d M 0 0 (qR g P)) 0 0 pc L [.ref (ga g x)] (cW g I J) := by
  intro p e s m args below meth c C ls H locs hl hP hD hS
  exact W.aret C.1 C.2.1 (C.2.2.1.trans hr) (Or.inl ⟨cn, rfl⟩) (Or.inr ⟨_, rfl⟩) (fun t ht hW => ⟨_, _, rfl, ⟨x, I, J, rfl, rfl, h⟩, by rw [ht]; exact hP, hD, hS.F ht⟩) hS.2.2 hd C.2.2.2.2.2.1
theorem a_vret {g : GT} {d pc : Nat} {M : MT} {L : List (Nat × Value)} {I : IT} {J : JT} {P : IT → JT → Prop} (hr : M.2.2.2.1 = none) (hd : decode M.2.1 pc = .ok (.return_, 1)) (h : P I J) : AW (kM g d M 0 0 (qV g P)) 0 0 pc L [] (cW g I J) := by
  intro p e s m args below meth c C ls H locs hl hP hD hS
  exact W.vret C.1 C.2.1 (C.2.2.1.trans hr) (fun t ht hW => ⟨_, _, rfl, ⟨I, J, rfl, rfl, h⟩, by rw [ht]; exact hP, hD, hS.F ht⟩) hS.2.2 hd C.2.2.2.2.2.1
theorem rok {d d' mL mc ms : Nat} (h : d' + 1 ≤ d) (hm : mL ≤ 41) : rOK (rmD d mc ms) d' mL := ⟨h, by show _ ≤ 60 * d; omega⟩
theorem rok1 {d mc ms : Nat} (h : 1 ≤ d) : 1 ≤ (rmD d mc ms).frames ∧ (([] : List Value).map fun v => v.category).sum + 40 ≤ (rmD d mc ms).locals := ⟨h, by show 0 + 40 ≤ 60 * d; omega⟩
theorem c_VI {k : KT} {c0 s0 pc idx n d : Nat} {M : MT} {L : List (Nat × Value)} {S As rest : List Value} {I : IT} {J : JT} {P : Int32 → IT → JT → Prop} {ci o : Nat} {fs : List (Option Nat)} {T : u_T} {N : Nat} (hM : SemI k.1 d M (.ref (ga k.1 o) :: As) I J P) (hF : CFV (kO k) idx M n) (hs : shL[o]? = some (.inr (ci, fs))) (hc : clsL[ci]? = some (M.1.cls, T, N)) (hn : As.length = n) (hS : S = As.reverse ++ .ref (ga k.1 o) :: rest) (hw : (rest.map fun v => v.category).sum ≤ 8) (hR : rOK k.2.1 d M.2.2.1) (hf : c0 ≤ k.2.1.cells ∧ s0 ≤ k.2.1.slots) (hd : decode (kC k) pc = .ok (.invokevirtual idx, 3)) (h : ∀ (r : Int32) (I : IT) (J : JT), P r I J → AW k c0 s0 (pc + 3) L (.int r :: rest) (cW k.1 I J)) : AW k c0 s0 pc L S (cW k.1 I J) := by
  refine AW.callV (mc := 0) (ms := 0) (o := ga k.1 o) hM hF o (WL_at (cw_at hs)) hc hn hS hw hR hf hd (fun v es' hp => ?_)
  obtain ⟨r, I1, J1, e1, e2, hp⟩ := hp
  rw [e1, e2]
  exact h r I1 J1 hp
theorem c_SI {k : KT} {c0 s0 pc idx n d : Nat} {M : MT} {L : List (Nat × Value)} {S As rest : List Value} {I : IT} {J : JT} {P : Int32 → IT → JT → Prop} (hM : SemI k.1 d M As I J P) (hF : CFS (kO k) idx M n) (hn : As.length = n) (hS : S = As.reverse ++ rest) (hw : (rest.map fun v => v.category).sum ≤ 8) (hR : rOK k.2.1 d M.2.2.1) (hf : c0 ≤ k.2.1.cells ∧ s0 ≤ k.2.1.slots) (hd : decode (kC k) pc = .ok (.invokestatic idx, 3)) (h : ∀ (r : Int32) (I : IT) (J : JT), P r I J → AW k c0 s0 (pc + 3) L (.int r :: rest) (cW k.1 I J)) : AW k c0 s0 pc L S (cW k.1 I J) := by
  refine AW.callS (mc := 0) (ms := 0) hM hF hn hS hw hR hf hd (fun v es' hp => ?_)
  obtain ⟨r, I1, J1, e1, e2, hp⟩ := hp
  rw [e1, e2]
  exact h r I1 J1 hp
theorem c_NI {k : KT} {c0 s0 pc idx n d : Nat} {M : MT} {L : List (Nat × Value)} {S As rest : List Value} {I : IT} {J : JT} {P : Int32 → IT → JT → Prop} (hM : SemI k.1 d M As I J P) (hF : CFSN (kO k) idx M n) (hn : As.length = n) (hS : S = As.reverse ++ rest) (hw : (rest.map fun v => v.category).sum ≤ 8) (hR : rOK k.2.1 d M.2.2.1) (hf : c0 ≤ k.2.1.cells ∧ s0 ≤ k.2.1.slots) (hd : decode (kC k) pc = .ok (.invokestatic idx, 3)) (h : ∀ (r : Int32) (I : IT) (J : JT), P r I J → AW k c0 s0 (pc + 3) L (.int r :: rest) (cW k.1 I J)) : AW k c0 s0 pc L S (cW k.1 I J) := by
  refine AW.callSN (mc := 0) (ms := 0) hM hF hn hS hw hR hf hd (fun v es' hp => ?_)
  obtain ⟨r, I1, J1, e1, e2, hp⟩ := hp
  rw [e1, e2]
  exact h r I1 J1 hp
theorem c_VZ {k : KT} {c0 s0 pc idx n d : Nat} {M : MT} {L : List (Nat × Value)} {S As rest : List Value} {I : IT} {J : JT} {P : Bool → IT → JT → Prop} {ci o : Nat} {fs : List (Option Nat)} {T : u_T} {N : Nat} (hM : SemZ k.1 d M (.ref (ga k.1 o) :: As) I J P) (hF : CFV (kO k) idx M n) (hs : shL[o]? = some (.inr (ci, fs))) (hc : clsL[ci]? = some (M.1.cls, T, N)) (hn : As.length = n) (hS : S = As.reverse ++ .ref (ga k.1 o) :: rest) (hw : (rest.map fun v => v.category).sum ≤ 8) (hR : rOK k.2.1 d M.2.2.1) (hf : c0 ≤ k.2.1.cells ∧ s0 ≤ k.2.1.slots) (hd : decode (kC k) pc = .ok (.invokevirtual idx, 3)) (h : ∀ (r : Bool) (I : IT) (J : JT), P r I J → AW k c0 s0 (pc + 3) L (.int (bI r) :: rest) (cW k.1 I J)) : AW k c0 s0 pc L S (cW k.1 I J) := by
  refine AW.callV (mc := 0) (ms := 0) (o := ga k.1 o) hM hF o (WL_at (cw_at hs)) hc hn hS hw hR hf hd (fun v es' hp => ?_)
  obtain ⟨r, I1, J1, e1, e2, hp⟩ := hp
  rw [e1, e2]
  exact h r I1 J1 hp
theorem c_SZ {k : KT} {c0 s0 pc idx n d : Nat} {M : MT} {L : List (Nat × Value)} {S As rest : List Value} {I : IT} {J : JT} {P : Bool → IT → JT → Prop} (hM : SemZ k.1 d M As I J P) (hF : CFS (kO k) idx M n) (hn : As.length = n) (hS : S = As.reverse ++ rest) (hw : (rest.map fun v => v.category).sum ≤ 8) (hR : rOK k.2.1 d M.2.2.1) (hf : c0 ≤ k.2.1.cells ∧ s0 ≤ k.2.1.slots) (hd : decode (kC k) pc = .ok (.invokestatic idx, 3)) (h : ∀ (r : Bool) (I : IT) (J : JT), P r I J → AW k c0 s0 (pc + 3) L (.int (bI r) :: rest) (cW k.1 I J)) : AW k c0 s0 pc L S (cW k.1 I J) := by
  refine AW.callS (mc := 0) (ms := 0) hM hF hn hS hw hR hf hd (fun v es' hp => ?_)
  obtain ⟨r, I1, J1, e1, e2, hp⟩ := hp
  rw [e1, e2]
  exact h r I1 J1 hp
theorem c_NZ {k : KT} {c0 s0 pc idx n d : Nat} {M : MT} {L : List (Nat × Value)} {S As rest : List Value} {I : IT} {J : JT} {P : Bool → IT → JT → Prop} (hM : SemZ k.1 d M As I J P) (hF : CFSN (kO k) idx M n) (hn : As.length = n) (hS : S = As.reverse ++ rest) (hw : (rest.map fun v => v.category).sum ≤ 8) (hR : rOK k.2.1 d M.2.2.1) (hf : c0 ≤ k.2.1.cells ∧ s0 ≤ k.2.1.slots) (hd : decode (kC k) pc = .ok (.invokestatic idx, 3)) (h : ∀ (r : Bool) (I : IT) (J : JT), P r I J → AW k c0 s0 (pc + 3) L (.int (bI r) :: rest) (cW k.1 I J)) : AW k c0 s0 pc L S (cW k.1 I J) := by
  refine AW.callSN (mc := 0) (ms := 0) hM hF hn hS hw hR hf hd (fun v es' hp => ?_)
  obtain ⟨r, I1, J1, e1, e2, hp⟩ := hp
  rw [e1, e2]
  exact h r I1 J1 hp
theorem c_VL {k : KT} {c0 s0 pc idx n d : Nat} {M : MT} {L : List (Nat × Value)} {S As rest : List Value} {I : IT} {J : JT} {P : Int64 → IT → JT → Prop} {ci o : Nat} {fs : List (Option Nat)} {T : u_T} {N : Nat} (hM : SemL k.1 d M (.ref (ga k.1 o) :: As) I J P) (hF : CFV (kO k) idx M n) (hs : shL[o]? = some (.inr (ci, fs))) (hc : clsL[ci]? = some (M.1.cls, T, N)) (hn : As.length = n) (hS : S = As.reverse ++ .ref (ga k.1 o) :: rest) (hw : (rest.map fun v => v.category).sum ≤ 8) (hR : rOK k.2.1 d M.2.2.1) (hf : c0 ≤ k.2.1.cells ∧ s0 ≤ k.2.1.slots) (hd : decode (kC k) pc = .ok (.invokevirtual idx, 3)) (h : ∀ (r : Int64) (I : IT) (J : JT), P r I J → AW k c0 s0 (pc + 3) L (.long r :: rest) (cW k.1 I J)) : AW k c0 s0 pc L S (cW k.1 I J) := by
  refine AW.callV (mc := 0) (ms := 0) (o := ga k.1 o) hM hF o (WL_at (cw_at hs)) hc hn hS hw hR hf hd (fun v es' hp => ?_)
  obtain ⟨r, I1, J1, e1, e2, hp⟩ := hp
  rw [e1, e2]
  exact h r I1 J1 hp
theorem c_SL {k : KT} {c0 s0 pc idx n d : Nat} {M : MT} {L : List (Nat × Value)} {S As rest : List Value} {I : IT} {J : JT} {P : Int64 → IT → JT → Prop} (hM : SemL k.1 d M As I J P) (hF : CFS (kO k) idx M n) (hn : As.length = n) (hS : S = As.reverse ++ rest) (hw : (rest.map fun v => v.category).sum ≤ 8) (hR : rOK k.2.1 d M.2.2.1) (hf : c0 ≤ k.2.1.cells ∧ s0 ≤ k.2.1.slots) (hd : decode (kC k) pc = .ok (.invokestatic idx, 3)) (h : ∀ (r : Int64) (I : IT) (J : JT), P r I J → AW k c0 s0 (pc + 3) L (.long r :: rest) (cW k.1 I J)) : AW k c0 s0 pc L S (cW k.1 I J) := by
  refine AW.callS (mc := 0) (ms := 0) hM hF hn hS hw hR hf hd (fun v es' hp => ?_)
  obtain ⟨r, I1, J1, e1, e2, hp⟩ := hp
  rw [e1, e2]
  exact h r I1 J1 hp
theorem c_NL {k : KT} {c0 s0 pc idx n d : Nat} {M : MT} {L : List (Nat × Value)} {S As rest : List Value} {I : IT} {J : JT} {P : Int64 → IT → JT → Prop} (hM : SemL k.1 d M As I J P) (hF : CFSN (kO k) idx M n) (hn : As.length = n) (hS : S = As.reverse ++ rest) (hw : (rest.map fun v => v.category).sum ≤ 8) (hR : rOK k.2.1 d M.2.2.1) (hf : c0 ≤ k.2.1.cells ∧ s0 ≤ k.2.1.slots) (hd : decode (kC k) pc = .ok (.invokestatic idx, 3)) (h : ∀ (r : Int64) (I : IT) (J : JT), P r I J → AW k c0 s0 (pc + 3) L (.long r :: rest) (cW k.1 I J)) : AW k c0 s0 pc L S (cW k.1 I J) := by
  refine AW.callSN (mc := 0) (ms := 0) hM hF hn hS hw hR hf hd (fun v es' hp => ?_)
  obtain ⟨r, I1, J1, e1, e2, hp⟩ := hp
  rw [e1, e2]
  exact h r I1 J1 hp
theorem c_VR {k : KT} {c0 s0 pc idx n d : Nat} {M : MT} {L : List (Nat × Value)} {S As rest : List Value} {I : IT} {J : JT} {P : Nat → IT → JT → Prop} {ci o : Nat} {fs : List (Option Nat)} {T : u_T} {N : Nat} (hM : SemR k.1 d M (.ref (ga k.1 o) :: As) I J P) (hF : CFV (kO k) idx M n) (hs : shL[o]? = some (.inr (ci, fs))) (hc : clsL[ci]? = some (M.1.cls, T, N)) (hn : As.length = n) (hS : S = As.reverse ++ .ref (ga k.1 o) :: rest) (hw : (rest.map fun v => v.category).sum ≤ 8) (hR : rOK k.2.1 d M.2.2.1) (hf : c0 ≤ k.2.1.cells ∧ s0 ≤ k.2.1.slots) (hd : decode (kC k) pc = .ok (.invokevirtual idx, 3)) (h : ∀ (r : Nat) (I : IT) (J : JT), P r I J → AW k c0 s0 (pc + 3) L (.ref (ga k.1 r) :: rest) (cW k.1 I J)) : AW k c0 s0 pc L S (cW k.1 I J) := by
  refine AW.callV (mc := 0) (ms := 0) (o := ga k.1 o) hM hF o (WL_at (cw_at hs)) hc hn hS hw hR hf hd (fun v es' hp => ?_)
  obtain ⟨r, I1, J1, e1, e2, hp⟩ := hp
  rw [e1, e2]
  exact h r I1 J1 hp
theorem c_SR {k : KT} {c0 s0 pc idx n d : Nat} {M : MT} {L : List (Nat × Value)} {S As rest : List Value} {I : IT} {J : JT} {P : Nat → IT → JT → Prop} (hM : SemR k.1 d M As I J P) (hF : CFS (kO k) idx M n) (hn : As.length = n) (hS : S = As.reverse ++ rest) (hw : (rest.map fun v => v.category).sum ≤ 8) (hR : rOK k.2.1 d M.2.2.1) (hf : c0 ≤ k.2.1.cells ∧ s0 ≤ k.2.1.slots) (hd : decode (kC k) pc = .ok (.invokestatic idx, 3)) (h : ∀ (r : Nat) (I : IT) (J : JT), P r I J → AW k c0 s0 (pc + 3) L (.ref (ga k.1 r) :: rest) (cW k.1 I J)) : AW k c0 s0 pc L S (cW k.1 I J) := by
  refine AW.callS (mc := 0) (ms := 0) hM hF hn hS hw hR hf hd (fun v es' hp => ?_)
  obtain ⟨r, I1, J1, e1, e2, hp⟩ := hp
  rw [e1, e2]
  exact h r I1 J1 hp
theorem c_NR {k : KT} {c0 s0 pc idx n d : Nat} {M : MT} {L : List (Nat × Value)} {S As rest : List Value} {I : IT} {J : JT} {P : Nat → IT → JT → Prop} (hM : SemR k.1 d M As I J P) (hF : CFSN (kO k) idx M n) (hn : As.length = n) (hS : S = As.reverse ++ rest) (hw : (rest.map fun v => v.category).sum ≤ 8) (hR : rOK k.2.1 d M.2.2.1) (hf : c0 ≤ k.2.1.cells ∧ s0 ≤ k.2.1.slots) (hd : decode (kC k) pc = .ok (.invokestatic idx, 3)) (h : ∀ (r : Nat) (I : IT) (J : JT), P r I J → AW k c0 s0 (pc + 3) L (.ref (ga k.1 r) :: rest) (cW k.1 I J)) : AW k c0 s0 pc L S (cW k.1 I J) := by
  refine AW.callSN (mc := 0) (ms := 0) hM hF hn hS hw hR hf hd (fun v es' hp => ?_)
  obtain ⟨r, I1, J1, e1, e2, hp⟩ := hp
  rw [e1, e2]
  exact h r I1 J1 hp
theorem c_VV {k : KT} {c0 s0 pc idx n d : Nat} {M : MT} {L : List (Nat × Value)} {S As rest : List Value} {I : IT} {J : JT} {P : IT → JT → Prop} {ci o : Nat} {fs : List (Option Nat)} {T : u_T} {N : Nat} (hM : SemV k.1 d M (.ref (ga k.1 o) :: As) I J P) (hF : CFV (kO k) idx M n) (hs : shL[o]? = some (.inr (ci, fs))) (hc : clsL[ci]? = some (M.1.cls, T, N)) (hn : As.length = n) (hS : S = As.reverse ++ .ref (ga k.1 o) :: rest) (hw : (rest.map fun v => v.category).sum ≤ 8) (hR : rOK k.2.1 d M.2.2.1) (hf : c0 ≤ k.2.1.cells ∧ s0 ≤ k.2.1.slots) (hd : decode (kC k) pc = .ok (.invokevirtual idx, 3)) (h : ∀ (I : IT) (J : JT), P I J → AW k c0 s0 (pc + 3) L rest (cW k.1 I J)) : AW k c0 s0 pc L S (cW k.1 I J) := by
  refine AW.callV (mc := 0) (ms := 0) (o := ga k.1 o) hM hF o (WL_at (cw_at hs)) hc hn hS hw hR hf hd (fun v es' hp => ?_)
  obtain ⟨I1, J1, e1, e2, hp⟩ := hp
  rw [e1, e2]
  exact h I1 J1 hp
theorem c_SV {k : KT} {c0 s0 pc idx n d : Nat} {M : MT} {L : List (Nat × Value)} {S As rest : List Value} {I : IT} {J : JT} {P : IT → JT → Prop} (hM : SemV k.1 d M As I J P) (hF : CFS (kO k) idx M n) (hn : As.length = n) (hS : S = As.reverse ++ rest) (hw : (rest.map fun v => v.category).sum ≤ 8) (hR : rOK k.2.1 d M.2.2.1) (hf : c0 ≤ k.2.1.cells ∧ s0 ≤ k.2.1.slots) (hd : decode (kC k) pc = .ok (.invokestatic idx, 3)) (h : ∀ (I : IT) (J : JT), P I J → AW k c0 s0 (pc + 3) L rest (cW k.1 I J)) : AW k c0 s0 pc L S (cW k.1 I J) := by
  refine AW.callS (mc := 0) (ms := 0) hM hF hn hS hw hR hf hd (fun v es' hp => ?_)
  obtain ⟨I1, J1, e1, e2, hp⟩ := hp
  rw [e1, e2]
  exact h I1 J1 hp
theorem c_NV {k : KT} {c0 s0 pc idx n d : Nat} {M : MT} {L : List (Nat × Value)} {S As rest : List Value} {I : IT} {J : JT} {P : IT → JT → Prop} (hM : SemV k.1 d M As I J P) (hF : CFSN (kO k) idx M n) (hn : As.length = n) (hS : S = As.reverse ++ rest) (hw : (rest.map fun v => v.category).sum ≤ 8) (hR : rOK k.2.1 d M.2.2.1) (hf : c0 ≤ k.2.1.cells ∧ s0 ≤ k.2.1.slots) (hd : decode (kC k) pc = .ok (.invokestatic idx, 3)) (h : ∀ (I : IT) (J : JT), P I J → AW k c0 s0 (pc + 3) L rest (cW k.1 I J)) : AW k c0 s0 pc L S (cW k.1 I J) := by
  refine AW.callSN (mc := 0) (ms := 0) hM hF hn hS hw hR hf hd (fun v es' hp => ?_)
  obtain ⟨I1, J1, e1, e2, hp⟩ := hp
  rw [e1, e2]
  exact h I1 J1 hp
theorem bI_0 (b : Bool) : bI b = 0 ↔ b = false := by cases b <;> decide
theorem a_ifz_eq {k : KT} {c0 s0 pc : Nat} {L : List (Nat × Value)} {S : List Value} {es : va_W} {b : Bool} {off : Int} (tgt : Nat) (hd : decode (kC k) pc = .ok (.ifCond .eq off, 3)) (ht : (pc : Int) + off = (tgt : Int)) (h1 : b = false → AW k c0 s0 tgt L S es) (h2 : b = true → AW k c0 s0 (pc + 3) L S es) : AW k c0 s0 pc L (.int (bI b) :: S) es :=
  a_if_eq tgt hd ht (fun q => h1 ((bI_0 b).mp q)) (fun q => h2 (by cases b <;> simp_all [bI]))
theorem a_ifz_ne {k : KT} {c0 s0 pc : Nat} {L : List (Nat × Value)} {S : List Value} {es : va_W} {b : Bool} {off : Int} (tgt : Nat) (hd : decode (kC k) pc = .ok (.ifCond .ne off, 3)) (ht : (pc : Int) + off = (tgt : Int)) (h1 : b = true → AW k c0 s0 tgt L S es) (h2 : b = false → AW k c0 s0 (pc + 3) L S es) : AW k c0 s0 pc L (.int (bI b) :: S) es :=
  a_if_ne tgt hd ht (fun q => h1 (by cases b <;> simp_all [bI])) (fun q => h2 ((bI_0 b).mp q))
theorem lgc_lt (x y : Int64) : lg_cmp x y < 0 ↔ x < y := by
  unfold lg_cmp
  by_cases h1 : x > y
  · rw [if_pos h1]; simp only [gt_iff_lt, Int64.lt_iff_toInt_lt] at h1 ⊢
    constructor
    · intro h; exact absurd h (by decide)
    · intro h; omega
  · rw [if_neg h1]
    by_cases h2 : x = y
    · subst h2; rw [if_pos rfl]; simp only [gt_iff_lt, Int64.lt_iff_toInt_lt]
      constructor
      · intro h; exact absurd h (by decide)
      · intro h; omega
    · rw [if_neg h2]
      constructor
      · intro _
        rw [gt_iff_lt] at h1
        rw [← Int64.toInt_inj] at h2
        rw [Int64.lt_iff_toInt_lt] at h1 ⊢
        omega
      · intro _; decide
theorem lgc_eq (x y : Int64) : lg_cmp x y = 0 ↔ x = y := by
  unfold lg_cmp
  by_cases h1 : x > y
  · rw [if_pos h1]
    constructor
    · intro h; exact absurd h (by decide)
    · intro h; subst h; simp only [gt_iff_lt, Int64.lt_iff_toInt_lt] at h1; omega
  · rw [if_neg h1]
    by_cases h2 : x = y
    · rw [if_pos h2]; exact ⟨fun _ => h2, fun _ => rfl⟩
    · rw [if_neg h2]; exact ⟨fun h => absurd h (by decide), fun h => absurd h h2⟩
theorem lgc_gt (x y : Int64) : 0 < lg_cmp x y ↔ y < x := by
  unfold lg_cmp
  by_cases h1 : x > y
  · rw [if_pos h1]; exact ⟨fun _ => h1, fun _ => by decide⟩
  · rw [if_neg h1]
    by_cases h2 : x = y
    · rw [if_pos h2]; exact ⟨fun h => absurd h (by decide), fun h => absurd h h1⟩
    · rw [if_neg h2]; exact ⟨fun h => absurd h (by decide), fun h => absurd h h1⟩
theorem a_lcmp_lt {k : KT} {c0 s0 pc : Nat} {L : List (Nat × Value)} {S : List Value} {es : va_W} {x y : Int64} {off : Int} (tgt : Nat) (hd : decode (kC k) pc = .ok (.ifCond .lt off, 3)) (ht : (pc : Int) + off = (tgt : Int)) (h1 : x < y → AW k c0 s0 tgt L S es) (h2 : ¬ x < y → AW k c0 s0 (pc + 3) L S es) : AW k c0 s0 pc L (.int (lg_cmp x y) :: S) es :=
  a_if_lt tgt hd ht (fun q => h1 ((lgc_lt x y).mp q)) (fun q => h2 (fun z => q ((lgc_lt x y).mpr z)))
theorem a_lcmp_gt {k : KT} {c0 s0 pc : Nat} {L : List (Nat × Value)} {S : List Value} {es : va_W} {x y : Int64} {off : Int} (tgt : Nat) (hd : decode (kC k) pc = .ok (.ifCond .gt off, 3)) (ht : (pc : Int) + off = (tgt : Int)) (h1 : y < x → AW k c0 s0 tgt L S es) (h2 : ¬ y < x → AW k c0 s0 (pc + 3) L S es) : AW k c0 s0 pc L (.int (lg_cmp x y) :: S) es :=
  a_if_gt tgt hd ht (fun q => h1 ((lgc_gt x y).mp q)) (fun q => h2 (fun z => q ((lgc_gt x y).mpr z)))
theorem a_lcmp_ge {k : KT} {c0 s0 pc : Nat} {L : List (Nat × Value)} {S : List Value} {es : va_W} {x y : Int64} {off : Int} (tgt : Nat) (hd : decode (kC k) pc = .ok (.ifCond .ge off, 3)) (ht : (pc : Int) + off = (tgt : Int)) (h1 : ¬ x < y → AW k c0 s0 tgt L S es) (h2 : x < y → AW k c0 s0 (pc + 3) L S es) : AW k c0 s0 pc L (.int (lg_cmp x y) :: S) es :=
  a_if_ge tgt hd ht (fun q => h1 (fun z => absurd ((lgc_lt x y).mpr z) (Int32.not_lt.mpr q))) (fun q => h2 ((lgc_lt x y).mp (Int32.not_le.mp q)))
theorem a_lcmp_le {k : KT} {c0 s0 pc : Nat} {L : List (Nat × Value)} {S : List Value} {es : va_W} {x y : Int64} {off : Int} (tgt : Nat) (hd : decode (kC k) pc = .ok (.ifCond .le off, 3)) (ht : (pc : Int) + off = (tgt : Int)) (h1 : ¬ y < x → AW k c0 s0 tgt L S es) (h2 : y < x → AW k c0 s0 (pc + 3) L S es) : AW k c0 s0 pc L (.int (lg_cmp x y) :: S) es :=
  a_if_le tgt hd ht (fun q => h1 (fun z => absurd ((lgc_gt x y).mpr z) (Int32.not_lt.mpr q))) (fun q => h2 ((lgc_gt x y).mp (Int32.not_le.mp q)))
theorem a_lcmp_ne {k : KT} {c0 s0 pc : Nat} {L : List (Nat × Value)} {S : List Value} {es : va_W} {x y : Int64} {off : Int} (tgt : Nat) (hd : decode (kC k) pc = .ok (.ifCond .ne off, 3)) (ht : (pc : Int) + off = (tgt : Int)) (h1 : ¬ x = y → AW k c0 s0 tgt L S es) (h2 : x = y → AW k c0 s0 (pc + 3) L S es) : AW k c0 s0 pc L (.int (lg_cmp x y) :: S) es :=
  a_if_ne tgt hd ht (fun q => h1 (fun z => q ((lgc_eq x y).mpr z))) (fun q => h2 ((lgc_eq x y).mp q))
theorem a_lcmp_eq {k : KT} {c0 s0 pc : Nat} {L : List (Nat × Value)} {S : List Value} {es : va_W} {x y : Int64} {off : Int} (tgt : Nat) (hd : decode (kC k) pc = .ok (.ifCond .eq off, 3)) (ht : (pc : Int) + off = (tgt : Int)) (h1 : x = y → AW k c0 s0 tgt L S es) (h2 : ¬ x = y → AW k c0 s0 (pc + 3) L S es) : AW k c0 s0 pc L (.int (lg_cmp x y) :: S) es :=
  a_if_eq tgt hd ht (fun q => h1 ((lgc_eq x y).mp q)) (fun q => h2 (fun z => q ((lgc_eq x y).mpr z)))
end
section
theorem ini_J0 : Cond.initialized RJ0 ∈ gtbl := gm 10 (by decide +kernel) rfl
theorem ini_J1 : Cond.initialized RJ1 ∈ gtbl := gm 11 (by decide +kernel) rfl
theorem ini_J7 : Cond.initialized RJ7 ∈ gtbl := gm 17 (by decide +kernel) rfl
theorem ini_J9 : Cond.initialized RJ9 ∈ gtbl := gm 12 (by decide +kernel) rfl
theorem ini_X0 : Cond.initialized RX0 ∈ gtbl := gm 5 (by decide +kernel) rfl
theorem ini_X1 : Cond.initialized RX1 ∈ gtbl := gm 7 (by decide +kernel) rfl
theorem ini_X2 : Cond.initialized RX2 ∈ gtbl := gm 3 (by decide +kernel) rfl
theorem ini_X3 : Cond.initialized RX3 ∈ gtbl := gm 4 (by decide +kernel) rfl
theorem ini_X4 : Cond.initialized RX4 ∈ gtbl := gm 8 (by decide +kernel) rfl
theorem ini_X5 : Cond.initialized RX5 ∈ gtbl := gm 2 (by decide +kernel) rfl
theorem ini_X6 : Cond.initialized RX6 ∈ gtbl := gm 6 (by decide +kernel) rfl
theorem ini_X7 : Cond.initialized RX7 ∈ gtbl := gm 1 (by decide +kernel) rfl
theorem ini_X8 : Cond.initialized RX8 ∈ gtbl := gm 9 (by decide +kernel) rfl
abbrev M_X0_init : MT := (yX0_init, cX0_init, 3, none, RX0)
theorem mc_X0_init : Cond.code yX0_init cX0_init 3 none ∈ gtbl := gm 123 (by decide +kernel) rfl
theorem im_X0_init : Cond.instanceMethod yX0_init ∈ gtbl := gm 122 (by decide +kernel) rfl
abbrev M_X0_forget : MT := (yX0_forget, cX0_forget, 1, none, RX0)
theorem mc_X0_forget : Cond.code yX0_forget cX0_forget 1 none ∈ gtbl := gm 435 (by decide +kernel) rfl
theorem im_X0_forget : Cond.instanceMethod yX0_forget ∈ gtbl := gm 433 (by decide +kernel) rfl
theorem se_X0_forget : Cond.selects RX0 yX0_forget yX0_forget ∈ gtbl := gm 434 (by decide +kernel) rfl
abbrev M_X0_keep : MT := (yX0_keep, cX0_keep, 3, none, RX0)
theorem mc_X0_keep : Cond.code yX0_keep cX0_keep 3 none ∈ gtbl := gm 497 (by decide +kernel) rfl
theorem im_X0_keep : Cond.instanceMethod yX0_keep ∈ gtbl := gm 495 (by decide +kernel) rfl
theorem se_X0_keep : Cond.selects RX0 yX0_keep yX0_keep ∈ gtbl := gm 496 (by decide +kernel) rfl
abbrev M_X0_giveBack : MT := (yX0_giveBack, cX0_giveBack, 2, (some .boolean), RX0)
theorem mc_X0_giveBack : Cond.code yX0_giveBack cX0_giveBack 2 (some .boolean) ∈ gtbl := gm 583 (by decide +kernel) rfl
theorem im_X0_giveBack : Cond.instanceMethod yX0_giveBack ∈ gtbl := gm 581 (by decide +kernel) rfl
theorem se_X0_giveBack : Cond.selects RX0 yX0_giveBack yX0_giveBack ∈ gtbl := gm 582 (by decide +kernel) rfl
abbrev M_X1_init : MT := (yX1_init, cX1_init, 2, none, RX1)
theorem mc_X1_init : Cond.code yX1_init cX1_init 2 none ∈ gtbl := gm 179 (by decide +kernel) rfl
theorem im_X1_init : Cond.instanceMethod yX1_init ∈ gtbl := gm 178 (by decide +kernel) rfl
abbrev M_X1_search : MT := (yX1_search, cX1_search, 7, (some .int), RX1)
theorem mc_X1_search : Cond.code yX1_search cX1_search 7 (some .int) ∈ gtbl := gm 612 (by decide +kernel) rfl
theorem im_X1_search : Cond.instanceMethod yX1_search ∈ gtbl := gm 610 (by decide +kernel) rfl
theorem se_X1_search : Cond.selects RX1 yX1_search yX1_search ∈ gtbl := gm 611 (by decide +kernel) rfl
abbrev M_X1_spread : MT := (yX1_spread, cX1_spread, 7, none, RX1)
theorem mc_X1_spread : Cond.code yX1_spread cX1_spread 7 none ∈ gtbl := gm 624 (by decide +kernel) rfl
theorem im_X1_spread : Cond.instanceMethod yX1_spread ∈ gtbl := gm 623 (by decide +kernel) rfl
theorem se_X1_spread : Cond.selects RX1 yX1_spread yX1_spread ∈ gtbl := gs 16 (by decide +kernel) rfl
abbrev M_X1_mark : MT := (yX1_mark, cX1_mark, 5, none, RX1)
theorem mc_X1_mark : Cond.code yX1_mark cX1_mark 5 none ∈ gtbl := gm 620 (by decide +kernel) rfl
theorem im_X1_mark : Cond.instanceMethod yX1_mark ∈ gtbl := gm 619 (by decide +kernel) rfl
theorem se_X1_mark : Cond.selects RX1 yX1_mark yX1_mark ∈ gtbl := gs 15 (by decide +kernel) rfl
abbrev M_X1_wordTo : MT := (yX1_wordTo, cX1_wordTo, 5, (some .int), RX1)
theorem mc_X1_wordTo : Cond.code yX1_wordTo cX1_wordTo 5 (some .int) ∈ gtbl := gm 630 (by decide +kernel) rfl
theorem im_X1_wordTo : Cond.instanceMethod yX1_wordTo ∈ gtbl := gm 628 (by decide +kernel) rfl
theorem se_X1_wordTo : Cond.selects RX1 yX1_wordTo yX1_wordTo ∈ gtbl := gm 629 (by decide +kernel) rfl
abbrev M_X2_init : MT := (yX2_init, cX2_init, 1, none, RX2)
theorem mc_X2_init : Cond.code yX2_init cX2_init 1 none ∈ gtbl := gm 49 (by decide +kernel) rfl
theorem im_X2_init : Cond.instanceMethod yX2_init ∈ gtbl := gm 48 (by decide +kernel) rfl
abbrev M_X2_become : MT := (yX2_become, cX2_become, 2, none, RX2)
theorem mc_X2_become : Cond.code yX2_become cX2_become 2 none ∈ gtbl := gm 423 (by decide +kernel) rfl
theorem im_X2_become : Cond.instanceMethod yX2_become ∈ gtbl := gm 421 (by decide +kernel) rfl
theorem se_X2_become : Cond.selects RX2 yX2_become yX2_become ∈ gtbl := gm 422 (by decide +kernel) rfl
abbrev M_X2_empty : MT := (yX2_empty, cX2_empty, 1, none, RX2)
theorem mc_X2_empty : Cond.code yX2_empty cX2_empty 1 none ∈ gtbl := gm 275 (by decide +kernel) rfl
theorem im_X2_empty : Cond.instanceMethod yX2_empty ∈ gtbl := gm 273 (by decide +kernel) rfl
theorem se_X2_empty : Cond.selects RX2 yX2_empty yX2_empty ∈ gtbl := gm 274 (by decide +kernel) rfl
abbrev M_X2_stands : MT := (yX2_stands, cX2_stands, 1, (some .boolean), RX2)
theorem mc_X2_stands : Cond.code yX2_stands cX2_stands 1 (some .boolean) ∈ gtbl := gm 467 (by decide +kernel) rfl
theorem im_X2_stands : Cond.instanceMethod yX2_stands ∈ gtbl := gm 465 (by decide +kernel) rfl
theorem se_X2_stands : Cond.selects RX2 yX2_stands yX2_stands ∈ gtbl := gm 466 (by decide +kernel) rfl
abbrev M_X2_hasShip : MT := (yX2_hasShip, cX2_hasShip, 2, (some .boolean), RX2)
theorem mc_X2_hasShip : Cond.code yX2_hasShip cX2_hasShip 2 (some .boolean) ∈ gtbl := gm 444 (by decide +kernel) rfl
theorem im_X2_hasShip : Cond.instanceMethod yX2_hasShip ∈ gtbl := gm 442 (by decide +kernel) rfl
theorem se_X2_hasShip : Cond.selects RX2 yX2_hasShip yX2_hasShip ∈ gtbl := gm 443 (by decide +kernel) rfl
abbrev M_X2_everyShip : MT := (yX2_everyShip, cX2_everyShip, 1, (some .int), RX2)
theorem mc_X2_everyShip : Cond.code yX2_everyShip cX2_everyShip 1 (some .int) ∈ gtbl := gm 662 (by decide +kernel) rfl
theorem im_X2_everyShip : Cond.instanceMethod yX2_everyShip ∈ gtbl := gm 660 (by decide +kernel) rfl
theorem se_X2_everyShip : Cond.selects RX2 yX2_everyShip yX2_everyShip ∈ gtbl := gm 661 (by decide +kernel) rfl
abbrev M_X2_doubtOf : MT := (yX2_doubtOf, cX2_doubtOf, 3, (some .int), RX2)
theorem mc_X2_doubtOf : Cond.code yX2_doubtOf cX2_doubtOf 3 (some .int) ∈ gtbl := gm 478 (by decide +kernel) rfl
theorem im_X2_doubtOf : Cond.instanceMethod yX2_doubtOf ∈ gtbl := gm 476 (by decide +kernel) rfl
theorem se_X2_doubtOf : Cond.selects RX2 yX2_doubtOf yX2_doubtOf ∈ gtbl := gm 477 (by decide +kernel) rfl
abbrev M_X2_trusts : MT := (yX2_trusts, cX2_trusts, 3, (some .boolean), RX2)
theorem mc_X2_trusts : Cond.code yX2_trusts cX2_trusts 3 (some .boolean) ∈ gtbl := gm 600 (by decide +kernel) rfl
theorem im_X2_trusts : Cond.instanceMethod yX2_trusts ∈ gtbl := gm 598 (by decide +kernel) rfl
theorem se_X2_trusts : Cond.selects RX2 yX2_trusts yX2_trusts ∈ gtbl := gm 599 (by decide +kernel) rfl
abbrev M_X2_allWorm : MT := (yX2_allWorm, cX2_allWorm, 3, (some .int), RX2)
theorem mc_X2_allWorm : Cond.code yX2_allWorm cX2_allWorm 3 (some .int) ∈ gtbl := gm 740 (by decide +kernel) rfl
theorem im_X2_allWorm : Cond.instanceMethod yX2_allWorm ∈ gtbl := gm 738 (by decide +kernel) rfl
theorem se_X2_allWorm : Cond.selects RX2 yX2_allWorm yX2_allWorm ∈ gtbl := gm 739 (by decide +kernel) rfl
abbrev M_X2_allCredit : MT := (yX2_allCredit, cX2_allCredit, 3, (some .int), RX2)
theorem mc_X2_allCredit : Cond.code yX2_allCredit cX2_allCredit 3 (some .int) ∈ gtbl := gm 744 (by decide +kernel) rfl
theorem im_X2_allCredit : Cond.instanceMethod yX2_allCredit ∈ gtbl := gm 742 (by decide +kernel) rfl
theorem se_X2_allCredit : Cond.selects RX2 yX2_allCredit yX2_allCredit ∈ gtbl := gm 743 (by decide +kernel) rfl
abbrev M_X2_harboured : MT := (yX2_harboured, cX2_harboured, 3, (some .int), RX2)
theorem mc_X2_harboured : Cond.code yX2_harboured cX2_harboured 3 (some .int) ∈ gtbl := gm 871 (by decide +kernel) rfl
theorem im_X2_harboured : Cond.instanceMethod yX2_harboured ∈ gtbl := gm 869 (by decide +kernel) rfl
theorem se_X2_harboured : Cond.selects RX2 yX2_harboured yX2_harboured ∈ gtbl := gm 870 (by decide +kernel) rfl
abbrev M_X2_heardBy : MT := (yX2_heardBy, cX2_heardBy, 6, (some .int), RX2)
theorem mc_X2_heardBy : Cond.code yX2_heardBy cX2_heardBy 6 (some .int) ∈ gtbl := gm 666 (by decide +kernel) rfl
theorem im_X2_heardBy : Cond.instanceMethod yX2_heardBy ∈ gtbl := gm 664 (by decide +kernel) rfl
theorem se_X2_heardBy : Cond.selects RX2 yX2_heardBy yX2_heardBy ∈ gtbl := gm 665 (by decide +kernel) rfl
abbrev M_X2_nearAny : MT := (yX2_nearAny, cX2_nearAny, 6, (some .int), RX2)
theorem mc_X2_nearAny : Cond.code yX2_nearAny cX2_nearAny 6 (some .int) ∈ gtbl := gm 670 (by decide +kernel) rfl
theorem im_X2_nearAny : Cond.instanceMethod yX2_nearAny ∈ gtbl := gm 669 (by decide +kernel) rfl
theorem se_X2_nearAny : Cond.selects RX2 yX2_nearAny yX2_nearAny ∈ gtbl := gs 21 (by decide +kernel) rfl
abbrev M_X2_isLink : MT := (yX2_isLink, cX2_isLink, 5, (some .boolean), RX2)
theorem mc_X2_isLink : Cond.code yX2_isLink cX2_isLink 5 (some .boolean) ∈ gtbl := gm 684 (by decide +kernel) rfl
theorem im_X2_isLink : Cond.instanceMethod yX2_isLink ∈ gtbl := gm 682 (by decide +kernel) rfl
theorem se_X2_isLink : Cond.selects RX2 yX2_isLink yX2_isLink ∈ gtbl := gm 683 (by decide +kernel) rfl
abbrev M_X3_init : MT := (yX3_init, cX3_init, 1, none, RX3)
theorem mc_X3_init : Cond.code yX3_init cX3_init 1 none ∈ gtbl := gm 55 (by decide +kernel) rfl
theorem im_X3_init : Cond.instanceMethod yX3_init ∈ gtbl := gm 54 (by decide +kernel) rfl
abbrev M_X3_become : MT := (yX3_become, cX3_become, 2, none, RX3)
theorem mc_X3_become : Cond.code yX3_become cX3_become 2 none ∈ gtbl := gm 427 (by decide +kernel) rfl
theorem im_X3_become : Cond.instanceMethod yX3_become ∈ gtbl := gm 425 (by decide +kernel) rfl
theorem se_X3_become : Cond.selects RX3 yX3_become yX3_become ∈ gtbl := gm 426 (by decide +kernel) rfl
abbrev M_X3_empty : MT := (yX3_empty, cX3_empty, 1, none, RX3)
theorem mc_X3_empty : Cond.code yX3_empty cX3_empty 1 none ∈ gtbl := gm 279 (by decide +kernel) rfl
theorem im_X3_empty : Cond.instanceMethod yX3_empty ∈ gtbl := gm 277 (by decide +kernel) rfl
theorem se_X3_empty : Cond.selects RX3 yX3_empty yX3_empty ∈ gtbl := gm 278 (by decide +kernel) rfl
abbrev M_X3_cellOf : MT := (yX3_cellOf, cX3_cellOf, 2, (some .int), RX3)
theorem mc_X3_cellOf : Cond.code yX3_cellOf cX3_cellOf 2 (some .int) ∈ gtbl := gm 389 (by decide +kernel) rfl
theorem ss_X3_cellOf : Cond.static yX3_cellOf ∈ gtbl := gm 388 (by decide +kernel) rfl
abbrev M_X3_has : MT := (yX3_has, cX3_has, 2, (some .boolean), RX3)
theorem mc_X3_has : Cond.code yX3_has cX3_has 2 (some .boolean) ∈ gtbl := gm 414 (by decide +kernel) rfl
theorem im_X3_has : Cond.instanceMethod yX3_has ∈ gtbl := gm 412 (by decide +kernel) rfl
theorem se_X3_has : Cond.selects RX3 yX3_has yX3_has ∈ gtbl := gm 413 (by decide +kernel) rfl
abbrev M_X3_at : MT := (yX3_at, cX3_at, 2, (some .int), RX3)
theorem mc_X3_at : Cond.code yX3_at cX3_at 2 (some .int) ∈ gtbl := gm 410 (by decide +kernel) rfl
theorem im_X3_at : Cond.instanceMethod yX3_at ∈ gtbl := gm 408 (by decide +kernel) rfl
theorem se_X3_at : Cond.selects RX3 yX3_at yX3_at ∈ gtbl := gm 409 (by decide +kernel) rfl
abbrev M_X3_ahead : MT := (yX3_ahead, cX3_ahead, 6, (some .int), RX3)
theorem mc_X3_ahead : Cond.code yX3_ahead cX3_ahead 6 (some .int) ∈ gtbl := gm 527 (by decide +kernel) rfl
theorem im_X3_ahead : Cond.instanceMethod yX3_ahead ∈ gtbl := gm 525 (by decide +kernel) rfl
theorem se_X3_ahead : Cond.selects RX3 yX3_ahead yX3_ahead ∈ gtbl := gm 526 (by decide +kernel) rfl
abbrev M_X3_away : MT := (yX3_away, cX3_away, 2, (some .int), RX3)
theorem mc_X3_away : Cond.code yX3_away cX3_away 2 (some .int) ∈ gtbl := gm 673 (by decide +kernel) rfl
theorem ss_X3_away : Cond.static yX3_away ∈ gtbl := gm 672 (by decide +kernel) rfl
abbrev M_X3_harbours : MT := (yX3_harbours, cX3_harbours, 3, (some .int), RX3)
theorem mc_X3_harbours : Cond.code yX3_harbours cX3_harbours 3 (some .int) ∈ gtbl := gm 694 (by decide +kernel) rfl
theorem im_X3_harbours : Cond.instanceMethod yX3_harbours ∈ gtbl := gm 692 (by decide +kernel) rfl
theorem se_X3_harbours : Cond.selects RX3 yX3_harbours yX3_harbours ∈ gtbl := gm 693 (by decide +kernel) rfl
abbrev M_X3_awayFromHarbour : MT := (yX3_awayFromHarbour, cX3_awayFromHarbour, 4, (some .int), RX3)
theorem mc_X3_awayFromHarbour : Cond.code yX3_awayFromHarbour cX3_awayFromHarbour 4 (some .int) ∈ gtbl := gm 707 (by decide +kernel) rfl
theorem im_X3_awayFromHarbour : Cond.instanceMethod yX3_awayFromHarbour ∈ gtbl := gm 705 (by decide +kernel) rfl
theorem se_X3_awayFromHarbour : Cond.selects RX3 yX3_awayFromHarbour yX3_awayFromHarbour ∈ gtbl := gm 706 (by decide +kernel) rfl
abbrev M_X4_init : MT := (yX4_init, cX4_init, 1, none, RX4)
theorem mc_X4_init : Cond.code yX4_init cX4_init 1 none ∈ gtbl := gm 207 (by decide +kernel) rfl
theorem im_X4_init : Cond.instanceMethod yX4_init ∈ gtbl := gm 206 (by decide +kernel) rfl
abbrev M_X4_renew : MT := (yX4_renew, cX4_renew, 3, none, RX4)
theorem mc_X4_renew : Cond.code yX4_renew cX4_renew 3 none ∈ gtbl := gm 758 (by decide +kernel) rfl
theorem im_X4_renew : Cond.instanceMethod yX4_renew ∈ gtbl := gm 756 (by decide +kernel) rfl
theorem se_X4_renew : Cond.selects RX4 yX4_renew yX4_renew ∈ gtbl := gm 757 (by decide +kernel) rfl
abbrev M_X4_holds : MT := (yX4_holds, cX4_holds, 3, (some .boolean), RX4)
theorem mc_X4_holds : Cond.code yX4_holds cX4_holds 3 (some .boolean) ∈ gtbl := gm 778 (by decide +kernel) rfl
theorem im_X4_holds : Cond.instanceMethod yX4_holds ∈ gtbl := gm 776 (by decide +kernel) rfl
theorem se_X4_holds : Cond.selects RX4 yX4_holds yX4_holds ∈ gtbl := gm 777 (by decide +kernel) rfl
abbrev M_X4_holdsWords : MT := (yX4_holdsWords, cX4_holdsWords, 5, (some .boolean), RX4)
theorem mc_X4_holdsWords : Cond.code yX4_holdsWords cX4_holdsWords 5 (some .boolean) ∈ gtbl := gm 803 (by decide +kernel) rfl
theorem im_X4_holdsWords : Cond.instanceMethod yX4_holdsWords ∈ gtbl := gm 801 (by decide +kernel) rfl
theorem se_X4_holdsWords : Cond.selects RX4 yX4_holdsWords yX4_holdsWords ∈ gtbl := gm 802 (by decide +kernel) rfl
abbrev M_X4_put : MT := (yX4_put, cX4_put, 4, (some .long), RX4)
theorem mc_X4_put : Cond.code yX4_put cX4_put 4 (some .long) ∈ gtbl := gm 782 (by decide +kernel) rfl
theorem im_X4_put : Cond.instanceMethod yX4_put ∈ gtbl := gm 780 (by decide +kernel) rfl
theorem se_X4_put : Cond.selects RX4 yX4_put yX4_put ∈ gtbl := gm 781 (by decide +kernel) rfl
abbrev M_X4_narrowed : MT := (yX4_narrowed, cX4_narrowed, 3, (some .long), RX4)
theorem mc_X4_narrowed : Cond.code yX4_narrowed cX4_narrowed 3 (some .long) ∈ gtbl := gm 786 (by decide +kernel) rfl
theorem im_X4_narrowed : Cond.instanceMethod yX4_narrowed ∈ gtbl := gm 785 (by decide +kernel) rfl
theorem se_X4_narrowed : Cond.selects RX4 yX4_narrowed yX4_narrowed ∈ gtbl := gs 27 (by decide +kernel) rfl
abbrev M_X5_init : MT := (yX5_init, cX5_init, 1, none, RX5)
theorem mc_X5_init : Cond.code yX5_init cX5_init 1 none ∈ gtbl := gm 30 (by decide +kernel) rfl
theorem im_X5_init : Cond.instanceMethod yX5_init ∈ gtbl := gm 29 (by decide +kernel) rfl
abbrev M_X5_add : MT := (yX5_add, cX5_add, 2, (some .boolean), RX5)
theorem mc_X5_add : Cond.code yX5_add cX5_add 2 (some .boolean) ∈ gtbl := gm 263 (by decide +kernel) rfl
theorem im_X5_add : Cond.instanceMethod yX5_add ∈ gtbl := gm 261 (by decide +kernel) rfl
theorem se_X5_add : Cond.selects RX5 yX5_add yX5_add ∈ gtbl := gm 262 (by decide +kernel) rfl
abbrev M_X5_readFleet : MT := (yX5_readFleet, cX5_readFleet, 2, (some .boolean), RX5)
theorem mc_X5_readFleet : Cond.code yX5_readFleet cX5_readFleet 2 (some .boolean) ∈ gtbl := gm 271 (by decide +kernel) rfl
theorem im_X5_readFleet : Cond.instanceMethod yX5_readFleet ∈ gtbl := gm 269 (by decide +kernel) rfl
theorem se_X5_readFleet : Cond.selects RX5 yX5_readFleet yX5_readFleet ∈ gtbl := gm 270 (by decide +kernel) rfl
abbrev M_X5_here : MT := (yX5_here, cX5_here, 1, (some .int), RX5)
theorem mc_X5_here : Cond.code yX5_here cX5_here 1 (some .int) ∈ gtbl := gm 287 (by decide +kernel) rfl
theorem im_X5_here : Cond.instanceMethod yX5_here ∈ gtbl := gm 286 (by decide +kernel) rfl
theorem se_X5_here : Cond.selects RX5 yX5_here yX5_here ∈ gtbl := gs 1 (by decide +kernel) rfl
abbrev M_X5_takes : MT := (yX5_takes, cX5_takes, 2, (some .boolean), RX5)
theorem mc_X5_takes : Cond.code yX5_takes cX5_takes 2 (some .boolean) ∈ gtbl := gm 283 (by decide +kernel) rfl
theorem im_X5_takes : Cond.instanceMethod yX5_takes ∈ gtbl := gm 282 (by decide +kernel) rfl
theorem se_X5_takes : Cond.selects RX5 yX5_takes yX5_takes ∈ gtbl := gs 0 (by decide +kernel) rfl
abbrev M_X5_oneOf : MT := (yX5_oneOf, cX5_oneOf, 3, (some .int), RX5)
theorem mc_X5_oneOf : Cond.code yX5_oneOf cX5_oneOf 3 (some .int) ∈ gtbl := gm 300 (by decide +kernel) rfl
theorem im_X5_oneOf : Cond.instanceMethod yX5_oneOf ∈ gtbl := gm 299 (by decide +kernel) rfl
theorem se_X5_oneOf : Cond.selects RX5 yX5_oneOf yX5_oneOf ∈ gtbl := gs 4 (by decide +kernel) rfl
abbrev M_X5_figureBelow : MT := (yX5_figureBelow, cX5_figureBelow, 3, (some .int), RX5)
theorem mc_X5_figureBelow : Cond.code yX5_figureBelow cX5_figureBelow 3 (some .int) ∈ gtbl := gm 406 (by decide +kernel) rfl
theorem im_X5_figureBelow : Cond.instanceMethod yX5_figureBelow ∈ gtbl := gm 405 (by decide +kernel) rfl
theorem se_X5_figureBelow : Cond.selects RX5 yX5_figureBelow yX5_figureBelow ∈ gtbl := gs 8 (by decide +kernel) rfl
abbrev M_X5_readSea : MT := (yX5_readSea, cX5_readSea, 3, (some .boolean), RX5)
theorem mc_X5_readSea : Cond.code yX5_readSea cX5_readSea 3 (some .boolean) ∈ gtbl := gm 291 (by decide +kernel) rfl
theorem im_X5_readSea : Cond.instanceMethod yX5_readSea ∈ gtbl := gm 290 (by decide +kernel) rfl
theorem se_X5_readSea : Cond.selects RX5 yX5_readSea yX5_readSea ∈ gtbl := gs 2 (by decide +kernel) rfl
abbrev M_X5_readRow : MT := (yX5_readRow, cX5_readRow, 5, (some .boolean), RX5)
theorem mc_X5_readRow : Cond.code yX5_readRow cX5_readRow 5 (some .boolean) ∈ gtbl := gm 295 (by decide +kernel) rfl
theorem im_X5_readRow : Cond.instanceMethod yX5_readRow ∈ gtbl := gm 294 (by decide +kernel) rfl
theorem se_X5_readRow : Cond.selects RX5 yX5_readRow yX5_readRow ∈ gtbl := gs 3 (by decide +kernel) rfl
abbrev M_X5_readShips : MT := (yX5_readShips, cX5_readShips, 3, (some .boolean), RX5)
theorem mc_X5_readShips : Cond.code yX5_readShips cX5_readShips 3 (some .boolean) ∈ gtbl := gm 393 (by decide +kernel) rfl
theorem im_X5_readShips : Cond.instanceMethod yX5_readShips ∈ gtbl := gm 392 (by decide +kernel) rfl
theorem se_X5_readShips : Cond.selects RX5 yX5_readShips yX5_readShips ∈ gtbl := gs 5 (by decide +kernel) rfl
abbrev M_X5_readShip : MT := (yX5_readShip, cX5_readShip, 6, (some .boolean), RX5)
theorem mc_X5_readShip : Cond.code yX5_readShip cX5_readShip 6 (some .boolean) ∈ gtbl := gm 397 (by decide +kernel) rfl
theorem im_X5_readShip : Cond.instanceMethod yX5_readShip ∈ gtbl := gm 396 (by decide +kernel) rfl
theorem se_X5_readShip : Cond.selects RX5 yX5_readShip yX5_readShip ∈ gtbl := gs 6 (by decide +kernel) rfl
abbrev M_X5_readCell : MT := (yX5_readCell, cX5_readCell, 5, (some .boolean), RX5)
theorem mc_X5_readCell : Cond.code yX5_readCell cX5_readCell 5 (some .boolean) ∈ gtbl := gm 402 (by decide +kernel) rfl
theorem im_X5_readCell : Cond.instanceMethod yX5_readCell ∈ gtbl := gm 401 (by decide +kernel) rfl
theorem se_X5_readCell : Cond.selects RX5 yX5_readCell yX5_readCell ∈ gtbl := gs 7 (by decide +kernel) rfl
abbrev M_X5_readCredit : MT := (yX5_readCredit, cX5_readCredit, 4, (some .boolean), RX5)
theorem mc_X5_readCredit : Cond.code yX5_readCredit cX5_readCredit 4 (some .boolean) ∈ gtbl := gm 419 (by decide +kernel) rfl
theorem im_X5_readCredit : Cond.instanceMethod yX5_readCredit ∈ gtbl := gm 418 (by decide +kernel) rfl
theorem se_X5_readCredit : Cond.selects RX5 yX5_readCredit yX5_readCredit ∈ gtbl := gs 9 (by decide +kernel) rfl
abbrev M_X6_init : MT := (yX6_init, cX6_init, 2, none, RX6)
theorem mc_X6_init : Cond.code yX6_init cX6_init 2 none ∈ gtbl := gm 130 (by decide +kernel) rfl
theorem im_X6_init : Cond.instanceMethod yX6_init ∈ gtbl := gm 129 (by decide +kernel) rfl
abbrev M_X6_board : MT := (yX6_board, cX6_board, 3, none, RX6)
theorem mc_X6_board : Cond.code yX6_board cX6_board 3 none ∈ gtbl := gm 501 (by decide +kernel) rfl
theorem im_X6_board : Cond.instanceMethod yX6_board ∈ gtbl := gm 499 (by decide +kernel) rfl
theorem se_X6_board : Cond.selects RX6 yX6_board yX6_board ∈ gtbl := gm 500 (by decide +kernel) rfl
abbrev M_X6_land : MT := (yX6_land, cX6_land, 3, none, RX6)
theorem mc_X6_land : Cond.code yX6_land cX6_land 3 none ∈ gtbl := gm 550 (by decide +kernel) rfl
theorem im_X6_land : Cond.instanceMethod yX6_land ∈ gtbl := gm 548 (by decide +kernel) rfl
theorem se_X6_land : Cond.selects RX6 yX6_land yX6_land ∈ gtbl := gm 549 (by decide +kernel) rfl
abbrev M_X6_follow : MT := (yX6_follow, cX6_follow, 2, none, RX6)
theorem mc_X6_follow : Cond.code yX6_follow cX6_follow 2 none ∈ gtbl := gm 717 (by decide +kernel) rfl
theorem im_X6_follow : Cond.instanceMethod yX6_follow ∈ gtbl := gm 715 (by decide +kernel) rfl
theorem se_X6_follow : Cond.selects RX6 yX6_follow yX6_follow ∈ gtbl := gm 716 (by decide +kernel) rfl
abbrev M_X6_trusts : MT := (yX6_trusts, cX6_trusts, 2, (some .boolean), RX6)
theorem mc_X6_trusts : Cond.code yX6_trusts cX6_trusts 2 (some .boolean) ∈ gtbl := gm 512 (by decide +kernel) rfl
theorem im_X6_trusts : Cond.instanceMethod yX6_trusts ∈ gtbl := gm 510 (by decide +kernel) rfl
theorem se_X6_trusts : Cond.selects RX6 yX6_trusts yX6_trusts ∈ gtbl := gm 511 (by decide +kernel) rfl
abbrev M_X6_hear : MT := (yX6_hear, cX6_hear, 5, none, RX6)
theorem mc_X6_hear : Cond.code yX6_hear cX6_hear 5 none ∈ gtbl := gm 508 (by decide +kernel) rfl
theorem im_X6_hear : Cond.instanceMethod yX6_hear ∈ gtbl := gm 506 (by decide +kernel) rfl
theorem se_X6_hear : Cond.selects RX6 yX6_hear yX6_hear ∈ gtbl := gm 507 (by decide +kernel) rfl
abbrev M_X6_hearTwo : MT := (yX6_hearTwo, cX6_hearTwo, 8, none, RX6)
theorem mc_X6_hearTwo : Cond.code yX6_hearTwo cX6_hearTwo 8 none ∈ gtbl := gm 558 (by decide +kernel) rfl
theorem im_X6_hearTwo : Cond.instanceMethod yX6_hearTwo ∈ gtbl := gm 556 (by decide +kernel) rfl
theorem se_X6_hearTwo : Cond.selects RX6 yX6_hearTwo yX6_hearTwo ∈ gtbl := gm 557 (by decide +kernel) rfl
abbrev M_X6_beTorn : MT := (yX6_beTorn, cX6_beTorn, 3, none, RX6)
theorem mc_X6_beTorn : Cond.code yX6_beTorn cX6_beTorn 3 none ∈ gtbl := gm 562 (by decide +kernel) rfl
theorem im_X6_beTorn : Cond.instanceMethod yX6_beTorn ∈ gtbl := gm 561 (by decide +kernel) rfl
theorem se_X6_beTorn : Cond.selects RX6 yX6_beTorn yX6_beTorn ∈ gtbl := gs 14 (by decide +kernel) rfl
abbrev M_X6_goOn : MT := (yX6_goOn, cX6_goOn, 2, (some .boolean), RX6)
theorem mc_X6_goOn : Cond.code yX6_goOn cX6_goOn 2 (some .boolean) ∈ gtbl := gm 523 (by decide +kernel) rfl
theorem im_X6_goOn : Cond.instanceMethod yX6_goOn ∈ gtbl := gm 521 (by decide +kernel) rfl
theorem se_X6_goOn : Cond.selects RX6 yX6_goOn yX6_goOn ∈ gtbl := gm 522 (by decide +kernel) rfl
abbrev M_X6_beWormed : MT := (yX6_beWormed, cX6_beWormed, 1, none, RX6)
theorem mc_X6_beWormed : Cond.code yX6_beWormed cX6_beWormed 1 none ∈ gtbl := gm 536 (by decide +kernel) rfl
theorem im_X6_beWormed : Cond.instanceMethod yX6_beWormed ∈ gtbl := gm 535 (by decide +kernel) rfl
theorem se_X6_beWormed : Cond.selects RX6 yX6_beWormed yX6_beWormed ∈ gtbl := gs 11 (by decide +kernel) rfl
abbrev M_X6_settle : MT := (yX6_settle, cX6_settle, 3, none, RX6)
theorem mc_X6_settle : Cond.code yX6_settle cX6_settle 3 none ∈ gtbl := gm 541 (by decide +kernel) rfl
theorem im_X6_settle : Cond.instanceMethod yX6_settle ∈ gtbl := gm 540 (by decide +kernel) rfl
theorem se_X6_settle : Cond.selects RX6 yX6_settle yX6_settle ∈ gtbl := gs 12 (by decide +kernel) rfl
abbrev M_X6_keepsTo : MT := (yX6_keepsTo, cX6_keepsTo, 6, (some .boolean), RX6)
theorem mc_X6_keepsTo : Cond.code yX6_keepsTo cX6_keepsTo 6 (some .boolean) ∈ gtbl := gm 832 (by decide +kernel) rfl
theorem im_X6_keepsTo : Cond.instanceMethod yX6_keepsTo ∈ gtbl := gm 830 (by decide +kernel) rfl
theorem se_X6_keepsTo : Cond.selects RX6 yX6_keepsTo yX6_keepsTo ∈ gtbl := gm 831 (by decide +kernel) rfl
abbrev M_X7_init : MT := (yX7_init, cX7_init, 2, none, RX7)
theorem mc_X7_init : Cond.code yX7_init cX7_init 2 none ∈ gtbl := gm 22 (by decide +kernel) rfl
theorem im_X7_init : Cond.instanceMethod yX7_init ∈ gtbl := gm 21 (by decide +kernel) rfl
abbrev M_X7_feed : MT := (yX7_feed, cX7_feed, 2, (some .int), RX7)
theorem mc_X7_feed : Cond.code yX7_feed cX7_feed 2 (some .int) ∈ gtbl := gm 259 (by decide +kernel) rfl
theorem im_X7_feed : Cond.instanceMethod yX7_feed ∈ gtbl := gm 257 (by decide +kernel) rfl
theorem se_X7_feed : Cond.selects RX7 yX7_feed yX7_feed ∈ gtbl := gm 258 (by decide +kernel) rfl
abbrev M_X7_fleet : MT := (yX7_fleet, cX7_fleet, 2, (some .int), RX7)
theorem mc_X7_fleet : Cond.code yX7_fleet cX7_fleet 2 (some .int) ∈ gtbl := gm 267 (by decide +kernel) rfl
theorem im_X7_fleet : Cond.instanceMethod yX7_fleet ∈ gtbl := gm 265 (by decide +kernel) rfl
theorem se_X7_fleet : Cond.selects RX7 yX7_fleet yX7_fleet ∈ gtbl := gm 266 (by decide +kernel) rfl
abbrev M_X7_ship : MT := (yX7_ship, cX7_ship, 3, (some .int), RX7)
theorem mc_X7_ship : Cond.code yX7_ship cX7_ship 3 (some .int) ∈ gtbl := gm 440 (by decide +kernel) rfl
theorem im_X7_ship : Cond.instanceMethod yX7_ship ∈ gtbl := gm 438 (by decide +kernel) rfl
theorem se_X7_ship : Cond.selects RX7 yX7_ship yX7_ship ∈ gtbl := gm 439 (by decide +kernel) rfl
abbrev M_X7_as : MT := (yX7_as, cX7_as, 3, (some .int), RX7)
theorem mc_X7_as : Cond.code yX7_as cX7_as 3 (some .int) ∈ gtbl := gm 448 (by decide +kernel) rfl
theorem im_X7_as : Cond.instanceMethod yX7_as ∈ gtbl := gm 446 (by decide +kernel) rfl
theorem se_X7_as : Cond.selects RX7 yX7_as yX7_as ∈ gtbl := gm 447 (by decide +kernel) rfl
abbrev M_X7_sea : MT := (yX7_sea, cX7_sea, 2, (some .int), RX7)
theorem mc_X7_sea : Cond.code yX7_sea cX7_sea 2 (some .int) ∈ gtbl := gm 457 (by decide +kernel) rfl
theorem im_X7_sea : Cond.instanceMethod yX7_sea ∈ gtbl := gm 455 (by decide +kernel) rfl
theorem se_X7_sea : Cond.selects RX7 yX7_sea yX7_sea ∈ gtbl := gm 456 (by decide +kernel) rfl
abbrev M_X7_credit : MT := (yX7_credit, cX7_credit, 2, (some .int), RX7)
theorem mc_X7_credit : Cond.code yX7_credit cX7_credit 2 (some .int) ∈ gtbl := gm 463 (by decide +kernel) rfl
theorem im_X7_credit : Cond.instanceMethod yX7_credit ∈ gtbl := gm 461 (by decide +kernel) rfl
theorem se_X7_credit : Cond.selects RX7 yX7_credit yX7_credit ∈ gtbl := gm 462 (by decide +kernel) rfl
abbrev M_X7_doubt : MT := (yX7_doubt, cX7_doubt, 3, (some .int), RX7)
theorem mc_X7_doubt : Cond.code yX7_doubt cX7_doubt 3 (some .int) ∈ gtbl := gm 474 (by decide +kernel) rfl
theorem im_X7_doubt : Cond.instanceMethod yX7_doubt ∈ gtbl := gm 472 (by decide +kernel) rfl
theorem se_X7_doubt : Cond.selects RX7 yX7_doubt yX7_doubt ∈ gtbl := gm 473 (by decide +kernel) rfl
abbrev M_X7_say : MT := (yX7_say, cX7_say, 5, (some .int), RX7)
theorem mc_X7_say : Cond.code yX7_say cX7_say 5 (some .int) ∈ gtbl := gm 485 (by decide +kernel) rfl
theorem im_X7_say : Cond.instanceMethod yX7_say ∈ gtbl := gm 483 (by decide +kernel) rfl
theorem se_X7_say : Cond.selects RX7 yX7_say yX7_say ∈ gtbl := gm 484 (by decide +kernel) rfl
abbrev M_X7_storm : MT := (yX7_storm, cX7_storm, 7, (some .int), RX7)
theorem mc_X7_storm : Cond.code yX7_storm cX7_storm 7 (some .int) ∈ gtbl := gm 554 (by decide +kernel) rfl
theorem im_X7_storm : Cond.instanceMethod yX7_storm ∈ gtbl := gm 552 (by decide +kernel) rfl
theorem se_X7_storm : Cond.selects RX7 yX7_storm yX7_storm ∈ gtbl := gm 553 (by decide +kernel) rfl
abbrev M_X7_drift : MT := (yX7_drift, cX7_drift, 3, (some .int), RX7)
theorem mc_X7_drift : Cond.code yX7_drift cX7_drift 3 (some .int) ∈ gtbl := gm 566 (by decide +kernel) rfl
theorem im_X7_drift : Cond.instanceMethod yX7_drift ∈ gtbl := gm 564 (by decide +kernel) rfl
theorem se_X7_drift : Cond.selects RX7 yX7_drift yX7_drift ∈ gtbl := gm 565 (by decide +kernel) rfl
abbrev M_X7_scrape : MT := (yX7_scrape, cX7_scrape, 2, (some .int), RX7)
theorem mc_X7_scrape : Cond.code yX7_scrape cX7_scrape 2 (some .int) ∈ gtbl := gm 571 (by decide +kernel) rfl
theorem im_X7_scrape : Cond.instanceMethod yX7_scrape ∈ gtbl := gm 569 (by decide +kernel) rfl
theorem se_X7_scrape : Cond.selects RX7 yX7_scrape yX7_scrape ∈ gtbl := gm 570 (by decide +kernel) rfl
abbrev M_X7_learn : MT := (yX7_learn, cX7_learn, 2, (some .int), RX7)
theorem mc_X7_learn : Cond.code yX7_learn cX7_learn 2 (some .int) ∈ gtbl := gm 575 (by decide +kernel) rfl
theorem im_X7_learn : Cond.instanceMethod yX7_learn ∈ gtbl := gm 573 (by decide +kernel) rfl
theorem se_X7_learn : Cond.selects RX7 yX7_learn yX7_learn ∈ gtbl := gm 574 (by decide +kernel) rfl
abbrev M_X7_undo : MT := (yX7_undo, cX7_undo, 1, (some .int), RX7)
theorem mc_X7_undo : Cond.code yX7_undo cX7_undo 1 (some .int) ∈ gtbl := gm 579 (by decide +kernel) rfl
theorem im_X7_undo : Cond.instanceMethod yX7_undo ∈ gtbl := gm 577 (by decide +kernel) rfl
theorem se_X7_undo : Cond.selects RX7 yX7_undo yX7_undo ∈ gtbl := gm 578 (by decide +kernel) rfl
abbrev M_X7_image : MT := (yX7_image, cX7_image, 2, (some .int), RX7)
theorem mc_X7_image : Cond.code yX7_image cX7_image 2 (some .int) ∈ gtbl := gm 588 (by decide +kernel) rfl
theorem im_X7_image : Cond.instanceMethod yX7_image ∈ gtbl := gm 586 (by decide +kernel) rfl
theorem se_X7_image : Cond.selects RX7 yX7_image yX7_image ∈ gtbl := gm 587 (by decide +kernel) rfl
abbrev M_X7_restore : MT := (yX7_restore, cX7_restore, 2, (some .int), RX7)
theorem mc_X7_restore : Cond.code yX7_restore cX7_restore 2 (some .int) ∈ gtbl := gm 592 (by decide +kernel) rfl
theorem im_X7_restore : Cond.instanceMethod yX7_restore ∈ gtbl := gm 590 (by decide +kernel) rfl
theorem se_X7_restore : Cond.selects RX7 yX7_restore yX7_restore ∈ gtbl := gm 591 (by decide +kernel) rfl
abbrev M_X7_believed : MT := (yX7_believed, cX7_believed, 4, (some .int), RX7)
theorem mc_X7_believed : Cond.code yX7_believed cX7_believed 4 (some .int) ∈ gtbl := gm 596 (by decide +kernel) rfl
theorem im_X7_believed : Cond.instanceMethod yX7_believed ∈ gtbl := gm 594 (by decide +kernel) rfl
theorem se_X7_believed : Cond.selects RX7 yX7_believed yX7_believed ∈ gtbl := gm 595 (by decide +kernel) rfl
abbrev M_X7_strikes : MT := (yX7_strikes, cX7_strikes, 4, (some .int), RX7)
theorem mc_X7_strikes : Cond.code yX7_strikes cX7_strikes 4 (some .int) ∈ gtbl := gm 604 (by decide +kernel) rfl
theorem im_X7_strikes : Cond.instanceMethod yX7_strikes ∈ gtbl := gm 602 (by decide +kernel) rfl
theorem se_X7_strikes : Cond.selects RX7 yX7_strikes yX7_strikes ∈ gtbl := gm 603 (by decide +kernel) rfl
abbrev M_X7_course : MT := (yX7_course, cX7_course, 7, (some .int), RX7)
theorem mc_X7_course : Cond.code yX7_course cX7_course 7 (some .int) ∈ gtbl := gm 608 (by decide +kernel) rfl
theorem im_X7_course : Cond.instanceMethod yX7_course ∈ gtbl := gm 606 (by decide +kernel) rfl
theorem se_X7_course : Cond.selects RX7 yX7_course yX7_course ∈ gtbl := gm 607 (by decide +kernel) rfl
abbrev M_X7_crew : MT := (yX7_crew, cX7_crew, 2, (some .int), RX7)
theorem mc_X7_crew : Cond.code yX7_crew cX7_crew 2 (some .int) ∈ gtbl := gm 634 (by decide +kernel) rfl
theorem im_X7_crew : Cond.instanceMethod yX7_crew ∈ gtbl := gm 632 (by decide +kernel) rfl
theorem se_X7_crew : Cond.selects RX7 yX7_crew yX7_crew ∈ gtbl := gm 633 (by decide +kernel) rfl
abbrev M_X7_hears : MT := (yX7_hears, cX7_hears, 3, (some .int), RX7)
theorem mc_X7_hears : Cond.code yX7_hears cX7_hears 3 (some .int) ∈ gtbl := gm 655 (by decide +kernel) rfl
theorem im_X7_hears : Cond.instanceMethod yX7_hears ∈ gtbl := gm 653 (by decide +kernel) rfl
theorem se_X7_hears : Cond.selects RX7 yX7_hears yX7_hears ∈ gtbl := gm 654 (by decide +kernel) rfl
abbrev M_X7_links : MT := (yX7_links, cX7_links, 4, (some .int), RX7)
theorem mc_X7_links : Cond.code yX7_links cX7_links 4 (some .int) ∈ gtbl := gm 680 (by decide +kernel) rfl
theorem im_X7_links : Cond.instanceMethod yX7_links ∈ gtbl := gm 678 (by decide +kernel) rfl
theorem se_X7_links : Cond.selects RX7 yX7_links yX7_links ∈ gtbl := gm 679 (by decide +kernel) rfl
abbrev M_X7_talk : MT := (yX7_talk, cX7_talk, 5, (some .int), RX7)
theorem mc_X7_talk : Cond.code yX7_talk cX7_talk 5 (some .int) ∈ gtbl := gm 690 (by decide +kernel) rfl
theorem im_X7_talk : Cond.instanceMethod yX7_talk ∈ gtbl := gm 688 (by decide +kernel) rfl
theorem se_X7_talk : Cond.selects RX7 yX7_talk yX7_talk ∈ gtbl := gm 689 (by decide +kernel) rfl
abbrev M_X7_decades : MT := (yX7_decades, cX7_decades, 7, (some .int), RX7)
theorem mc_X7_decades : Cond.code yX7_decades cX7_decades 7 (some .int) ∈ gtbl := gm 721 (by decide +kernel) rfl
theorem im_X7_decades : Cond.instanceMethod yX7_decades ∈ gtbl := gm 719 (by decide +kernel) rfl
theorem se_X7_decades : Cond.selects RX7 yX7_decades yX7_decades ∈ gtbl := gm 720 (by decide +kernel) rfl
abbrev M_X7_sheet : MT := (yX7_sheet, cX7_sheet, 4, (some .int), RX7)
theorem mc_X7_sheet : Cond.code yX7_sheet cX7_sheet 4 (some .int) ∈ gtbl := gm 748 (by decide +kernel) rfl
theorem im_X7_sheet : Cond.instanceMethod yX7_sheet ∈ gtbl := gm 746 (by decide +kernel) rfl
theorem se_X7_sheet : Cond.selects RX7 yX7_sheet yX7_sheet ∈ gtbl := gm 747 (by decide +kernel) rfl
abbrev M_X7_drop : MT := (yX7_drop, cX7_drop, 3, (some .int), RX7)
theorem mc_X7_drop : Cond.code yX7_drop cX7_drop 3 (some .int) ∈ gtbl := gm 765 (by decide +kernel) rfl
theorem im_X7_drop : Cond.instanceMethod yX7_drop ∈ gtbl := gm 763 (by decide +kernel) rfl
theorem se_X7_drop : Cond.selects RX7 yX7_drop yX7_drop ∈ gtbl := gm 764 (by decide +kernel) rfl
abbrev M_X7_item : MT := (yX7_item, cX7_item, 7, (some .long), RX7)
theorem mc_X7_item : Cond.code yX7_item cX7_item 7 (some .long) ∈ gtbl := gm 769 (by decide +kernel) rfl
theorem im_X7_item : Cond.instanceMethod yX7_item ∈ gtbl := gm 767 (by decide +kernel) rfl
theorem se_X7_item : Cond.selects RX7 yX7_item yX7_item ∈ gtbl := gm 768 (by decide +kernel) rfl
abbrev M_X7_copy : MT := (yX7_copy, cX7_copy, 8, (some .int), RX7)
theorem mc_X7_copy : Cond.code yX7_copy cX7_copy 8 (some .int) ∈ gtbl := gm 790 (by decide +kernel) rfl
theorem im_X7_copy : Cond.instanceMethod yX7_copy ∈ gtbl := gm 788 (by decide +kernel) rfl
theorem se_X7_copy : Cond.selects RX7 yX7_copy yX7_copy ∈ gtbl := gm 789 (by decide +kernel) rfl
abbrev M_X7_log : MT := (yX7_log, cX7_log, 11, (some .int), RX7)
theorem mc_X7_log : Cond.code yX7_log cX7_log 11 (some .int) ∈ gtbl := gm 795 (by decide +kernel) rfl
theorem im_X7_log : Cond.instanceMethod yX7_log ∈ gtbl := gm 793 (by decide +kernel) rfl
theorem se_X7_log : Cond.selects RX7 yX7_log yX7_log ∈ gtbl := gm 794 (by decide +kernel) rfl
abbrev M_X7_rows : MT := (yX7_rows, cX7_rows, 9, (some .int), RX7)
theorem mc_X7_rows : Cond.code yX7_rows cX7_rows 9 (some .int) ∈ gtbl := gm 808 (by decide +kernel) rfl
theorem im_X7_rows : Cond.instanceMethod yX7_rows ∈ gtbl := gm 806 (by decide +kernel) rfl
theorem se_X7_rows : Cond.selects RX7 yX7_rows yX7_rows ∈ gtbl := gm 807 (by decide +kernel) rfl
abbrev M_X7_kinds : MT := (yX7_kinds, cX7_kinds, 10, (some .int), RX7)
theorem mc_X7_kinds : Cond.code yX7_kinds cX7_kinds 10 (some .int) ∈ gtbl := gm 824 (by decide +kernel) rfl
theorem im_X7_kinds : Cond.instanceMethod yX7_kinds ∈ gtbl := gm 822 (by decide +kernel) rfl
theorem se_X7_kinds : Cond.selects RX7 yX7_kinds yX7_kinds ∈ gtbl := gm 823 (by decide +kernel) rfl
abbrev M_X7_fog : MT := (yX7_fog, cX7_fog, 12, (some .int), RX7)
theorem mc_X7_fog : Cond.code yX7_fog cX7_fog 12 (some .int) ∈ gtbl := gm 853 (by decide +kernel) rfl
theorem im_X7_fog : Cond.instanceMethod yX7_fog ∈ gtbl := gm 851 (by decide +kernel) rfl
theorem se_X7_fog : Cond.selects RX7 yX7_fog yX7_fog ∈ gtbl := gm 852 (by decide +kernel) rfl
abbrev M_X7_count : MT := (yX7_count, cX7_count, 2, (some .int), RX7)
theorem mc_X7_count : Cond.code yX7_count cX7_count 2 (some .int) ∈ gtbl := gm 867 (by decide +kernel) rfl
theorem im_X7_count : Cond.instanceMethod yX7_count ∈ gtbl := gm 865 (by decide +kernel) rfl
theorem se_X7_count : Cond.selects RX7 yX7_count yX7_count ∈ gtbl := gm 866 (by decide +kernel) rfl
abbrev M_X7_isTeller : MT := (yX7_isTeller, cX7_isTeller, 1, (some .boolean), RX7)
theorem mc_X7_isTeller : Cond.code yX7_isTeller cX7_isTeller 1 (some .boolean) ∈ gtbl := gm 470 (by decide +kernel) rfl
theorem ss_X7_isTeller : Cond.static yX7_isTeller ∈ gtbl := gm 469 (by decide +kernel) rfl
abbrev M_X7_isWord : MT := (yX7_isWord, cX7_isWord, 2, (some .boolean), RX7)
theorem mc_X7_isWord : Cond.code yX7_isWord cX7_isWord 2 (some .boolean) ∈ gtbl := gm 488 (by decide +kernel) rfl
theorem ss_X7_isWord : Cond.static yX7_isWord ∈ gtbl := gm 487 (by decide +kernel) rfl
abbrev M_X7_isPart : MT := (yX7_isPart, cX7_isPart, 1, (some .boolean), RX7)
theorem mc_X7_isPart : Cond.code yX7_isPart cX7_isPart 1 (some .boolean) ∈ gtbl := gm 725 (by decide +kernel) rfl
theorem ss_X7_isPart : Cond.static yX7_isPart ∈ gtbl := gm 724 (by decide +kernel) rfl
abbrev M_X7_isHearing : MT := (yX7_isHearing, cX7_isHearing, 1, (some .boolean), RX7)
theorem mc_X7_isHearing : Cond.code yX7_isHearing cX7_isHearing 1 (some .boolean) ∈ gtbl := gm 658 (by decide +kernel) rfl
theorem ss_X7_isHearing : Cond.static yX7_isHearing ∈ gtbl := gm 657 (by decide +kernel) rfl
abbrev M_X7_isSheet : MT := (yX7_isSheet, cX7_isSheet, 1, (some .boolean), RX7)
theorem mc_X7_isSheet : Cond.code yX7_isSheet cX7_isSheet 1 (some .boolean) ∈ gtbl := gm 751 (by decide +kernel) rfl
theorem ss_X7_isSheet : Cond.static yX7_isSheet ∈ gtbl := gm 750 (by decide +kernel) rfl
abbrev M_X7_isLane : MT := (yX7_isLane, cX7_isLane, 1, (some .boolean), RX7)
theorem mc_X7_isLane : Cond.code yX7_isLane cX7_isLane 1 (some .boolean) ∈ gtbl := gm 754 (by decide +kernel) rfl
theorem ss_X7_isLane : Cond.static yX7_isLane ∈ gtbl := gm 753 (by decide +kernel) rfl
abbrev M_X7_canTell : MT := (yX7_canTell, cX7_canTell, 5, (some .boolean), RX7)
theorem mc_X7_canTell : Cond.code yX7_canTell cX7_canTell 5 (some .boolean) ∈ gtbl := gm 799 (by decide +kernel) rfl
theorem im_X7_canTell : Cond.instanceMethod yX7_canTell ∈ gtbl := gm 798 (by decide +kernel) rfl
theorem se_X7_canTell : Cond.selects RX7 yX7_canTell yX7_canTell ∈ gtbl := gs 28 (by decide +kernel) rfl
abbrev M_X7_refusalOf : MT := (yX7_refusalOf, cX7_refusalOf, 6, (some .int), RX7)
theorem mc_X7_refusalOf : Cond.code yX7_refusalOf cX7_refusalOf 6 (some .int) ∈ gtbl := gm 774 (by decide +kernel) rfl
theorem im_X7_refusalOf : Cond.instanceMethod yX7_refusalOf ∈ gtbl := gm 773 (by decide +kernel) rfl
theorem se_X7_refusalOf : Cond.selects RX7 yX7_refusalOf yX7_refusalOf ∈ gtbl := gs 26 (by decide +kernel) rfl
abbrev M_X7_isUnder : MT := (yX7_isUnder, cX7_isUnder, 4, (some .boolean), RX7)
theorem mc_X7_isUnder : Cond.code yX7_isUnder cX7_isUnder 4 (some .boolean) ∈ gtbl := gm 451 (by decide +kernel) rfl
theorem ss_X7_isUnder : Cond.static yX7_isUnder ∈ gtbl := gm 450 (by decide +kernel) rfl
abbrev M_X7_doubtBy : MT := (yX7_doubtBy, cX7_doubtBy, 4, (some .int), RX7)
theorem mc_X7_doubtBy : Cond.code yX7_doubtBy cX7_doubtBy 4 (some .int) ∈ gtbl := gm 481 (by decide +kernel) rfl
theorem ss_X7_doubtBy : Cond.static yX7_doubtBy ∈ gtbl := gm 480 (by decide +kernel) rfl
abbrev M_X7_turned : MT := (yX7_turned, cX7_turned, 4, (some .int), RX7)
theorem mc_X7_turned : Cond.code yX7_turned cX7_turned 4 (some .int) ∈ gtbl := gm 516 (by decide +kernel) rfl
theorem ss_X7_turned : Cond.static yX7_turned ∈ gtbl := gm 515 (by decide +kernel) rfl
abbrev M_X7_mirrored : MT := (yX7_mirrored, cX7_mirrored, 1, (some .int), RX7)
theorem mc_X7_mirrored : Cond.code yX7_mirrored cX7_mirrored 1 (some .int) ∈ gtbl := gm 519 (by decide +kernel) rfl
theorem ss_X7_mirrored : Cond.static yX7_mirrored ∈ gtbl := gm 518 (by decide +kernel) rfl
abbrev M_X7_setOut : MT := (yX7_setOut, cX7_setOut, 3, (some (.object "FigureHeads$Voyage")), RX7)
theorem mc_X7_setOut : Cond.code yX7_setOut cX7_setOut 3 (some (.object "FigureHeads$Voyage")) ∈ gtbl := gm 493 (by decide +kernel) rfl
theorem im_X7_setOut : Cond.instanceMethod yX7_setOut ∈ gtbl := gm 492 (by decide +kernel) rfl
theorem se_X7_setOut : Cond.selects RX7 yX7_setOut yX7_setOut ∈ gtbl := gs 10 (by decide +kernel) rfl
abbrev M_X7_arrive : MT := (yX7_arrive, cX7_arrive, 3, (some .int), RX7)
theorem mc_X7_arrive : Cond.code yX7_arrive cX7_arrive 3 (some .int) ∈ gtbl := gm 546 (by decide +kernel) rfl
theorem im_X7_arrive : Cond.instanceMethod yX7_arrive ∈ gtbl := gm 545 (by decide +kernel) rfl
theorem se_X7_arrive : Cond.selects RX7 yX7_arrive yX7_arrive ∈ gtbl := gs 13 (by decide +kernel) rfl
abbrev M_X7_mostCrewed : MT := (yX7_mostCrewed, cX7_mostCrewed, 5, (some .int), RX7)
theorem mc_X7_mostCrewed : Cond.code yX7_mostCrewed cX7_mostCrewed 5 (some .int) ∈ gtbl := gm 638 (by decide +kernel) rfl
theorem im_X7_mostCrewed : Cond.instanceMethod yX7_mostCrewed ∈ gtbl := gm 637 (by decide +kernel) rfl
theorem se_X7_mostCrewed : Cond.selects RX7 yX7_mostCrewed yX7_mostCrewed ∈ gtbl := gs 17 (by decide +kernel) rfl
abbrev M_X7_mayTake : MT := (yX7_mayTake, cX7_mayTake, 4, (some .boolean), RX7)
theorem mc_X7_mayTake : Cond.code yX7_mayTake cX7_mayTake 4 (some .boolean) ∈ gtbl := gm 642 (by decide +kernel) rfl
theorem im_X7_mayTake : Cond.instanceMethod yX7_mayTake ∈ gtbl := gm 641 (by decide +kernel) rfl
theorem se_X7_mayTake : Cond.selects RX7 yX7_mayTake yX7_mayTake ∈ gtbl := gs 18 (by decide +kernel) rfl
abbrev M_X7_crewOf : MT := (yX7_crewOf, cX7_crewOf, 5, (some .int), RX7)
theorem mc_X7_crewOf : Cond.code yX7_crewOf cX7_crewOf 5 (some .int) ∈ gtbl := gm 647 (by decide +kernel) rfl
theorem im_X7_crewOf : Cond.instanceMethod yX7_crewOf ∈ gtbl := gm 646 (by decide +kernel) rfl
theorem se_X7_crewOf : Cond.selects RX7 yX7_crewOf yX7_crewOf ∈ gtbl := gs 19 (by decide +kernel) rfl
abbrev M_X7_firstTeller : MT := (yX7_firstTeller, cX7_firstTeller, 5, (some .int), RX7)
theorem mc_X7_firstTeller : Cond.code yX7_firstTeller cX7_firstTeller 5 (some .int) ∈ gtbl := gm 651 (by decide +kernel) rfl
theorem im_X7_firstTeller : Cond.instanceMethod yX7_firstTeller ∈ gtbl := gm 650 (by decide +kernel) rfl
theorem se_X7_firstTeller : Cond.selects RX7 yX7_firstTeller yX7_firstTeller ∈ gtbl := gs 20 (by decide +kernel) rfl
abbrev M_X7_nextVoyage : MT := (yX7_nextVoyage, cX7_nextVoyage, 3, (some (.object "FigureHeads$Voyage")), RX7)
theorem mc_X7_nextVoyage : Cond.code yX7_nextVoyage cX7_nextVoyage 3 (some (.object "FigureHeads$Voyage")) ∈ gtbl := gm 713 (by decide +kernel) rfl
theorem im_X7_nextVoyage : Cond.instanceMethod yX7_nextVoyage ∈ gtbl := gm 712 (by decide +kernel) rfl
theorem se_X7_nextVoyage : Cond.selects RX7 yX7_nextVoyage yX7_nextVoyage ∈ gtbl := gs 24 (by decide +kernel) rfl
abbrev M_X7_canGoDeeper : MT := (yX7_canGoDeeper, cX7_canGoDeeper, 3, (some .boolean), RX7)
theorem mc_X7_canGoDeeper : Cond.code yX7_canGoDeeper cX7_canGoDeeper 3 (some .boolean) ∈ gtbl := gm 703 (by decide +kernel) rfl
theorem im_X7_canGoDeeper : Cond.instanceMethod yX7_canGoDeeper ∈ gtbl := gm 702 (by decide +kernel) rfl
theorem se_X7_canGoDeeper : Cond.selects RX7 yX7_canGoDeeper yX7_canGoDeeper ∈ gtbl := gs 23 (by decide +kernel) rfl
abbrev M_X7_talked : MT := (yX7_talked, cX7_talked, 9, (some .int), RX7)
theorem mc_X7_talked : Cond.code yX7_talked cX7_talked 9 (some .int) ∈ gtbl := gm 699 (by decide +kernel) rfl
theorem im_X7_talked : Cond.instanceMethod yX7_talked ∈ gtbl := gm 698 (by decide +kernel) rfl
theorem se_X7_talked : Cond.selects RX7 yX7_talked yX7_talked ∈ gtbl := gs 22 (by decide +kernel) rfl
abbrev M_X7_countRows : MT := (yX7_countRows, cX7_countRows, 8, (some .int), RX7)
theorem mc_X7_countRows : Cond.code yX7_countRows cX7_countRows 8 (some .int) ∈ gtbl := gm 812 (by decide +kernel) rfl
theorem im_X7_countRows : Cond.instanceMethod yX7_countRows ∈ gtbl := gm 811 (by decide +kernel) rfl
theorem se_X7_countRows : Cond.selects RX7 yX7_countRows yX7_countRows ∈ gtbl := gs 29 (by decide +kernel) rfl
abbrev M_X7_firstRow : MT := (yX7_firstRow, cX7_firstRow, 9, (some .int), RX7)
theorem mc_X7_firstRow : Cond.code yX7_firstRow cX7_firstRow 9 (some .int) ∈ gtbl := gm 820 (by decide +kernel) rfl
theorem im_X7_firstRow : Cond.instanceMethod yX7_firstRow ∈ gtbl := gm 819 (by decide +kernel) rfl
theorem se_X7_firstRow : Cond.selects RX7 yX7_firstRow yX7_firstRow ∈ gtbl := gs 31 (by decide +kernel) rfl
abbrev M_X7_leadsTo : MT := (yX7_leadsTo, cX7_leadsTo, 7, (some .boolean), RX7)
theorem mc_X7_leadsTo : Cond.code yX7_leadsTo cX7_leadsTo 7 (some .boolean) ∈ gtbl := gm 816 (by decide +kernel) rfl
theorem im_X7_leadsTo : Cond.instanceMethod yX7_leadsTo ∈ gtbl := gm 815 (by decide +kernel) rfl
theorem se_X7_leadsTo : Cond.selects RX7 yX7_leadsTo yX7_leadsTo ∈ gtbl := gs 30 (by decide +kernel) rfl
abbrev M_X7_fogged : MT := (yX7_fogged, cX7_fogged, 9, (some .int), RX7)
theorem mc_X7_fogged : Cond.code yX7_fogged cX7_fogged 9 (some .int) ∈ gtbl := gm 857 (by decide +kernel) rfl
theorem im_X7_fogged : Cond.instanceMethod yX7_fogged ∈ gtbl := gm 856 (by decide +kernel) rfl
theorem se_X7_fogged : Cond.selects RX7 yX7_fogged yX7_fogged ∈ gtbl := gs 37 (by decide +kernel) rfl
abbrev M_X7_tenToThe : MT := (yX7_tenToThe, cX7_tenToThe, 3, (some .int), RX7)
theorem mc_X7_tenToThe : Cond.code yX7_tenToThe cX7_tenToThe 3 (some .int) ∈ gtbl := gm 860 (by decide +kernel) rfl
theorem ss_X7_tenToThe : Cond.static yX7_tenToThe ∈ gtbl := gm 859 (by decide +kernel) rfl
abbrev M_X7_greatestDivisor : MT := (yX7_greatestDivisor, cX7_greatestDivisor, 6, (some .int), RX7)
theorem mc_X7_greatestDivisor : Cond.code yX7_greatestDivisor cX7_greatestDivisor 6 (some .int) ∈ gtbl := gm 863 (by decide +kernel) rfl
theorem ss_X7_greatestDivisor : Cond.static yX7_greatestDivisor ∈ gtbl := gm 862 (by decide +kernel) rfl
abbrev M_X7_fittingKinds : MT := (yX7_fittingKinds, cX7_fittingKinds, 9, (some .int), RX7)
theorem mc_X7_fittingKinds : Cond.code yX7_fittingKinds cX7_fittingKinds 9 (some .int) ∈ gtbl := gm 828 (by decide +kernel) rfl
theorem im_X7_fittingKinds : Cond.instanceMethod yX7_fittingKinds ∈ gtbl := gm 827 (by decide +kernel) rfl
theorem se_X7_fittingKinds : Cond.selects RX7 yX7_fittingKinds yX7_fittingKinds ∈ gtbl := gs 32 (by decide +kernel) rfl
abbrev M_X7_wordToTry : MT := (yX7_wordToTry, cX7_wordToTry, 7, (some .int), RX7)
theorem mc_X7_wordToTry : Cond.code yX7_wordToTry cX7_wordToTry 7 (some .int) ∈ gtbl := gm 837 (by decide +kernel) rfl
theorem im_X7_wordToTry : Cond.instanceMethod yX7_wordToTry ∈ gtbl := gm 836 (by decide +kernel) rfl
theorem se_X7_wordToTry : Cond.selects RX7 yX7_wordToTry yX7_wordToTry ∈ gtbl := gs 33 (by decide +kernel) rfl
abbrev M_X7_greatestPart : MT := (yX7_greatestPart, cX7_greatestPart, 6, (some .int), RX7)
theorem mc_X7_greatestPart : Cond.code yX7_greatestPart cX7_greatestPart 6 (some .int) ∈ gtbl := gm 841 (by decide +kernel) rfl
theorem im_X7_greatestPart : Cond.instanceMethod yX7_greatestPart ∈ gtbl := gm 840 (by decide +kernel) rfl
theorem se_X7_greatestPart : Cond.selects RX7 yX7_greatestPart yX7_greatestPart ∈ gtbl := gs 34 (by decide +kernel) rfl
abbrev M_X7_cellBehind : MT := (yX7_cellBehind, cX7_cellBehind, 5, (some .int), RX7)
theorem mc_X7_cellBehind : Cond.code yX7_cellBehind cX7_cellBehind 5 (some .int) ∈ gtbl := gm 845 (by decide +kernel) rfl
theorem im_X7_cellBehind : Cond.instanceMethod yX7_cellBehind ∈ gtbl := gm 844 (by decide +kernel) rfl
theorem se_X7_cellBehind : Cond.selects RX7 yX7_cellBehind yX7_cellBehind ∈ gtbl := gs 35 (by decide +kernel) rfl
abbrev M_X7_partAlike : MT := (yX7_partAlike, cX7_partAlike, 5, (some .int), RX7)
theorem mc_X7_partAlike : Cond.code yX7_partAlike cX7_partAlike 5 (some .int) ∈ gtbl := gm 849 (by decide +kernel) rfl
theorem im_X7_partAlike : Cond.instanceMethod yX7_partAlike ∈ gtbl := gm 848 (by decide +kernel) rfl
theorem se_X7_partAlike : Cond.selects RX7 yX7_partAlike yX7_partAlike ∈ gtbl := gs 36 (by decide +kernel) rfl
abbrev M_X7_passDecade : MT := (yX7_passDecade, cX7_passDecade, 7, none, RX7)
theorem mc_X7_passDecade : Cond.code yX7_passDecade cX7_passDecade 7 none ∈ gtbl := gm 731 (by decide +kernel) rfl
theorem im_X7_passDecade : Cond.instanceMethod yX7_passDecade ∈ gtbl := gm 730 (by decide +kernel) rfl
theorem se_X7_passDecade : Cond.selects RX7 yX7_passDecade yX7_passDecade ∈ gtbl := gs 25 (by decide +kernel) rfl
abbrev M_X8_init : MT := (yX8_init, cX8_init, 2, none, RX8)
theorem mc_X8_init : Cond.code yX8_init cX8_init 2 none ∈ gtbl := gm 877 (by decide +kernel) rfl
theorem im_X8_init : Cond.instanceMethod yX8_init ∈ gtbl := gm 876 (by decide +kernel) rfl
abbrev M_X8_in : MT := (yX8_in, cX8_in, 6, (some .boolean), RX8)
theorem mc_X8_in : Cond.code yX8_in cX8_in 6 (some .boolean) ∈ gtbl := gm 929 (by decide +kernel) rfl
theorem ss_X8_in : Cond.static yX8_in ∈ gtbl := gm 928 (by decide +kernel) rfl
abbrev M_X8_has : MT := (yX8_has, cX8_has, 2, (some .boolean), RX8)
theorem mc_X8_has : Cond.code yX8_has cX8_has 2 (some .boolean) ∈ gtbl := gm 1127 (by decide +kernel) rfl
theorem ss_X8_has : Cond.static yX8_has ∈ gtbl := gm 1126 (by decide +kernel) rfl
abbrev M_X8_bring : MT := (yX8_bring, cX8_bring, 5, none, RX8)
theorem mc_X8_bring : Cond.code yX8_bring cX8_bring 5 none ∈ gtbl := gm 975 (by decide +kernel) rfl
theorem im_X8_bring : Cond.instanceMethod yX8_bring ∈ gtbl := gm 974 (by decide +kernel) rfl
theorem se_X8_bring : Cond.selects RX8 yX8_bring yX8_bring ∈ gtbl := gs 45 (by decide +kernel) rfl
abbrev M_X8_isFleet : MT := (yX8_isFleet, cX8_isFleet, 1, (some .boolean), RX8)
theorem mc_X8_isFleet : Cond.code yX8_isFleet cX8_isFleet 1 (some .boolean) ∈ gtbl := gm 1007 (by decide +kernel) rfl
theorem im_X8_isFleet : Cond.instanceMethod yX8_isFleet ∈ gtbl := gm 1006 (by decide +kernel) rfl
theorem se_X8_isFleet : Cond.selects RX8 yX8_isFleet yX8_isFleet ∈ gtbl := gs 48 (by decide +kernel) rfl
abbrev M_X8_isShip : MT := (yX8_isShip, cX8_isShip, 2, (some .boolean), RX8)
theorem mc_X8_isShip : Cond.code yX8_isShip cX8_isShip 2 (some .boolean) ∈ gtbl := gm 983 (by decide +kernel) rfl
theorem im_X8_isShip : Cond.instanceMethod yX8_isShip ∈ gtbl := gm 982 (by decide +kernel) rfl
theorem se_X8_isShip : Cond.selects RX8 yX8_isShip yX8_isShip ∈ gtbl := gs 46 (by decide +kernel) rfl
abbrev M_X8_isTeller : MT := (yX8_isTeller, cX8_isTeller, 1, (some .boolean), RX8)
theorem mc_X8_isTeller : Cond.code yX8_isTeller cX8_isTeller 1 (some .boolean) ∈ gtbl := gm 1010 (by decide +kernel) rfl
theorem ss_X8_isTeller : Cond.static yX8_isTeller ∈ gtbl := gm 1009 (by decide +kernel) rfl
abbrev M_X8_isCellIn : MT := (yX8_isCellIn, cX8_isCellIn, 4, (some .boolean), RX8)
theorem mc_X8_isCellIn : Cond.code yX8_isCellIn cX8_isCellIn 4 (some .boolean) ∈ gtbl := gm 968 (by decide +kernel) rfl
theorem im_X8_isCellIn : Cond.instanceMethod yX8_isCellIn ∈ gtbl := gm 967 (by decide +kernel) rfl
theorem se_X8_isCellIn : Cond.selects RX8 yX8_isCellIn yX8_isCellIn ∈ gtbl := gs 44 (by decide +kernel) rfl
abbrev M_X8_isCell : MT := (yX8_isCell, cX8_isCell, 2, (some .boolean), RX8)
theorem mc_X8_isCell : Cond.code yX8_isCell cX8_isCell 2 (some .boolean) ∈ gtbl := gm 999 (by decide +kernel) rfl
theorem im_X8_isCell : Cond.instanceMethod yX8_isCell ∈ gtbl := gm 998 (by decide +kernel) rfl
theorem se_X8_isCell : Cond.selects RX8 yX8_isCell yX8_isCell ∈ gtbl := gs 47 (by decide +kernel) rfl
abbrev M_X8_feed : MT := (yX8_feed, cX8_feed, 2, (some .int), RX8)
theorem mc_X8_feed : Cond.code yX8_feed cX8_feed 2 (some .int) ∈ gtbl := gm 925 (by decide +kernel) rfl
theorem im_X8_feed : Cond.instanceMethod yX8_feed ∈ gtbl := gm 923 (by decide +kernel) rfl
theorem se_X8_feed : Cond.selects RX8 yX8_feed yX8_feed ∈ gtbl := gm 924 (by decide +kernel) rfl
abbrev M_X8_here : MT := (yX8_here, cX8_here, 1, (some .int), RX8)
theorem mc_X8_here : Cond.code yX8_here cX8_here 1 (some .int) ∈ gtbl := gm 945 (by decide +kernel) rfl
theorem im_X8_here : Cond.instanceMethod yX8_here ∈ gtbl := gm 944 (by decide +kernel) rfl
theorem se_X8_here : Cond.selects RX8 yX8_here yX8_here ∈ gtbl := gs 40 (by decide +kernel) rfl
abbrev M_X8_takes : MT := (yX8_takes, cX8_takes, 2, (some .boolean), RX8)
theorem mc_X8_takes : Cond.code yX8_takes cX8_takes 2 (some .boolean) ∈ gtbl := gm 941 (by decide +kernel) rfl
theorem im_X8_takes : Cond.instanceMethod yX8_takes ∈ gtbl := gm 940 (by decide +kernel) rfl
theorem se_X8_takes : Cond.selects RX8 yX8_takes yX8_takes ∈ gtbl := gs 39 (by decide +kernel) rfl
abbrev M_X8_seaOf : MT := (yX8_seaOf, cX8_seaOf, 1, (some .int), RX8)
theorem mc_X8_seaOf : Cond.code yX8_seaOf cX8_seaOf 1 (some .int) ∈ gtbl := gm 952 (by decide +kernel) rfl
theorem ss_X8_seaOf : Cond.static yX8_seaOf ∈ gtbl := gm 951 (by decide +kernel) rfl
abbrev M_X8_kindOf : MT := (yX8_kindOf, cX8_kindOf, 1, (some .int), RX8)
theorem mc_X8_kindOf : Cond.code yX8_kindOf cX8_kindOf 1 (some .int) ∈ gtbl := gm 959 (by decide +kernel) rfl
theorem ss_X8_kindOf : Cond.static yX8_kindOf ∈ gtbl := gm 958 (by decide +kernel) rfl
abbrev M_X8_lookOf : MT := (yX8_lookOf, cX8_lookOf, 1, (some .int), RX8)
theorem mc_X8_lookOf : Cond.code yX8_lookOf cX8_lookOf 1 (some .int) ∈ gtbl := gm 971 (by decide +kernel) rfl
theorem ss_X8_lookOf : Cond.static yX8_lookOf ∈ gtbl := gm 970 (by decide +kernel) rfl
abbrev M_X8_figure : MT := (yX8_figure, cX8_figure, 3, (some .int), RX8)
theorem mc_X8_figure : Cond.code yX8_figure cX8_figure 3 (some .int) ∈ gtbl := gm 963 (by decide +kernel) rfl
theorem im_X8_figure : Cond.instanceMethod yX8_figure ∈ gtbl := gm 962 (by decide +kernel) rfl
theorem se_X8_figure : Cond.selects RX8 yX8_figure yX8_figure ∈ gtbl := gs 43 (by decide +kernel) rfl
abbrev M_X8_takesRow : MT := (yX8_takesRow, cX8_takesRow, 4, (some .boolean), RX8)
theorem mc_X8_takesRow : Cond.code yX8_takesRow cX8_takesRow 4 (some .boolean) ∈ gtbl := gm 949 (by decide +kernel) rfl
theorem im_X8_takesRow : Cond.instanceMethod yX8_takesRow ∈ gtbl := gm 948 (by decide +kernel) rfl
theorem se_X8_takesRow : Cond.selects RX8 yX8_takesRow yX8_takesRow ∈ gtbl := gs 41 (by decide +kernel) rfl
abbrev M_X8_takesShip : MT := (yX8_takesShip, cX8_takesShip, 7, (some .boolean), RX8)
theorem mc_X8_takesShip : Cond.code yX8_takesShip cX8_takesShip 7 (some .boolean) ∈ gtbl := gm 956 (by decide +kernel) rfl
theorem im_X8_takesShip : Cond.instanceMethod yX8_takesShip ∈ gtbl := gm 955 (by decide +kernel) rfl
theorem se_X8_takesShip : Cond.selects RX8 yX8_takesShip yX8_takesShip ∈ gtbl := gs 42 (by decide +kernel) rfl
abbrev M_X8_takesAll : MT := (yX8_takesAll, cX8_takesAll, 3, (some .boolean), RX8)
theorem mc_X8_takesAll : Cond.code yX8_takesAll cX8_takesAll 3 (some .boolean) ∈ gtbl := gm 937 (by decide +kernel) rfl
theorem im_X8_takesAll : Cond.instanceMethod yX8_takesAll ∈ gtbl := gm 936 (by decide +kernel) rfl
theorem se_X8_takesAll : Cond.selects RX8 yX8_takesAll yX8_takesAll ∈ gtbl := gs 38 (by decide +kernel) rfl
abbrev M_X8_fleet : MT := (yX8_fleet, cX8_fleet, 2, (some .int), RX8)
theorem mc_X8_fleet : Cond.code yX8_fleet cX8_fleet 2 (some .int) ∈ gtbl := gm 933 (by decide +kernel) rfl
theorem im_X8_fleet : Cond.instanceMethod yX8_fleet ∈ gtbl := gm 931 (by decide +kernel) rfl
theorem se_X8_fleet : Cond.selects RX8 yX8_fleet yX8_fleet ∈ gtbl := gm 932 (by decide +kernel) rfl
abbrev M_X8_ship : MT := (yX8_ship, cX8_ship, 3, (some .int), RX8)
theorem mc_X8_ship : Cond.code yX8_ship cX8_ship 3 (some .int) ∈ gtbl := gm 979 (by decide +kernel) rfl
theorem im_X8_ship : Cond.instanceMethod yX8_ship ∈ gtbl := gm 977 (by decide +kernel) rfl
theorem se_X8_ship : Cond.selects RX8 yX8_ship yX8_ship ∈ gtbl := gm 978 (by decide +kernel) rfl
abbrev M_X8_isA : MT := (yX8_isA, cX8_isA, 2, (some .boolean), RX8)
theorem mc_X8_isA : Cond.code yX8_isA cX8_isA 2 (some .boolean) ∈ gtbl := gm 991 (by decide +kernel) rfl
theorem ss_X8_isA : Cond.static yX8_isA ∈ gtbl := gm 990 (by decide +kernel) rfl
abbrev M_X8_as : MT := (yX8_as, cX8_as, 3, (some .int), RX8)
theorem mc_X8_as : Cond.code yX8_as cX8_as 3 (some .int) ∈ gtbl := gm 987 (by decide +kernel) rfl
theorem im_X8_as : Cond.instanceMethod yX8_as ∈ gtbl := gm 985 (by decide +kernel) rfl
theorem se_X8_as : Cond.selects RX8 yX8_as yX8_as ∈ gtbl := gm 986 (by decide +kernel) rfl
abbrev M_X8_sea : MT := (yX8_sea, cX8_sea, 2, (some .int), RX8)
theorem mc_X8_sea : Cond.code yX8_sea cX8_sea 2 (some .int) ∈ gtbl := gm 995 (by decide +kernel) rfl
theorem im_X8_sea : Cond.instanceMethod yX8_sea ∈ gtbl := gm 993 (by decide +kernel) rfl
theorem se_X8_sea : Cond.selects RX8 yX8_sea yX8_sea ∈ gtbl := gm 994 (by decide +kernel) rfl
abbrev M_X8_credit : MT := (yX8_credit, cX8_credit, 2, (some .int), RX8)
theorem mc_X8_credit : Cond.code yX8_credit cX8_credit 2 (some .int) ∈ gtbl := gm 1003 (by decide +kernel) rfl
theorem im_X8_credit : Cond.instanceMethod yX8_credit ∈ gtbl := gm 1001 (by decide +kernel) rfl
theorem se_X8_credit : Cond.selects RX8 yX8_credit yX8_credit ∈ gtbl := gm 1002 (by decide +kernel) rfl
abbrev M_X8_oak : MT := (yX8_oak, cX8_oak, 3, (some .int), RX8)
theorem mc_X8_oak : Cond.code yX8_oak cX8_oak 3 (some .int) ∈ gtbl := gm 1023 (by decide +kernel) rfl
theorem im_X8_oak : Cond.instanceMethod yX8_oak ∈ gtbl := gm 1022 (by decide +kernel) rfl
theorem se_X8_oak : Cond.selects RX8 yX8_oak yX8_oak ∈ gtbl := gs 50 (by decide +kernel) rfl
abbrev M_X8_doubtIn : MT := (yX8_doubtIn, cX8_doubtIn, 4, (some .int), RX8)
theorem mc_X8_doubtIn : Cond.code yX8_doubtIn cX8_doubtIn 4 (some .int) ∈ gtbl := gm 1019 (by decide +kernel) rfl
theorem im_X8_doubtIn : Cond.instanceMethod yX8_doubtIn ∈ gtbl := gm 1018 (by decide +kernel) rfl
theorem se_X8_doubtIn : Cond.selects RX8 yX8_doubtIn yX8_doubtIn ∈ gtbl := gs 49 (by decide +kernel) rfl
abbrev M_X8_believesIn : MT := (yX8_believesIn, cX8_believesIn, 4, (some .boolean), RX8)
theorem mc_X8_believesIn : Cond.code yX8_believesIn cX8_believesIn 4 (some .boolean) ∈ gtbl := gm 1043 (by decide +kernel) rfl
theorem im_X8_believesIn : Cond.instanceMethod yX8_believesIn ∈ gtbl := gm 1042 (by decide +kernel) rfl
theorem se_X8_believesIn : Cond.selects RX8 yX8_believesIn yX8_believesIn ∈ gtbl := gs 53 (by decide +kernel) rfl
abbrev M_X8_doubt : MT := (yX8_doubt, cX8_doubt, 3, (some .int), RX8)
theorem mc_X8_doubt : Cond.code yX8_doubt cX8_doubt 3 (some .int) ∈ gtbl := gm 1015 (by decide +kernel) rfl
theorem im_X8_doubt : Cond.instanceMethod yX8_doubt ∈ gtbl := gm 1013 (by decide +kernel) rfl
theorem se_X8_doubt : Cond.selects RX8 yX8_doubt yX8_doubt ∈ gtbl := gm 1014 (by decide +kernel) rfl
abbrev M_X8_turned : MT := (yX8_turned, cX8_turned, 5, (some .int), RX8)
theorem mc_X8_turned : Cond.code yX8_turned cX8_turned 5 (some .int) ∈ gtbl := gm 1047 (by decide +kernel) rfl
theorem im_X8_turned : Cond.instanceMethod yX8_turned ∈ gtbl := gm 1046 (by decide +kernel) rfl
theorem se_X8_turned : Cond.selects RX8 yX8_turned yX8_turned ∈ gtbl := gs 54 (by decide +kernel) rfl
abbrev M_X8_nextOf : MT := (yX8_nextOf, cX8_nextOf, 6, (some .int), RX8)
theorem mc_X8_nextOf : Cond.code yX8_nextOf cX8_nextOf 6 (some .int) ∈ gtbl := gm 1055 (by decide +kernel) rfl
theorem im_X8_nextOf : Cond.instanceMethod yX8_nextOf ∈ gtbl := gm 1054 (by decide +kernel) rfl
theorem se_X8_nextOf : Cond.selects RX8 yX8_nextOf yX8_nextOf ∈ gtbl := gs 56 (by decide +kernel) rfl
abbrev M_X8_wormed : MT := (yX8_wormed, cX8_wormed, 3, none, RX8)
theorem mc_X8_wormed : Cond.code yX8_wormed cX8_wormed 3 none ∈ gtbl := gm 1059 (by decide +kernel) rfl
theorem im_X8_wormed : Cond.instanceMethod yX8_wormed ∈ gtbl := gm 1058 (by decide +kernel) rfl
theorem se_X8_wormed : Cond.selects RX8 yX8_wormed yX8_wormed ∈ gtbl := gs 57 (by decide +kernel) rfl
abbrev M_X8_goes : MT := (yX8_goes, cX8_goes, 4, (some .boolean), RX8)
theorem mc_X8_goes : Cond.code yX8_goes cX8_goes 4 (some .boolean) ∈ gtbl := gm 1051 (by decide +kernel) rfl
theorem im_X8_goes : Cond.instanceMethod yX8_goes ∈ gtbl := gm 1050 (by decide +kernel) rfl
theorem se_X8_goes : Cond.selects RX8 yX8_goes yX8_goes ∈ gtbl := gs 55 (by decide +kernel) rfl
abbrev M_X8_credits : MT := (yX8_credits, cX8_credits, 5, none, RX8)
theorem mc_X8_credits : Cond.code yX8_credits cX8_credits 5 none ∈ gtbl := gm 1063 (by decide +kernel) rfl
theorem im_X8_credits : Cond.instanceMethod yX8_credits ∈ gtbl := gm 1062 (by decide +kernel) rfl
theorem se_X8_credits : Cond.selects RX8 yX8_credits yX8_credits ∈ gtbl := gs 58 (by decide +kernel) rfl
abbrev M_X8_says : MT := (yX8_says, cX8_says, 7, none, RX8)
theorem mc_X8_says : Cond.code yX8_says cX8_says 7 none ∈ gtbl := gm 1039 (by decide +kernel) rfl
theorem im_X8_says : Cond.instanceMethod yX8_says ∈ gtbl := gm 1038 (by decide +kernel) rfl
theorem se_X8_says : Cond.selects RX8 yX8_says yX8_says ∈ gtbl := gs 52 (by decide +kernel) rfl
abbrev M_X8_storms : MT := (yX8_storms, cX8_storms, 10, none, RX8)
theorem mc_X8_storms : Cond.code yX8_storms cX8_storms 10 none ∈ gtbl := gm 1071 (by decide +kernel) rfl
theorem im_X8_storms : Cond.instanceMethod yX8_storms ∈ gtbl := gm 1070 (by decide +kernel) rfl
theorem se_X8_storms : Cond.selects RX8 yX8_storms yX8_storms ∈ gtbl := gs 59 (by decide +kernel) rfl
abbrev M_X8_minds : MT := (yX8_minds, cX8_minds, 1, none, RX8)
theorem mc_X8_minds : Cond.code yX8_minds cX8_minds 1 none ∈ gtbl := gm 1035 (by decide +kernel) rfl
theorem im_X8_minds : Cond.instanceMethod yX8_minds ∈ gtbl := gm 1034 (by decide +kernel) rfl
theorem se_X8_minds : Cond.selects RX8 yX8_minds yX8_minds ∈ gtbl := gs 51 (by decide +kernel) rfl
abbrev M_X8_isWord : MT := (yX8_isWord, cX8_isWord, 2, (some .boolean), RX8)
theorem mc_X8_isWord : Cond.code yX8_isWord cX8_isWord 2 (some .boolean) ∈ gtbl := gm 1030 (by decide +kernel) rfl
theorem ss_X8_isWord : Cond.static yX8_isWord ∈ gtbl := gm 1029 (by decide +kernel) rfl
abbrev M_X8_say : MT := (yX8_say, cX8_say, 4, (some .int), RX8)
theorem mc_X8_say : Cond.code yX8_say cX8_say 4 (some .int) ∈ gtbl := gm 1027 (by decide +kernel) rfl
theorem im_X8_say : Cond.instanceMethod yX8_say ∈ gtbl := gm 1025 (by decide +kernel) rfl
theorem se_X8_say : Cond.selects RX8 yX8_say yX8_say ∈ gtbl := gm 1026 (by decide +kernel) rfl
abbrev M_X8_storm : MT := (yX8_storm, cX8_storm, 6, (some .int), RX8)
theorem mc_X8_storm : Cond.code yX8_storm cX8_storm 6 (some .int) ∈ gtbl := gm 1067 (by decide +kernel) rfl
theorem im_X8_storm : Cond.instanceMethod yX8_storm ∈ gtbl := gm 1065 (by decide +kernel) rfl
theorem se_X8_storm : Cond.selects RX8 yX8_storm yX8_storm ∈ gtbl := gm 1066 (by decide +kernel) rfl
abbrev M_X8_drift : MT := (yX8_drift, cX8_drift, 2, (some .int), RX8)
theorem mc_X8_drift : Cond.code yX8_drift cX8_drift 2 (some .int) ∈ gtbl := gm 1075 (by decide +kernel) rfl
theorem im_X8_drift : Cond.instanceMethod yX8_drift ∈ gtbl := gm 1073 (by decide +kernel) rfl
theorem se_X8_drift : Cond.selects RX8 yX8_drift yX8_drift ∈ gtbl := gm 1074 (by decide +kernel) rfl
abbrev M_X8_scrape : MT := (yX8_scrape, cX8_scrape, 2, (some .int), RX8)
theorem mc_X8_scrape : Cond.code yX8_scrape cX8_scrape 2 (some .int) ∈ gtbl := gm 1079 (by decide +kernel) rfl
theorem im_X8_scrape : Cond.instanceMethod yX8_scrape ∈ gtbl := gm 1077 (by decide +kernel) rfl
theorem se_X8_scrape : Cond.selects RX8 yX8_scrape yX8_scrape ∈ gtbl := gm 1078 (by decide +kernel) rfl
abbrev M_X8_learn : MT := (yX8_learn, cX8_learn, 2, (some .int), RX8)
theorem mc_X8_learn : Cond.code yX8_learn cX8_learn 2 (some .int) ∈ gtbl := gm 1083 (by decide +kernel) rfl
theorem im_X8_learn : Cond.instanceMethod yX8_learn ∈ gtbl := gm 1081 (by decide +kernel) rfl
theorem se_X8_learn : Cond.selects RX8 yX8_learn yX8_learn ∈ gtbl := gm 1082 (by decide +kernel) rfl
abbrev M_X8_undo : MT := (yX8_undo, cX8_undo, 1, (some .int), RX8)
theorem mc_X8_undo : Cond.code yX8_undo cX8_undo 1 (some .int) ∈ gtbl := gm 1087 (by decide +kernel) rfl
theorem im_X8_undo : Cond.instanceMethod yX8_undo ∈ gtbl := gm 1085 (by decide +kernel) rfl
theorem se_X8_undo : Cond.selects RX8 yX8_undo yX8_undo ∈ gtbl := gm 1086 (by decide +kernel) rfl
abbrev M_X8_image : MT := (yX8_image, cX8_image, 2, (some .int), RX8)
theorem mc_X8_image : Cond.code yX8_image cX8_image 2 (some .int) ∈ gtbl := gm 1091 (by decide +kernel) rfl
theorem im_X8_image : Cond.instanceMethod yX8_image ∈ gtbl := gm 1089 (by decide +kernel) rfl
theorem se_X8_image : Cond.selects RX8 yX8_image yX8_image ∈ gtbl := gm 1090 (by decide +kernel) rfl
abbrev M_X8_restore : MT := (yX8_restore, cX8_restore, 2, (some .int), RX8)
theorem mc_X8_restore : Cond.code yX8_restore cX8_restore 2 (some .int) ∈ gtbl := gm 1095 (by decide +kernel) rfl
theorem im_X8_restore : Cond.instanceMethod yX8_restore ∈ gtbl := gm 1093 (by decide +kernel) rfl
theorem se_X8_restore : Cond.selects RX8 yX8_restore yX8_restore ∈ gtbl := gm 1094 (by decide +kernel) rfl
abbrev M_X8_tries : MT := (yX8_tries, cX8_tries, 1, none, RX8)
theorem mc_X8_tries : Cond.code yX8_tries cX8_tries 1 none ∈ gtbl := gm 1158 (by decide +kernel) rfl
theorem im_X8_tries : Cond.instanceMethod yX8_tries ∈ gtbl := gm 1157 (by decide +kernel) rfl
theorem se_X8_tries : Cond.selects RX8 yX8_tries yX8_tries ∈ gtbl := gs 65 (by decide +kernel) rfl
abbrev M_X8_believed : MT := (yX8_believed, cX8_believed, 4, (some .int), RX8)
theorem mc_X8_believed : Cond.code yX8_believed cX8_believed 4 (some .int) ∈ gtbl := gm 1099 (by decide +kernel) rfl
theorem im_X8_believed : Cond.instanceMethod yX8_believed ∈ gtbl := gm 1097 (by decide +kernel) rfl
theorem se_X8_believed : Cond.selects RX8 yX8_believed yX8_believed ∈ gtbl := gm 1098 (by decide +kernel) rfl
abbrev M_X8_strikes : MT := (yX8_strikes, cX8_strikes, 4, (some .int), RX8)
theorem mc_X8_strikes : Cond.code yX8_strikes cX8_strikes 4 (some .int) ∈ gtbl := gm 1103 (by decide +kernel) rfl
theorem im_X8_strikes : Cond.instanceMethod yX8_strikes ∈ gtbl := gm 1101 (by decide +kernel) rfl
theorem se_X8_strikes : Cond.selects RX8 yX8_strikes yX8_strikes ∈ gtbl := gm 1102 (by decide +kernel) rfl
abbrev M_X8_leads : MT := (yX8_leads, cX8_leads, 8, (some .int), RX8)
theorem mc_X8_leads : Cond.code yX8_leads cX8_leads 8 (some .int) ∈ gtbl := gm 1116 (by decide +kernel) rfl
theorem im_X8_leads : Cond.instanceMethod yX8_leads ∈ gtbl := gm 1115 (by decide +kernel) rfl
theorem se_X8_leads : Cond.selects RX8 yX8_leads yX8_leads ∈ gtbl := gs 61 (by decide +kernel) rfl
abbrev M_X8_laysLeft : MT := (yX8_laysLeft, cX8_laysLeft, 8, none, RX8)
theorem mc_X8_laysLeft : Cond.code yX8_laysLeft cX8_laysLeft 8 none ∈ gtbl := gm 1111 (by decide +kernel) rfl
theorem im_X8_laysLeft : Cond.instanceMethod yX8_laysLeft ∈ gtbl := gm 1110 (by decide +kernel) rfl
theorem se_X8_laysLeft : Cond.selects RX8 yX8_laysLeft yX8_laysLeft ∈ gtbl := gs 60 (by decide +kernel) rfl
abbrev M_X8_course : MT := (yX8_course, cX8_course, 10, (some .int), RX8)
theorem mc_X8_course : Cond.code yX8_course cX8_course 10 (some .int) ∈ gtbl := gm 1107 (by decide +kernel) rfl
theorem im_X8_course : Cond.instanceMethod yX8_course ∈ gtbl := gm 1105 (by decide +kernel) rfl
theorem se_X8_course : Cond.selects RX8 yX8_course yX8_course ∈ gtbl := gm 1106 (by decide +kernel) rfl
abbrev M_X8_bestCrew : MT := (yX8_bestCrew, cX8_bestCrew, 6, (some .int), RX8)
theorem mc_X8_bestCrew : Cond.code yX8_bestCrew cX8_bestCrew 6 (some .int) ∈ gtbl := gm 1124 (by decide +kernel) rfl
theorem im_X8_bestCrew : Cond.instanceMethod yX8_bestCrew ∈ gtbl := gm 1123 (by decide +kernel) rfl
theorem se_X8_bestCrew : Cond.selects RX8 yX8_bestCrew yX8_bestCrew ∈ gtbl := gs 62 (by decide +kernel) rfl
abbrev M_X8_crew : MT := (yX8_crew, cX8_crew, 3, (some .int), RX8)
theorem mc_X8_crew : Cond.code yX8_crew cX8_crew 3 (some .int) ∈ gtbl := gm 1120 (by decide +kernel) rfl
theorem im_X8_crew : Cond.instanceMethod yX8_crew ∈ gtbl := gm 1118 (by decide +kernel) rfl
theorem se_X8_crew : Cond.selects RX8 yX8_crew yX8_crew ∈ gtbl := gm 1119 (by decide +kernel) rfl
abbrev M_X8_size : MT := (yX8_size, cX8_size, 1, (some .int), RX8)
theorem mc_X8_size : Cond.code yX8_size cX8_size 1 (some .int) ∈ gtbl := gm 1142 (by decide +kernel) rfl
theorem ss_X8_size : Cond.static yX8_size ∈ gtbl := gm 1141 (by decide +kernel) rfl
abbrev M_X8_away : MT := (yX8_away, cX8_away, 2, (some .int), RX8)
theorem mc_X8_away : Cond.code yX8_away cX8_away 2 (some .int) ∈ gtbl := gm 1139 (by decide +kernel) rfl
theorem ss_X8_away : Cond.static yX8_away ∈ gtbl := gm 1138 (by decide +kernel) rfl
abbrev M_X8_hearing : MT := (yX8_hearing, cX8_hearing, 9, (some .int), RX8)
theorem mc_X8_hearing : Cond.code yX8_hearing cX8_hearing 9 (some .int) ∈ gtbl := gm 1136 (by decide +kernel) rfl
theorem im_X8_hearing : Cond.instanceMethod yX8_hearing ∈ gtbl := gm 1135 (by decide +kernel) rfl
theorem se_X8_hearing : Cond.selects RX8 yX8_hearing yX8_hearing ∈ gtbl := gs 63 (by decide +kernel) rfl
abbrev M_X8_hears : MT := (yX8_hears, cX8_hears, 3, (some .int), RX8)
theorem mc_X8_hears : Cond.code yX8_hears cX8_hears 3 (some .int) ∈ gtbl := gm 1131 (by decide +kernel) rfl
theorem im_X8_hears : Cond.instanceMethod yX8_hears ∈ gtbl := gm 1129 (by decide +kernel) rfl
theorem se_X8_hears : Cond.selects RX8 yX8_hears yX8_hears ∈ gtbl := gm 1130 (by decide +kernel) rfl
abbrev M_X8_links : MT := (yX8_links, cX8_links, 8, (some .int), RX8)
theorem mc_X8_links : Cond.code yX8_links cX8_links 8 (some .int) ∈ gtbl := gm 1146 (by decide +kernel) rfl
theorem im_X8_links : Cond.instanceMethod yX8_links ∈ gtbl := gm 1144 (by decide +kernel) rfl
theorem se_X8_links : Cond.selects RX8 yX8_links yX8_links ∈ gtbl := gm 1145 (by decide +kernel) rfl
abbrev M_X8_harbourFrom : MT := (yX8_harbourFrom, cX8_harbourFrom, 5, (some .int), RX8)
theorem mc_X8_harbourFrom : Cond.code yX8_harbourFrom cX8_harbourFrom 5 (some .int) ∈ gtbl := gm 1154 (by decide +kernel) rfl
theorem im_X8_harbourFrom : Cond.instanceMethod yX8_harbourFrom ∈ gtbl := gm 1153 (by decide +kernel) rfl
theorem se_X8_harbourFrom : Cond.selects RX8 yX8_harbourFrom yX8_harbourFrom ∈ gtbl := gs 64 (by decide +kernel) rfl
abbrev M_X8_talk : MT := (yX8_talk, cX8_talk, 11, (some .int), RX8)
theorem mc_X8_talk : Cond.code yX8_talk cX8_talk 11 (some .int) ∈ gtbl := gm 1150 (by decide +kernel) rfl
theorem im_X8_talk : Cond.instanceMethod yX8_talk ∈ gtbl := gm 1148 (by decide +kernel) rfl
theorem se_X8_talk : Cond.selects RX8 yX8_talk yX8_talk ∈ gtbl := gm 1149 (by decide +kernel) rfl
abbrev M_X8_decades : MT := (yX8_decades, cX8_decades, 8, (some .int), RX8)
theorem mc_X8_decades : Cond.code yX8_decades cX8_decades 8 (some .int) ∈ gtbl := gm 1162 (by decide +kernel) rfl
theorem im_X8_decades : Cond.instanceMethod yX8_decades ∈ gtbl := gm 1160 (by decide +kernel) rfl
theorem se_X8_decades : Cond.selects RX8 yX8_decades yX8_decades ∈ gtbl := gm 1161 (by decide +kernel) rfl
abbrev M_X8_wormAll : MT := (yX8_wormAll, cX8_wormAll, 4, (some .int), RX8)
theorem mc_X8_wormAll : Cond.code yX8_wormAll cX8_wormAll 4 (some .int) ∈ gtbl := gm 1175 (by decide +kernel) rfl
theorem im_X8_wormAll : Cond.instanceMethod yX8_wormAll ∈ gtbl := gm 1174 (by decide +kernel) rfl
theorem se_X8_wormAll : Cond.selects RX8 yX8_wormAll yX8_wormAll ∈ gtbl := gs 66 (by decide +kernel) rfl
abbrev M_X8_creditAll : MT := (yX8_creditAll, cX8_creditAll, 4, (some .int), RX8)
theorem mc_X8_creditAll : Cond.code yX8_creditAll cX8_creditAll 4 (some .int) ∈ gtbl := gm 1179 (by decide +kernel) rfl
theorem im_X8_creditAll : Cond.instanceMethod yX8_creditAll ∈ gtbl := gm 1178 (by decide +kernel) rfl
theorem se_X8_creditAll : Cond.selects RX8 yX8_creditAll yX8_creditAll ∈ gtbl := gs 67 (by decide +kernel) rfl
abbrev M_X8_isSheet : MT := (yX8_isSheet, cX8_isSheet, 1, (some .boolean), RX8)
theorem mc_X8_isSheet : Cond.code yX8_isSheet cX8_isSheet 1 (some .boolean) ∈ gtbl := gm 1189 (by decide +kernel) rfl
theorem ss_X8_isSheet : Cond.static yX8_isSheet ∈ gtbl := gm 1188 (by decide +kernel) rfl
abbrev M_X8_isLane : MT := (yX8_isLane, cX8_isLane, 2, (some .boolean), RX8)
theorem mc_X8_isLane : Cond.code yX8_isLane cX8_isLane 2 (some .boolean) ∈ gtbl := gm 1186 (by decide +kernel) rfl
theorem ss_X8_isLane : Cond.static yX8_isLane ∈ gtbl := gm 1185 (by decide +kernel) rfl
abbrev M_X8_lowest : MT := (yX8_lowest, cX8_lowest, 3, (some .long), RX8)
theorem mc_X8_lowest : Cond.code yX8_lowest cX8_lowest 3 (some .long) ∈ gtbl := gm 1205 (by decide +kernel) rfl
theorem ss_X8_lowest : Cond.static yX8_lowest ∈ gtbl := gm 1204 (by decide +kernel) rfl
abbrev M_X8_against : MT := (yX8_against, cX8_against, 5, (some .int), RX8)
theorem mc_X8_against : Cond.code yX8_against cX8_against 5 (some .int) ∈ gtbl := gm 1202 (by decide +kernel) rfl
theorem im_X8_against : Cond.instanceMethod yX8_against ∈ gtbl := gm 1201 (by decide +kernel) rfl
theorem se_X8_against : Cond.selects RX8 yX8_against yX8_against ∈ gtbl := gs 68 (by decide +kernel) rfl
abbrev M_X8_sheet : MT := (yX8_sheet, cX8_sheet, 5, (some .int), RX8)
theorem mc_X8_sheet : Cond.code yX8_sheet cX8_sheet 5 (some .int) ∈ gtbl := gm 1183 (by decide +kernel) rfl
theorem im_X8_sheet : Cond.instanceMethod yX8_sheet ∈ gtbl := gm 1181 (by decide +kernel) rfl
theorem se_X8_sheet : Cond.selects RX8 yX8_sheet yX8_sheet ∈ gtbl := gm 1182 (by decide +kernel) rfl
abbrev M_X8_drop : MT := (yX8_drop, cX8_drop, 3, (some .int), RX8)
theorem mc_X8_drop : Cond.code yX8_drop cX8_drop 3 (some .int) ∈ gtbl := gm 1193 (by decide +kernel) rfl
theorem im_X8_drop : Cond.instanceMethod yX8_drop ∈ gtbl := gm 1191 (by decide +kernel) rfl
theorem se_X8_drop : Cond.selects RX8 yX8_drop yX8_drop ∈ gtbl := gm 1192 (by decide +kernel) rfl
abbrev M_X8_item : MT := (yX8_item, cX8_item, 7, (some .long), RX8)
theorem mc_X8_item : Cond.code yX8_item cX8_item 7 (some .long) ∈ gtbl := gm 1197 (by decide +kernel) rfl
theorem im_X8_item : Cond.instanceMethod yX8_item ∈ gtbl := gm 1195 (by decide +kernel) rfl
theorem se_X8_item : Cond.selects RX8 yX8_item yX8_item ∈ gtbl := gm 1196 (by decide +kernel) rfl
abbrev M_X8_copy : MT := (yX8_copy, cX8_copy, 7, (some .int), RX8)
theorem mc_X8_copy : Cond.code yX8_copy cX8_copy 7 (some .int) ∈ gtbl := gm 1209 (by decide +kernel) rfl
theorem im_X8_copy : Cond.instanceMethod yX8_copy ∈ gtbl := gm 1207 (by decide +kernel) rfl
theorem se_X8_copy : Cond.selects RX8 yX8_copy yX8_copy ∈ gtbl := gm 1208 (by decide +kernel) rfl
abbrev M_X8_areWords : MT := (yX8_areWords, cX8_areWords, 6, (some .boolean), RX8)
theorem mc_X8_areWords : Cond.code yX8_areWords cX8_areWords 6 (some .boolean) ∈ gtbl := gm 1218 (by decide +kernel) rfl
theorem im_X8_areWords : Cond.instanceMethod yX8_areWords ∈ gtbl := gm 1217 (by decide +kernel) rfl
theorem se_X8_areWords : Cond.selects RX8 yX8_areWords yX8_areWords ∈ gtbl := gs 69 (by decide +kernel) rfl
abbrev M_X8_log : MT := (yX8_log, cX8_log, 10, (some .int), RX8)
theorem mc_X8_log : Cond.code yX8_log cX8_log 10 (some .int) ∈ gtbl := gm 1213 (by decide +kernel) rfl
theorem im_X8_log : Cond.instanceMethod yX8_log ∈ gtbl := gm 1211 (by decide +kernel) rfl
theorem se_X8_log : Cond.selects RX8 yX8_log yX8_log ∈ gtbl := gm 1212 (by decide +kernel) rfl
abbrev M_X8_rows : MT := (yX8_rows, cX8_rows, 16, (some .int), RX8)
theorem mc_X8_rows : Cond.code yX8_rows cX8_rows 16 (some .int) ∈ gtbl := gm 1222 (by decide +kernel) rfl
theorem im_X8_rows : Cond.instanceMethod yX8_rows ∈ gtbl := gm 1220 (by decide +kernel) rfl
theorem se_X8_rows : Cond.selects RX8 yX8_rows yX8_rows ∈ gtbl := gm 1221 (by decide +kernel) rfl
abbrev M_X8_isSo : MT := (yX8_isSo, cX8_isSo, 8, (some .boolean), RX8)
theorem mc_X8_isSo : Cond.code yX8_isSo cX8_isSo 8 (some .boolean) ∈ gtbl := gm 1232 (by decide +kernel) rfl
theorem im_X8_isSo : Cond.instanceMethod yX8_isSo ∈ gtbl := gm 1231 (by decide +kernel) rfl
theorem se_X8_isSo : Cond.selects RX8 yX8_isSo yX8_isSo ∈ gtbl := gs 70 (by decide +kernel) rfl
abbrev M_X8_bestTry : MT := (yX8_bestTry, cX8_bestTry, 13, (some .int), RX8)
theorem mc_X8_bestTry : Cond.code yX8_bestTry cX8_bestTry 13 (some .int) ∈ gtbl := gm 1236 (by decide +kernel) rfl
theorem im_X8_bestTry : Cond.instanceMethod yX8_bestTry ∈ gtbl := gm 1235 (by decide +kernel) rfl
theorem se_X8_bestTry : Cond.selects RX8 yX8_bestTry yX8_bestTry ∈ gtbl := gs 71 (by decide +kernel) rfl
abbrev M_X8_kinds : MT := (yX8_kinds, cX8_kinds, 12, (some .int), RX8)
theorem mc_X8_kinds : Cond.code yX8_kinds cX8_kinds 12 (some .int) ∈ gtbl := gm 1227 (by decide +kernel) rfl
theorem im_X8_kinds : Cond.instanceMethod yX8_kinds ∈ gtbl := gm 1225 (by decide +kernel) rfl
theorem se_X8_kinds : Cond.selects RX8 yX8_kinds yX8_kinds ∈ gtbl := gm 1226 (by decide +kernel) rfl
abbrev M_X8_fog : MT := (yX8_fog, cX8_fog, 15, (some .int), RX8)
theorem mc_X8_fog : Cond.code yX8_fog cX8_fog 15 (some .int) ∈ gtbl := gm 1240 (by decide +kernel) rfl
theorem im_X8_fog : Cond.instanceMethod yX8_fog ∈ gtbl := gm 1238 (by decide +kernel) rfl
theorem se_X8_fog : Cond.selects RX8 yX8_fog yX8_fog ∈ gtbl := gm 1239 (by decide +kernel) rfl
abbrev M_X8_harbours : MT := (yX8_harbours, cX8_harbours, 3, (some .int), RX8)
theorem mc_X8_harbours : Cond.code yX8_harbours cX8_harbours 3 (some .int) ∈ gtbl := gm 1248 (by decide +kernel) rfl
theorem im_X8_harbours : Cond.instanceMethod yX8_harbours ∈ gtbl := gm 1247 (by decide +kernel) rfl
theorem se_X8_harbours : Cond.selects RX8 yX8_harbours yX8_harbours ∈ gtbl := gs 72 (by decide +kernel) rfl
abbrev M_X8_inHarbour : MT := (yX8_inHarbour, cX8_inHarbour, 3, (some .int), RX8)
theorem mc_X8_inHarbour : Cond.code yX8_inHarbour cX8_inHarbour 3 (some .int) ∈ gtbl := gm 1252 (by decide +kernel) rfl
theorem im_X8_inHarbour : Cond.instanceMethod yX8_inHarbour ∈ gtbl := gm 1251 (by decide +kernel) rfl
theorem se_X8_inHarbour : Cond.selects RX8 yX8_inHarbour yX8_inHarbour ∈ gtbl := gs 73 (by decide +kernel) rfl
abbrev M_X8_count : MT := (yX8_count, cX8_count, 2, (some .int), RX8)
theorem mc_X8_count : Cond.code yX8_count cX8_count 2 (some .int) ∈ gtbl := gm 1244 (by decide +kernel) rfl
theorem im_X8_count : Cond.instanceMethod yX8_count ∈ gtbl := gm 1242 (by decide +kernel) rfl
theorem se_X8_count : Cond.selects RX8 yX8_count yX8_count ∈ gtbl := gm 1243 (by decide +kernel) rfl
abbrev M_J9_abs_0f7a4 : MT := (yJ9_abs_0f7a4, cJ9_abs_0f7a4, 1, (some .int), RJ9)
theorem mc_J9_abs_0f7a4 : Cond.code yJ9_abs_0f7a4 cJ9_abs_0f7a4 1 (some .int) ∈ gtbl := gm 676 (by decide +kernel) rfl
theorem ss_J9_abs_0f7a4 : Cond.static yJ9_abs_0f7a4 ∈ gtbl := gm 675 (by decide +kernel) rfl
abbrev M_J9_max_7cf53 : MT := (yJ9_max_7cf53, cJ9_max_7cf53, 2, (some .int), RJ9)
theorem mc_J9_max_7cf53 : Cond.code yJ9_max_7cf53 cJ9_max_7cf53 2 (some .int) ∈ gtbl := gm 331 (by decide +kernel) rfl
theorem ss_J9_max_7cf53 : Cond.static yJ9_max_7cf53 ∈ gtbl := gm 330 (by decide +kernel) rfl
abbrev M_J9_min_7cf53 : MT := (yJ9_min_7cf53, cJ9_min_7cf53, 2, (some .int), RJ9)
theorem mc_J9_min_7cf53 : Cond.code yJ9_min_7cf53 cJ9_min_7cf53 2 (some .int) ∈ gtbl := gm 334 (by decide +kernel) rfl
theorem ss_J9_min_7cf53 : Cond.static yJ9_min_7cf53 ∈ gtbl := gm 333 (by decide +kernel) rfl
abbrev M_J0_indexOf_0f7a4 : MT := (yJ0_indexOf_0f7a4, cJ0_indexOf_0f7a4, 2, (some .int), RJ0)
theorem mc_J0_indexOf_0f7a4 : Cond.code yJ0_indexOf_0f7a4 cJ0_indexOf_0f7a4 2 (some .int) ∈ gtbl := gm 304 (by decide +kernel) rfl
theorem im_J0_indexOf_0f7a4 : Cond.instanceMethod yJ0_indexOf_0f7a4 ∈ gtbl := gm 302 (by decide +kernel) rfl
theorem se_J0_indexOf_0f7a4 : Cond.selects RJ0 yJ0_indexOf_0f7a4 yJ0_indexOf_0f7a4 ∈ gtbl := gm 303 (by decide +kernel) rfl
abbrev M_J0_indexOf_7cf53 : MT := (yJ0_indexOf_7cf53, cJ0_indexOf_7cf53, 3, (some .int), RJ0)
theorem mc_J0_indexOf_7cf53 : Cond.code yJ0_indexOf_7cf53 cJ0_indexOf_7cf53 3 (some .int) ∈ gtbl := gm 308 (by decide +kernel) rfl
theorem im_J0_indexOf_7cf53 : Cond.instanceMethod yJ0_indexOf_7cf53 ∈ gtbl := gm 306 (by decide +kernel) rfl
theorem se_J0_indexOf_7cf53 : Cond.selects RJ0 yJ0_indexOf_7cf53 yJ0_indexOf_7cf53 ∈ gtbl := gm 307 (by decide +kernel) rfl
abbrev M_J0_isLatin1_aae02 : MT := (yJ0_isLatin1_aae02, cJ0_isLatin1_aae02, 1, (some .boolean), RJ0)
theorem mc_J0_isLatin1_aae02 : Cond.code yJ0_isLatin1_aae02 cJ0_isLatin1_aae02 1 (some .boolean) ∈ gtbl := gm 312 (by decide +kernel) rfl
theorem im_J0_isLatin1_aae02 : Cond.instanceMethod yJ0_isLatin1_aae02 ∈ gtbl := gm 310 (by decide +kernel) rfl
theorem se_J0_isLatin1_aae02 : Cond.selects RJ0 yJ0_isLatin1_aae02 yJ0_isLatin1_aae02 ∈ gtbl := gm 311 (by decide +kernel) rfl
abbrev M_J1_canEncode_9a6ad : MT := (yJ1_canEncode_9a6ad, cJ1_canEncode_9a6ad, 1, (some .boolean), RJ1)
theorem mc_J1_canEncode_9a6ad : Cond.code yJ1_canEncode_9a6ad cJ1_canEncode_9a6ad 1 (some .boolean) ∈ gtbl := gm 328 (by decide +kernel) rfl
theorem ss_J1_canEncode_9a6ad : Cond.static yJ1_canEncode_9a6ad ∈ gtbl := gm 327 (by decide +kernel) rfl
abbrev M_J1_indexOf_4cfef : MT := (yJ1_indexOf_4cfef, cJ1_indexOf_4cfef, 4, (some .int), RJ1)
theorem mc_J1_indexOf_4cfef : Cond.code yJ1_indexOf_4cfef cJ1_indexOf_4cfef 4 (some .int) ∈ gtbl := gm 325 (by decide +kernel) rfl
theorem ss_J1_indexOf_4cfef : Cond.static yJ1_indexOf_4cfef ∈ gtbl := gm 324 (by decide +kernel) rfl
abbrev M_J1_indexOfChar_4cfef : MT := (yJ1_indexOfChar_4cfef, cJ1_indexOfChar_4cfef, 6, (some .int), RJ1)
theorem mc_J1_indexOfChar_4cfef : Cond.code yJ1_indexOfChar_4cfef cJ1_indexOfChar_4cfef 6 (some .int) ∈ gtbl := gm 337 (by decide +kernel) rfl
theorem ss_J1_indexOfChar_4cfef : Cond.static yJ1_indexOfChar_4cfef ∈ gtbl := gm 336 (by decide +kernel) rfl
abbrev M_J7_fill_d0a16 : MT := (yJ7_fill_d0a16, cJ7_fill_d0a16, 5, none, RJ7)
theorem mc_J7_fill_d0a16 : Cond.code yJ7_fill_d0a16 cJ7_fill_d0a16 5 none ∈ gtbl := gm 761 (by decide +kernel) rfl
theorem ss_J7_fill_d0a16 : Cond.static yJ7_fill_d0a16 ∈ gtbl := gm 760 (by decide +kernel) rfl
abbrev M_J7_fill_53178 : MT := (yJ7_fill_53178, cJ7_fill_53178, 4, none, RJ7)
theorem mc_J7_fill_53178 : Cond.code yJ7_fill_53178 cJ7_fill_53178 4 none ∈ gtbl := gm 615 (by decide +kernel) rfl
theorem ss_J7_fill_53178 : Cond.static yJ7_fill_53178 ∈ gtbl := gm 614 (by decide +kernel) rfl
theorem K_X7_36 : CFI RX7 36 M_X0_init 1 := ⟨⟨gm 121 (by decide +kernel) rfl, mc_X0_init, ini_X0, by decide +kernel, by decide +kernel⟩, rfl, im_X0_init, rfl⟩
theorem K_X7_51 : CFI RX7 51 M_X1_init 1 := ⟨⟨gm 177 (by decide +kernel) rfl, mc_X1_init, ini_X1, by decide +kernel, by decide +kernel⟩, rfl, im_X1_init, rfl⟩
theorem K_X7_66 : CFI RX7 66 M_X6_init 1 := ⟨⟨gm 203 (by decide +kernel) rfl, mc_X6_init, ini_X6, by decide +kernel, by decide +kernel⟩, rfl, im_X6_init, rfl⟩
theorem K_X7_68 : CFV RX7 68 M_X5_add 1 := ⟨⟨gm 260 (by decide +kernel) rfl, mc_X5_add, ini_X5, by decide +kernel, by decide +kernel⟩, im_X5_add, se_X5_add⟩
theorem K_X7_76 : CFV RX7 76 M_X5_readFleet 1 := ⟨⟨gm 268 (by decide +kernel) rfl, mc_X5_readFleet, ini_X5, by decide +kernel, by decide +kernel⟩, im_X5_readFleet, se_X5_readFleet⟩
theorem K_X7_83 : CFV RX7 83 M_X2_become 1 := ⟨⟨gm 420 (by decide +kernel) rfl, mc_X2_become, ini_X2, by decide +kernel, by decide +kernel⟩, im_X2_become, se_X2_become⟩
theorem K_X7_87 : CFV RX7 87 M_X0_forget 0 := ⟨⟨gm 432 (by decide +kernel) rfl, mc_X0_forget, ini_X0, by decide +kernel, by decide +kernel⟩, im_X0_forget, se_X0_forget⟩
theorem K_X7_93 : CFV RX7 93 M_X2_hasShip 1 := ⟨⟨gm 441 (by decide +kernel) rfl, mc_X2_hasShip, ini_X2, by decide +kernel, by decide +kernel⟩, im_X2_hasShip, se_X2_hasShip⟩
theorem K_X7_108 : CFS RX7 108 M_X7_isUnder 2 := ⟨⟨gm 449 (by decide +kernel) rfl, mc_X7_isUnder, ini_X7, by decide +kernel, by decide +kernel⟩, ss_X7_isUnder⟩
theorem K_X7_112 : CFV RX7 112 M_X3_has 1 := ⟨⟨gm 458 (by decide +kernel) rfl, mc_X3_has, ini_X3, by decide +kernel, by decide +kernel⟩, im_X3_has, se_X3_has⟩
theorem K_X7_117 : CFV RX7 117 M_X3_at 1 := ⟨⟨gm 459 (by decide +kernel) rfl, mc_X3_at, ini_X3, by decide +kernel, by decide +kernel⟩, im_X3_at, se_X3_at⟩
theorem K_X7_121 : CFV RX7 121 M_X2_stands 0 := ⟨⟨gm 464 (by decide +kernel) rfl, mc_X2_stands, ini_X2, by decide +kernel, by decide +kernel⟩, im_X2_stands, se_X2_stands⟩
theorem K_X7_125 : CFS RX7 125 M_X7_isTeller 1 := ⟨⟨gm 468 (by decide +kernel) rfl, mc_X7_isTeller, ini_X7, by decide +kernel, by decide +kernel⟩, ss_X7_isTeller⟩
theorem K_X7_131 : CFV RX7 131 M_X2_doubtOf 2 := ⟨⟨gm 475 (by decide +kernel) rfl, mc_X2_doubtOf, ini_X2, by decide +kernel, by decide +kernel⟩, im_X2_doubtOf, se_X2_doubtOf⟩
theorem K_X7_135 : CFS RX7 135 M_X7_isWord 1 := ⟨⟨gm 486 (by decide +kernel) rfl, mc_X7_isWord, ini_X7, by decide +kernel, by decide +kernel⟩, ss_X7_isWord⟩
theorem K_X7_142 : CFV RX7 142 M_X7_setOut 1 := ⟨⟨gm 490 (by decide +kernel) rfl, mc_X7_setOut, ini_X7, by decide +kernel, by decide +kernel⟩, im_X7_setOut, se_X7_setOut⟩
theorem K_X7_146 : CFV RX7 146 M_X6_hear 2 := ⟨⟨gm 505 (by decide +kernel) rfl, mc_X6_hear, ini_X6, by decide +kernel, by decide +kernel⟩, im_X6_hear, se_X6_hear⟩
theorem K_X7_150 : CFV RX7 150 M_X7_arrive 2 := ⟨⟨gm 543 (by decide +kernel) rfl, mc_X7_arrive, ini_X7, by decide +kernel, by decide +kernel⟩, im_X7_arrive, se_X7_arrive⟩
theorem K_X7_154 : CFV RX7 154 M_X6_hearTwo 4 := ⟨⟨gm 555 (by decide +kernel) rfl, mc_X6_hearTwo, ini_X6, by decide +kernel, by decide +kernel⟩, im_X6_hearTwo, se_X6_hearTwo⟩
theorem K_X7_158 : CFV RX7 158 M_X6_goOn 0 := ⟨⟨gm 567 (by decide +kernel) rfl, mc_X6_goOn, ini_X6, by decide +kernel, by decide +kernel⟩, im_X6_goOn, se_X6_goOn⟩
theorem K_X7_161 : CFV RX7 161 M_X0_keep 2 := ⟨⟨gm 494 (by decide +kernel) rfl, mc_X0_keep, ini_X0, by decide +kernel, by decide +kernel⟩, im_X0_keep, se_X0_keep⟩
theorem K_X7_165 : CFV RX7 165 M_X0_giveBack 1 := ⟨⟨gm 580 (by decide +kernel) rfl, mc_X0_giveBack, ini_X0, by decide +kernel, by decide +kernel⟩, im_X0_giveBack, se_X0_giveBack⟩
theorem K_X7_171 : CFV RX7 171 M_X2_trusts 2 := ⟨⟨gm 597 (by decide +kernel) rfl, mc_X2_trusts, ini_X2, by decide +kernel, by decide +kernel⟩, im_X2_trusts, se_X2_trusts⟩
theorem K_X7_174 : CFV RX7 174 M_X6_board 2 := ⟨⟨gm 504 (by decide +kernel) rfl, mc_X6_board, ini_X6, by decide +kernel, by decide +kernel⟩, im_X6_board, se_X6_board⟩
theorem K_X7_177 : CFV RX7 177 M_X1_search 3 := ⟨⟨gm 609 (by decide +kernel) rfl, mc_X1_search, ini_X1, by decide +kernel, by decide +kernel⟩, im_X1_search, se_X1_search⟩
theorem K_X7_184 : CFV RX7 184 M_X1_wordTo 2 := ⟨⟨gm 627 (by decide +kernel) rfl, mc_X1_wordTo, ini_X1, by decide +kernel, by decide +kernel⟩, im_X1_wordTo, se_X1_wordTo⟩
theorem K_X7_187 : CFV RX7 187 M_X7_mostCrewed 2 := ⟨⟨gm 635 (by decide +kernel) rfl, mc_X7_mostCrewed, ini_X7, by decide +kernel, by decide +kernel⟩, im_X7_mostCrewed, se_X7_mostCrewed⟩
theorem K_X7_190 : CFV RX7 190 M_X7_crewOf 1 := ⟨⟨gm 644 (by decide +kernel) rfl, mc_X7_crewOf, ini_X7, by decide +kernel, by decide +kernel⟩, im_X7_crewOf, se_X7_crewOf⟩
theorem K_X7_193 : CFS RX7 193 M_X7_isHearing 1 := ⟨⟨gm 656 (by decide +kernel) rfl, mc_X7_isHearing, ini_X7, by decide +kernel, by decide +kernel⟩, ss_X7_isHearing⟩
theorem K_X7_196 : CFV RX7 196 M_X2_everyShip 0 := ⟨⟨gm 659 (by decide +kernel) rfl, mc_X2_everyShip, ini_X2, by decide +kernel, by decide +kernel⟩, im_X2_everyShip, se_X2_everyShip⟩
theorem K_X7_200 : CFV RX7 200 M_X2_heardBy 3 := ⟨⟨gm 663 (by decide +kernel) rfl, mc_X2_heardBy, ini_X2, by decide +kernel, by decide +kernel⟩, im_X2_heardBy, se_X2_heardBy⟩
theorem K_X7_204 : CFV RX7 204 M_X2_isLink 2 := ⟨⟨gm 681 (by decide +kernel) rfl, mc_X2_isLink, ini_X2, by decide +kernel, by decide +kernel⟩, im_X2_isLink, se_X2_isLink⟩
theorem K_X7_207 : CFV RX7 207 M_X3_harbours 0 := ⟨⟨gm 691 (by decide +kernel) rfl, mc_X3_harbours, ini_X3, by decide +kernel, by decide +kernel⟩, im_X3_harbours, se_X3_harbours⟩
theorem K_X7_210 : CFV RX7 210 M_X7_talked 4 := ⟨⟨gm 696 (by decide +kernel) rfl, mc_X7_talked, ini_X7, by decide +kernel, by decide +kernel⟩, im_X7_talked, se_X7_talked⟩
theorem K_X7_215 : CFS RX7 215 M_X7_isPart 1 := ⟨⟨gm 723 (by decide +kernel) rfl, mc_X7_isPart, ini_X7, by decide +kernel, by decide +kernel⟩, ss_X7_isPart⟩
theorem K_X7_222 : CFV RX7 222 M_X7_passDecade 1 := ⟨⟨gm 728 (by decide +kernel) rfl, mc_X7_passDecade, ini_X7, by decide +kernel, by decide +kernel⟩, im_X7_passDecade, se_X7_passDecade⟩
theorem K_X7_226 : CFV RX7 226 M_X2_allWorm 0 := ⟨⟨gm 737 (by decide +kernel) rfl, mc_X2_allWorm, ini_X2, by decide +kernel, by decide +kernel⟩, im_X2_allWorm, se_X2_allWorm⟩
theorem K_X7_229 : CFV RX7 229 M_X2_allCredit 0 := ⟨⟨gm 741 (by decide +kernel) rfl, mc_X2_allCredit, ini_X2, by decide +kernel, by decide +kernel⟩, im_X2_allCredit, se_X2_allCredit⟩
theorem K_X7_232 : CFS RX7 232 M_X7_isSheet 1 := ⟨⟨gm 749 (by decide +kernel) rfl, mc_X7_isSheet, ini_X7, by decide +kernel, by decide +kernel⟩, ss_X7_isSheet⟩
theorem K_X7_235 : CFS RX7 235 M_X7_isLane 1 := ⟨⟨gm 752 (by decide +kernel) rfl, mc_X7_isLane, ini_X7, by decide +kernel, by decide +kernel⟩, ss_X7_isLane⟩
theorem K_X7_238 : CFV RX7 238 M_X4_renew 2 := ⟨⟨gm 755 (by decide +kernel) rfl, mc_X4_renew, ini_X4, by decide +kernel, by decide +kernel⟩, im_X4_renew, se_X4_renew⟩
theorem K_X7_248 : CFV RX7 248 M_X7_refusalOf 4 := ⟨⟨gm 771 (by decide +kernel) rfl, mc_X7_refusalOf, ini_X7, by decide +kernel, by decide +kernel⟩, im_X7_refusalOf, se_X7_refusalOf⟩
theorem K_X7_251 : CFV RX7 251 M_X4_put 2 := ⟨⟨gm 779 (by decide +kernel) rfl, mc_X4_put, ini_X4, by decide +kernel, by decide +kernel⟩, im_X4_put, se_X4_put⟩
theorem K_X7_258 : CFV RX7 258 M_X4_holds 2 := ⟨⟨gm 775 (by decide +kernel) rfl, mc_X4_holds, ini_X4, by decide +kernel, by decide +kernel⟩, im_X4_holds, se_X4_holds⟩
theorem K_X7_271 : CFV RX7 271 M_X7_canTell 4 := ⟨⟨gm 796 (by decide +kernel) rfl, mc_X7_canTell, ini_X7, by decide +kernel, by decide +kernel⟩, im_X7_canTell, se_X7_canTell⟩
theorem K_X7_275 : CFV RX7 275 M_X4_holdsWords 3 := ⟨⟨gm 800 (by decide +kernel) rfl, mc_X4_holdsWords, ini_X4, by decide +kernel, by decide +kernel⟩, im_X4_holdsWords, se_X4_holdsWords⟩
theorem K_X7_281 : CFV RX7 281 M_X7_countRows 5 := ⟨⟨gm 809 (by decide +kernel) rfl, mc_X7_countRows, ini_X7, by decide +kernel, by decide +kernel⟩, im_X7_countRows, se_X7_countRows⟩
theorem K_X7_285 : CFV RX7 285 M_X7_firstRow 6 := ⟨⟨gm 817 (by decide +kernel) rfl, mc_X7_firstRow, ini_X7, by decide +kernel, by decide +kernel⟩, im_X7_firstRow, se_X7_firstRow⟩
theorem K_X7_289 : CFV RX7 289 M_X7_fittingKinds 5 := ⟨⟨gm 825 (by decide +kernel) rfl, mc_X7_fittingKinds, ini_X7, by decide +kernel, by decide +kernel⟩, im_X7_fittingKinds, se_X7_fittingKinds⟩
theorem K_X7_292 : CFV RX7 292 M_X7_wordToTry 2 := ⟨⟨gm 834 (by decide +kernel) rfl, mc_X7_wordToTry, ini_X7, by decide +kernel, by decide +kernel⟩, im_X7_wordToTry, se_X7_wordToTry⟩
theorem K_X7_295 : CFV RX7 295 M_X7_fogged 6 := ⟨⟨gm 854 (by decide +kernel) rfl, mc_X7_fogged, ini_X7, by decide +kernel, by decide +kernel⟩, im_X7_fogged, se_X7_fogged⟩
theorem K_X7_299 : CFS RX7 299 M_X7_tenToThe 1 := ⟨⟨gm 858 (by decide +kernel) rfl, mc_X7_tenToThe, ini_X7, by decide +kernel, by decide +kernel⟩, ss_X7_tenToThe⟩
theorem K_X7_302 : CFS RX7 302 M_X7_greatestDivisor 2 := ⟨⟨gm 861 (by decide +kernel) rfl, mc_X7_greatestDivisor, ini_X7, by decide +kernel, by decide +kernel⟩, ss_X7_greatestDivisor⟩
theorem K_X7_311 : CFV RX7 311 M_X2_harboured 0 := ⟨⟨gm 868 (by decide +kernel) rfl, mc_X2_harboured, ini_X2, by decide +kernel, by decide +kernel⟩, im_X2_harboured, se_X2_harboured⟩
theorem K_X7_319 : CFS RX7 319 M_X7_mirrored 1 := ⟨⟨gm 517 (by decide +kernel) rfl, mc_X7_mirrored, ini_X7, by decide +kernel, by decide +kernel⟩, ss_X7_mirrored⟩
theorem K_X7_322 : CFV RX7 322 M_X6_land 2 := ⟨⟨gm 547 (by decide +kernel) rfl, mc_X6_land, ini_X6, by decide +kernel, by decide +kernel⟩, im_X6_land, se_X6_land⟩
theorem K_X7_325 : CFV RX7 325 M_X7_mayTake 3 := ⟨⟨gm 639 (by decide +kernel) rfl, mc_X7_mayTake, ini_X7, by decide +kernel, by decide +kernel⟩, im_X7_mayTake, se_X7_mayTake⟩
theorem K_X7_328 : CFS RX7 328 M_J9_max_7cf53 2 := ⟨⟨gm 643 (by decide +kernel) rfl, mc_J9_max_7cf53, ini_J9, by decide +kernel, by decide +kernel⟩, ss_J9_max_7cf53⟩
theorem K_X7_333 : CFV RX7 333 M_X7_firstTeller 2 := ⟨⟨gm 648 (by decide +kernel) rfl, mc_X7_firstTeller, ini_X7, by decide +kernel, by decide +kernel⟩, im_X7_firstTeller, se_X7_firstTeller⟩
theorem K_X7_336 : CFV RX7 336 M_X6_follow 1 := ⟨⟨gm 714 (by decide +kernel) rfl, mc_X6_follow, ini_X6, by decide +kernel, by decide +kernel⟩, im_X6_follow, se_X6_follow⟩
theorem K_X7_340 : CFV RX7 340 M_X7_canGoDeeper 2 := ⟨⟨gm 700 (by decide +kernel) rfl, mc_X7_canGoDeeper, ini_X7, by decide +kernel, by decide +kernel⟩, im_X7_canGoDeeper, se_X7_canGoDeeper⟩
theorem K_X7_343 : CFV RX7 343 M_X3_awayFromHarbour 1 := ⟨⟨gm 704 (by decide +kernel) rfl, mc_X3_awayFromHarbour, ini_X3, by decide +kernel, by decide +kernel⟩, im_X3_awayFromHarbour, se_X3_awayFromHarbour⟩
theorem K_X7_346 : CFV RX7 346 M_X7_nextVoyage 1 := ⟨⟨gm 710 (by decide +kernel) rfl, mc_X7_nextVoyage, ini_X7, by decide +kernel, by decide +kernel⟩, im_X7_nextVoyage, se_X7_nextVoyage⟩
theorem K_X7_349 : CFV RX7 349 M_X7_leadsTo 4 := ⟨⟨gm 813 (by decide +kernel) rfl, mc_X7_leadsTo, ini_X7, by decide +kernel, by decide +kernel⟩, im_X7_leadsTo, se_X7_leadsTo⟩
theorem K_X7_355 : CFV RX7 355 M_X6_keepsTo 4 := ⟨⟨gm 829 (by decide +kernel) rfl, mc_X6_keepsTo, ini_X6, by decide +kernel, by decide +kernel⟩, im_X6_keepsTo, se_X6_keepsTo⟩
theorem K_X7_359 : CFV RX7 359 M_X7_greatestPart 3 := ⟨⟨gm 838 (by decide +kernel) rfl, mc_X7_greatestPart, ini_X7, by decide +kernel, by decide +kernel⟩, im_X7_greatestPart, se_X7_greatestPart⟩
theorem K_X7_362 : CFV RX7 362 M_X7_cellBehind 3 := ⟨⟨gm 842 (by decide +kernel) rfl, mc_X7_cellBehind, ini_X7, by decide +kernel, by decide +kernel⟩, im_X7_cellBehind, se_X7_cellBehind⟩
theorem K_X7_365 : CFV RX7 365 M_X7_partAlike 2 := ⟨⟨gm 846 (by decide +kernel) rfl, mc_X7_partAlike, ini_X7, by decide +kernel, by decide +kernel⟩, im_X7_partAlike, se_X7_partAlike⟩
theorem K_X0_31 : CFI RX0 31 M_X6_init 1 := ⟨⟨gm 128 (by decide +kernel) rfl, mc_X6_init, ini_X6, by decide +kernel, by decide +kernel⟩, rfl, im_X6_init, rfl⟩
theorem K_X0_34 : CFV RX0 34 M_X6_board 2 := ⟨⟨gm 498 (by decide +kernel) rfl, mc_X6_board, ini_X6, by decide +kernel, by decide +kernel⟩, im_X6_board, se_X6_board⟩
theorem K_X0_42 : CFS RX0 42 M_J9_min_7cf53 2 := ⟨⟨gm 503 (by decide +kernel) rfl, mc_J9_min_7cf53, ini_J9, by decide +kernel, by decide +kernel⟩, ss_J9_min_7cf53⟩
theorem K_X0_48 : CFV RX0 48 M_X6_land 2 := ⟨⟨gm 584 (by decide +kernel) rfl, mc_X6_land, ini_X6, by decide +kernel, by decide +kernel⟩, im_X6_land, se_X6_land⟩
theorem K_X1_32 : CFS RX1 32 M_J7_fill_53178 2 := ⟨⟨gm 613 (by decide +kernel) rfl, mc_J7_fill_53178, ini_J7, by decide +kernel, by decide +kernel⟩, ss_J7_fill_53178⟩
theorem K_X1_38 : CFV RX1 38 M_X6_trusts 1 := ⟨⟨gm 616 (by decide +kernel) rfl, mc_X6_trusts, ini_X6, by decide +kernel, by decide +kernel⟩, im_X6_trusts, se_X6_trusts⟩
theorem K_X1_50 : CFV RX1 50 M_X1_mark 4 := ⟨⟨gm 617 (by decide +kernel) rfl, mc_X1_mark, ini_X1, by decide +kernel, by decide +kernel⟩, im_X1_mark, se_X1_mark⟩
theorem K_X1_57 : CFV RX1 57 M_X1_spread 3 := ⟨⟨gm 621 (by decide +kernel) rfl, mc_X1_spread, ini_X1, by decide +kernel, by decide +kernel⟩, im_X1_spread, se_X1_spread⟩
theorem K_X1_65 : CFV RX1 65 M_X3_ahead 2 := ⟨⟨gm 626 (by decide +kernel) rfl, mc_X3_ahead, ini_X3, by decide +kernel, by decide +kernel⟩, im_X3_ahead, se_X3_ahead⟩
theorem K_X2_41 : CFV RX2 41 M_X3_become 1 := ⟨⟨gm 424 (by decide +kernel) rfl, mc_X3_become, ini_X3, by decide +kernel, by decide +kernel⟩, im_X3_become, se_X3_become⟩
theorem K_X2_51 : CFV RX2 51 M_X3_empty 0 := ⟨⟨gm 276 (by decide +kernel) rfl, mc_X3_empty, ini_X3, by decide +kernel, by decide +kernel⟩, im_X3_empty, se_X3_empty⟩
theorem K_X2_58 : CFV RX2 58 M_X3_at 1 := ⟨⟨gm 872 (by decide +kernel) rfl, mc_X3_at, ini_X3, by decide +kernel, by decide +kernel⟩, im_X3_at, se_X3_at⟩
theorem K_X2_62 : CFV RX2 62 M_X2_nearAny 2 := ⟨⟨gm 667 (by decide +kernel) rfl, mc_X2_nearAny, ini_X2, by decide +kernel, by decide +kernel⟩, im_X2_nearAny, se_X2_nearAny⟩
theorem K_X2_66 : CFS RX2 66 M_X3_away 2 := ⟨⟨gm 671 (by decide +kernel) rfl, mc_X3_away, ini_X3, by decide +kernel, by decide +kernel⟩, ss_X3_away⟩
theorem K_X2_69 : CFV RX2 69 M_X2_everyShip 0 := ⟨⟨gm 685 (by decide +kernel) rfl, mc_X2_everyShip, ini_X2, by decide +kernel, by decide +kernel⟩, im_X2_everyShip, se_X2_everyShip⟩
theorem K_X2_73 : CFV RX2 73 M_X2_heardBy 3 := ⟨⟨gm 686 (by decide +kernel) rfl, mc_X2_heardBy, ini_X2, by decide +kernel, by decide +kernel⟩, im_X2_heardBy, se_X2_heardBy⟩
theorem K_X3_28 : CFV RX3 28 M_X3_has 1 := ⟨⟨gm 411 (by decide +kernel) rfl, mc_X3_has, ini_X3, by decide +kernel, by decide +kernel⟩, im_X3_has, se_X3_has⟩
theorem K_X3_38 : CFS RX3 38 M_X3_cellOf 2 := ⟨⟨gm 532 (by decide +kernel) rfl, mc_X3_cellOf, ini_X3, by decide +kernel, by decide +kernel⟩, ss_X3_cellOf⟩
theorem K_X3_42 : CFS RX3 42 M_J9_abs_0f7a4 1 := ⟨⟨gm 674 (by decide +kernel) rfl, mc_J9_abs_0f7a4, ini_J9, by decide +kernel, by decide +kernel⟩, ss_J9_abs_0f7a4⟩
theorem K_X3_48 : CFV RX3 48 M_X3_at 1 := ⟨⟨gm 695 (by decide +kernel) rfl, mc_X3_at, ini_X3, by decide +kernel, by decide +kernel⟩, im_X3_at, se_X3_at⟩
theorem K_X3_51 : CFS RX3 51 M_X3_away 2 := ⟨⟨gm 708 (by decide +kernel) rfl, mc_X3_away, ini_X3, by decide +kernel, by decide +kernel⟩, ss_X3_away⟩
theorem K_X3_54 : CFS RX3 54 M_J9_min_7cf53 2 := ⟨⟨gm 709 (by decide +kernel) rfl, mc_J9_min_7cf53, ini_J9, by decide +kernel, by decide +kernel⟩, ss_J9_min_7cf53⟩
theorem K_X4_26 : CFS RX4 26 M_J7_fill_d0a16 2 := ⟨⟨gm 759 (by decide +kernel) rfl, mc_J7_fill_d0a16, ini_J7, by decide +kernel, by decide +kernel⟩, ss_J7_fill_d0a16⟩
theorem K_X4_36 : CFV RX4 36 M_X4_narrowed 1 := ⟨⟨gm 783 (by decide +kernel) rfl, mc_X4_narrowed, ini_X4, by decide +kernel, by decide +kernel⟩, im_X4_narrowed, se_X4_narrowed⟩
theorem K_X5_22 : CFV RX5 22 M_X2_empty 0 := ⟨⟨gm 272 (by decide +kernel) rfl, mc_X2_empty, ini_X2, by decide +kernel, by decide +kernel⟩, im_X2_empty, se_X2_empty⟩
theorem K_X5_27 : CFV RX5 27 M_X5_takes 1 := ⟨⟨gm 280 (by decide +kernel) rfl, mc_X5_takes, ini_X5, by decide +kernel, by decide +kernel⟩, im_X5_takes, se_X5_takes⟩
theorem K_X5_35 : CFV RX5 35 M_X5_readSea 1 := ⟨⟨gm 288 (by decide +kernel) rfl, mc_X5_readSea, ini_X5, by decide +kernel, by decide +kernel⟩, im_X5_readSea, se_X5_readSea⟩
theorem K_X5_39 : CFV RX5 39 M_X5_readShips 1 := ⟨⟨gm 390 (by decide +kernel) rfl, mc_X5_readShips, ini_X5, by decide +kernel, by decide +kernel⟩, im_X5_readShips, se_X5_readShips⟩
theorem K_X5_43 : CFV RX5 43 M_X5_readCredit 1 := ⟨⟨gm 416 (by decide +kernel) rfl, mc_X5_readCredit, ini_X5, by decide +kernel, by decide +kernel⟩, im_X5_readCredit, se_X5_readCredit⟩
theorem K_X5_46 : CFV RX5 46 M_X5_here 0 := ⟨⟨gm 284 (by decide +kernel) rfl, mc_X5_here, ini_X5, by decide +kernel, by decide +kernel⟩, im_X5_here, se_X5_here⟩
theorem K_X5_50 : CFV RX5 50 M_J0_indexOf_0f7a4 1 := ⟨⟨gm 301 (by decide +kernel) rfl, mc_J0_indexOf_0f7a4, ini_J0, by decide +kernel, by decide +kernel⟩, im_J0_indexOf_0f7a4, se_J0_indexOf_0f7a4⟩
theorem K_X5_56 : CFV RX5 56 M_X5_readRow 2 := ⟨⟨gm 292 (by decide +kernel) rfl, mc_X5_readRow, ini_X5, by decide +kernel, by decide +kernel⟩, im_X5_readRow, se_X5_readRow⟩
theorem K_X5_70 : CFV RX5 70 M_X5_oneOf 1 := ⟨⟨gm 297 (by decide +kernel) rfl, mc_X5_oneOf, ini_X5, by decide +kernel, by decide +kernel⟩, im_X5_oneOf, se_X5_oneOf⟩
theorem K_X5_77 : CFS RX5 77 M_X3_cellOf 2 := ⟨⟨gm 387 (by decide +kernel) rfl, mc_X3_cellOf, ini_X3, by decide +kernel, by decide +kernel⟩, ss_X3_cellOf⟩
theorem K_X5_81 : CFV RX5 81 M_X5_readShip 2 := ⟨⟨gm 394 (by decide +kernel) rfl, mc_X5_readShip, ini_X5, by decide +kernel, by decide +kernel⟩, im_X5_readShip, se_X5_readShip⟩
theorem K_X5_93 : CFV RX5 93 M_X5_readCell 2 := ⟨⟨gm 399 (by decide +kernel) rfl, mc_X5_readCell, ini_X5, by decide +kernel, by decide +kernel⟩, im_X5_readCell, se_X5_readCell⟩
theorem K_X5_101 : CFV RX5 101 M_X5_figureBelow 1 := ⟨⟨gm 403 (by decide +kernel) rfl, mc_X5_figureBelow, ini_X5, by decide +kernel, by decide +kernel⟩, im_X5_figureBelow, se_X5_figureBelow⟩
theorem K_X5_107 : CFV RX5 107 M_X3_at 1 := ⟨⟨gm 407 (by decide +kernel) rfl, mc_X3_at, ini_X3, by decide +kernel, by decide +kernel⟩, im_X3_at, se_X3_at⟩
theorem K_X6_53 : CFV RX6 53 M_X6_trusts 1 := ⟨⟨gm 509 (by decide +kernel) rfl, mc_X6_trusts, ini_X6, by decide +kernel, by decide +kernel⟩, im_X6_trusts, se_X6_trusts⟩
theorem K_X6_60 : CFV RX6 60 M_X6_goOn 0 := ⟨⟨gm 520 (by decide +kernel) rfl, mc_X6_goOn, ini_X6, by decide +kernel, by decide +kernel⟩, im_X6_goOn, se_X6_goOn⟩
theorem K_X6_64 : CFV RX6 64 M_X6_settle 2 := ⟨⟨gm 538 (by decide +kernel) rfl, mc_X6_settle, ini_X6, by decide +kernel, by decide +kernel⟩, im_X6_settle, se_X6_settle⟩
theorem K_X6_68 : CFV RX6 68 M_X6_beTorn 2 := ⟨⟨gm 559 (by decide +kernel) rfl, mc_X6_beTorn, ini_X6, by decide +kernel, by decide +kernel⟩, im_X6_beTorn, se_X6_beTorn⟩
theorem K_X6_72 : CFV RX6 72 M_X6_beWormed 0 := ⟨⟨gm 533 (by decide +kernel) rfl, mc_X6_beWormed, ini_X6, by decide +kernel, by decide +kernel⟩, im_X6_beWormed, se_X6_beWormed⟩
theorem K_X6_75 : CFS RX6 75 M_J9_max_7cf53 2 := ⟨⟨gm 542 (by decide +kernel) rfl, mc_J9_max_7cf53, ini_J9, by decide +kernel, by decide +kernel⟩, ss_J9_max_7cf53⟩
theorem K_X6_81 : CFV RX6 81 M_X3_ahead 2 := ⟨⟨gm 524 (by decide +kernel) rfl, mc_X3_ahead, ini_X3, by decide +kernel, by decide +kernel⟩, im_X3_ahead, se_X3_ahead⟩
theorem K_X6_86 : CFS RX6 86 M_J9_min_7cf53 2 := ⟨⟨gm 537 (by decide +kernel) rfl, mc_J9_min_7cf53, ini_J9, by decide +kernel, by decide +kernel⟩, ss_J9_min_7cf53⟩
theorem K_X6_95 : CFV RX6 95 M_X6_hear 2 := ⟨⟨gm 833 (by decide +kernel) rfl, mc_X6_hear, ini_X6, by decide +kernel, by decide +kernel⟩, im_X6_hear, se_X6_hear⟩
theorem K_L_9 : CFI RL 9 M_X7_init 0 := ⟨⟨gm 20 (by decide +kernel) rfl, mc_X7_init, ini_X7, by decide +kernel, by decide +kernel⟩, rfl, im_X7_init, rfl⟩
theorem K_L_12 : CFI RL 12 M_X8_init 0 := ⟨⟨gm 875 (by decide +kernel) rfl, mc_X8_init, ini_X8, by decide +kernel, by decide +kernel⟩, rfl, im_X8_init, rfl⟩
theorem K_L_13 : CFV RL 13 M_X7_feed 1 := ⟨⟨gm 256 (by decide +kernel) rfl, mc_X7_feed, ini_X7, by decide +kernel, by decide +kernel⟩, im_X7_feed, se_X7_feed⟩
theorem K_L_17 : CFV RL 17 M_X8_feed 1 := ⟨⟨gm 922 (by decide +kernel) rfl, mc_X8_feed, ini_X8, by decide +kernel, by decide +kernel⟩, im_X8_feed, se_X8_feed⟩
theorem K_L_18 : CFV RL 18 M_X7_fleet 0 := ⟨⟨gm 264 (by decide +kernel) rfl, mc_X7_fleet, ini_X7, by decide +kernel, by decide +kernel⟩, im_X7_fleet, se_X7_fleet⟩
theorem K_L_22 : CFV RL 22 M_X8_fleet 0 := ⟨⟨gm 930 (by decide +kernel) rfl, mc_X8_fleet, ini_X8, by decide +kernel, by decide +kernel⟩, im_X8_fleet, se_X8_fleet⟩
theorem K_L_23 : CFV RL 23 M_X7_ship 2 := ⟨⟨gm 437 (by decide +kernel) rfl, mc_X7_ship, ini_X7, by decide +kernel, by decide +kernel⟩, im_X7_ship, se_X7_ship⟩
theorem K_L_27 : CFV RL 27 M_X8_ship 2 := ⟨⟨gm 976 (by decide +kernel) rfl, mc_X8_ship, ini_X8, by decide +kernel, by decide +kernel⟩, im_X8_ship, se_X8_ship⟩
theorem K_L_28 : CFV RL 28 M_X7_as 2 := ⟨⟨gm 445 (by decide +kernel) rfl, mc_X7_as, ini_X7, by decide +kernel, by decide +kernel⟩, im_X7_as, se_X7_as⟩
theorem K_L_31 : CFV RL 31 M_X8_as 2 := ⟨⟨gm 984 (by decide +kernel) rfl, mc_X8_as, ini_X8, by decide +kernel, by decide +kernel⟩, im_X8_as, se_X8_as⟩
theorem K_L_32 : CFV RL 32 M_X7_sea 1 := ⟨⟨gm 454 (by decide +kernel) rfl, mc_X7_sea, ini_X7, by decide +kernel, by decide +kernel⟩, im_X7_sea, se_X7_sea⟩
theorem K_L_35 : CFV RL 35 M_X8_sea 1 := ⟨⟨gm 992 (by decide +kernel) rfl, mc_X8_sea, ini_X8, by decide +kernel, by decide +kernel⟩, im_X8_sea, se_X8_sea⟩
theorem K_L_36 : CFV RL 36 M_X7_credit 1 := ⟨⟨gm 460 (by decide +kernel) rfl, mc_X7_credit, ini_X7, by decide +kernel, by decide +kernel⟩, im_X7_credit, se_X7_credit⟩
theorem K_L_39 : CFV RL 39 M_X8_credit 1 := ⟨⟨gm 1000 (by decide +kernel) rfl, mc_X8_credit, ini_X8, by decide +kernel, by decide +kernel⟩, im_X8_credit, se_X8_credit⟩
theorem K_L_40 : CFV RL 40 M_X7_doubt 2 := ⟨⟨gm 471 (by decide +kernel) rfl, mc_X7_doubt, ini_X7, by decide +kernel, by decide +kernel⟩, im_X7_doubt, se_X7_doubt⟩
theorem K_L_43 : CFV RL 43 M_X8_doubt 2 := ⟨⟨gm 1012 (by decide +kernel) rfl, mc_X8_doubt, ini_X8, by decide +kernel, by decide +kernel⟩, im_X8_doubt, se_X8_doubt⟩
theorem K_L_44 : CFV RL 44 M_X7_say 3 := ⟨⟨gm 482 (by decide +kernel) rfl, mc_X7_say, ini_X7, by decide +kernel, by decide +kernel⟩, im_X7_say, se_X7_say⟩
theorem K_L_48 : CFV RL 48 M_X8_say 3 := ⟨⟨gm 1024 (by decide +kernel) rfl, mc_X8_say, ini_X8, by decide +kernel, by decide +kernel⟩, im_X8_say, se_X8_say⟩
theorem K_L_49 : CFV RL 49 M_X7_storm 5 := ⟨⟨gm 551 (by decide +kernel) rfl, mc_X7_storm, ini_X7, by decide +kernel, by decide +kernel⟩, im_X7_storm, se_X7_storm⟩
theorem K_L_53 : CFV RL 53 M_X8_storm 5 := ⟨⟨gm 1064 (by decide +kernel) rfl, mc_X8_storm, ini_X8, by decide +kernel, by decide +kernel⟩, im_X8_storm, se_X8_storm⟩
theorem K_L_54 : CFV RL 54 M_X7_drift 1 := ⟨⟨gm 563 (by decide +kernel) rfl, mc_X7_drift, ini_X7, by decide +kernel, by decide +kernel⟩, im_X7_drift, se_X7_drift⟩
theorem K_L_57 : CFV RL 57 M_X8_drift 1 := ⟨⟨gm 1072 (by decide +kernel) rfl, mc_X8_drift, ini_X8, by decide +kernel, by decide +kernel⟩, im_X8_drift, se_X8_drift⟩
theorem K_L_58 : CFV RL 58 M_X7_scrape 1 := ⟨⟨gm 568 (by decide +kernel) rfl, mc_X7_scrape, ini_X7, by decide +kernel, by decide +kernel⟩, im_X7_scrape, se_X7_scrape⟩
theorem K_L_61 : CFV RL 61 M_X8_scrape 1 := ⟨⟨gm 1076 (by decide +kernel) rfl, mc_X8_scrape, ini_X8, by decide +kernel, by decide +kernel⟩, im_X8_scrape, se_X8_scrape⟩
theorem K_L_62 : CFV RL 62 M_X7_learn 1 := ⟨⟨gm 572 (by decide +kernel) rfl, mc_X7_learn, ini_X7, by decide +kernel, by decide +kernel⟩, im_X7_learn, se_X7_learn⟩
theorem K_L_65 : CFV RL 65 M_X8_learn 1 := ⟨⟨gm 1080 (by decide +kernel) rfl, mc_X8_learn, ini_X8, by decide +kernel, by decide +kernel⟩, im_X8_learn, se_X8_learn⟩
theorem K_L_66 : CFV RL 66 M_X7_undo 0 := ⟨⟨gm 576 (by decide +kernel) rfl, mc_X7_undo, ini_X7, by decide +kernel, by decide +kernel⟩, im_X7_undo, se_X7_undo⟩
theorem K_L_69 : CFV RL 69 M_X8_undo 0 := ⟨⟨gm 1084 (by decide +kernel) rfl, mc_X8_undo, ini_X8, by decide +kernel, by decide +kernel⟩, im_X8_undo, se_X8_undo⟩
theorem K_L_70 : CFV RL 70 M_X7_image 1 := ⟨⟨gm 585 (by decide +kernel) rfl, mc_X7_image, ini_X7, by decide +kernel, by decide +kernel⟩, im_X7_image, se_X7_image⟩
theorem K_L_73 : CFV RL 73 M_X8_image 1 := ⟨⟨gm 1088 (by decide +kernel) rfl, mc_X8_image, ini_X8, by decide +kernel, by decide +kernel⟩, im_X8_image, se_X8_image⟩
theorem K_L_74 : CFV RL 74 M_X7_restore 1 := ⟨⟨gm 589 (by decide +kernel) rfl, mc_X7_restore, ini_X7, by decide +kernel, by decide +kernel⟩, im_X7_restore, se_X7_restore⟩
theorem K_L_77 : CFV RL 77 M_X8_restore 1 := ⟨⟨gm 1092 (by decide +kernel) rfl, mc_X8_restore, ini_X8, by decide +kernel, by decide +kernel⟩, im_X8_restore, se_X8_restore⟩
theorem K_L_78 : CFV RL 78 M_X7_believed 1 := ⟨⟨gm 593 (by decide +kernel) rfl, mc_X7_believed, ini_X7, by decide +kernel, by decide +kernel⟩, im_X7_believed, se_X7_believed⟩
theorem K_L_81 : CFV RL 81 M_X8_believed 1 := ⟨⟨gm 1096 (by decide +kernel) rfl, mc_X8_believed, ini_X8, by decide +kernel, by decide +kernel⟩, im_X8_believed, se_X8_believed⟩
theorem K_L_82 : CFV RL 82 M_X7_strikes 1 := ⟨⟨gm 601 (by decide +kernel) rfl, mc_X7_strikes, ini_X7, by decide +kernel, by decide +kernel⟩, im_X7_strikes, se_X7_strikes⟩
theorem K_L_85 : CFV RL 85 M_X8_strikes 1 := ⟨⟨gm 1100 (by decide +kernel) rfl, mc_X8_strikes, ini_X8, by decide +kernel, by decide +kernel⟩, im_X8_strikes, se_X8_strikes⟩
theorem K_L_86 : CFV RL 86 M_X7_course 4 := ⟨⟨gm 605 (by decide +kernel) rfl, mc_X7_course, ini_X7, by decide +kernel, by decide +kernel⟩, im_X7_course, se_X7_course⟩
theorem K_L_90 : CFV RL 90 M_X8_course 4 := ⟨⟨gm 1104 (by decide +kernel) rfl, mc_X8_course, ini_X8, by decide +kernel, by decide +kernel⟩, im_X8_course, se_X8_course⟩
theorem K_L_91 : CFV RL 91 M_X7_crew 1 := ⟨⟨gm 631 (by decide +kernel) rfl, mc_X7_crew, ini_X7, by decide +kernel, by decide +kernel⟩, im_X7_crew, se_X7_crew⟩
theorem K_L_94 : CFV RL 94 M_X8_crew 1 := ⟨⟨gm 1117 (by decide +kernel) rfl, mc_X8_crew, ini_X8, by decide +kernel, by decide +kernel⟩, im_X8_crew, se_X8_crew⟩
theorem K_L_95 : CFV RL 95 M_X7_hears 2 := ⟨⟨gm 652 (by decide +kernel) rfl, mc_X7_hears, ini_X7, by decide +kernel, by decide +kernel⟩, im_X7_hears, se_X7_hears⟩
theorem K_L_98 : CFV RL 98 M_X8_hears 2 := ⟨⟨gm 1128 (by decide +kernel) rfl, mc_X8_hears, ini_X8, by decide +kernel, by decide +kernel⟩, im_X8_hears, se_X8_hears⟩
theorem K_L_99 : CFV RL 99 M_X7_links 1 := ⟨⟨gm 677 (by decide +kernel) rfl, mc_X7_links, ini_X7, by decide +kernel, by decide +kernel⟩, im_X7_links, se_X7_links⟩
theorem K_L_102 : CFV RL 102 M_X8_links 1 := ⟨⟨gm 1143 (by decide +kernel) rfl, mc_X8_links, ini_X8, by decide +kernel, by decide +kernel⟩, im_X8_links, se_X8_links⟩
theorem K_L_103 : CFV RL 103 M_X7_talk 4 := ⟨⟨gm 687 (by decide +kernel) rfl, mc_X7_talk, ini_X7, by decide +kernel, by decide +kernel⟩, im_X7_talk, se_X7_talk⟩
theorem K_L_106 : CFV RL 106 M_X8_talk 4 := ⟨⟨gm 1147 (by decide +kernel) rfl, mc_X8_talk, ini_X8, by decide +kernel, by decide +kernel⟩, im_X8_talk, se_X8_talk⟩
theorem K_L_107 : CFV RL 107 M_X7_decades 3 := ⟨⟨gm 718 (by decide +kernel) rfl, mc_X7_decades, ini_X7, by decide +kernel, by decide +kernel⟩, im_X7_decades, se_X7_decades⟩
theorem K_L_110 : CFV RL 110 M_X8_decades 3 := ⟨⟨gm 1159 (by decide +kernel) rfl, mc_X8_decades, ini_X8, by decide +kernel, by decide +kernel⟩, im_X8_decades, se_X8_decades⟩
theorem K_L_111 : CFV RL 111 M_X7_sheet 3 := ⟨⟨gm 745 (by decide +kernel) rfl, mc_X7_sheet, ini_X7, by decide +kernel, by decide +kernel⟩, im_X7_sheet, se_X7_sheet⟩
theorem K_L_114 : CFV RL 114 M_X8_sheet 3 := ⟨⟨gm 1180 (by decide +kernel) rfl, mc_X8_sheet, ini_X8, by decide +kernel, by decide +kernel⟩, im_X8_sheet, se_X8_sheet⟩
theorem K_L_115 : CFV RL 115 M_X7_drop 1 := ⟨⟨gm 762 (by decide +kernel) rfl, mc_X7_drop, ini_X7, by decide +kernel, by decide +kernel⟩, im_X7_drop, se_X7_drop⟩
theorem K_L_118 : CFV RL 118 M_X8_drop 1 := ⟨⟨gm 1190 (by decide +kernel) rfl, mc_X8_drop, ini_X8, by decide +kernel, by decide +kernel⟩, im_X8_drop, se_X8_drop⟩
theorem K_L_121 : CFV RL 121 M_X7_item 4 := ⟨⟨gm 766 (by decide +kernel) rfl, mc_X7_item, ini_X7, by decide +kernel, by decide +kernel⟩, im_X7_item, se_X7_item⟩
theorem K_L_125 : CFV RL 125 M_X8_item 4 := ⟨⟨gm 1194 (by decide +kernel) rfl, mc_X8_item, ini_X8, by decide +kernel, by decide +kernel⟩, im_X8_item, se_X8_item⟩
theorem K_L_126 : CFV RL 126 M_X7_copy 5 := ⟨⟨gm 787 (by decide +kernel) rfl, mc_X7_copy, ini_X7, by decide +kernel, by decide +kernel⟩, im_X7_copy, se_X7_copy⟩
theorem K_L_129 : CFV RL 129 M_X8_copy 5 := ⟨⟨gm 1206 (by decide +kernel) rfl, mc_X8_copy, ini_X8, by decide +kernel, by decide +kernel⟩, im_X8_copy, se_X8_copy⟩
theorem K_L_130 : CFV RL 130 M_X7_log 6 := ⟨⟨gm 792 (by decide +kernel) rfl, mc_X7_log, ini_X7, by decide +kernel, by decide +kernel⟩, im_X7_log, se_X7_log⟩
theorem K_L_134 : CFV RL 134 M_X8_log 6 := ⟨⟨gm 1210 (by decide +kernel) rfl, mc_X8_log, ini_X8, by decide +kernel, by decide +kernel⟩, im_X8_log, se_X8_log⟩
theorem K_L_135 : CFV RL 135 M_X7_rows 7 := ⟨⟨gm 805 (by decide +kernel) rfl, mc_X7_rows, ini_X7, by decide +kernel, by decide +kernel⟩, im_X7_rows, se_X7_rows⟩
theorem K_L_139 : CFV RL 139 M_X8_rows 7 := ⟨⟨gm 1219 (by decide +kernel) rfl, mc_X8_rows, ini_X8, by decide +kernel, by decide +kernel⟩, im_X8_rows, se_X8_rows⟩
theorem K_L_140 : CFV RL 140 M_X7_kinds 7 := ⟨⟨gm 821 (by decide +kernel) rfl, mc_X7_kinds, ini_X7, by decide +kernel, by decide +kernel⟩, im_X7_kinds, se_X7_kinds⟩
theorem K_L_143 : CFV RL 143 M_X8_kinds 7 := ⟨⟨gm 1224 (by decide +kernel) rfl, mc_X8_kinds, ini_X8, by decide +kernel, by decide +kernel⟩, im_X8_kinds, se_X8_kinds⟩
theorem K_L_144 : CFV RL 144 M_X7_fog 7 := ⟨⟨gm 850 (by decide +kernel) rfl, mc_X7_fog, ini_X7, by decide +kernel, by decide +kernel⟩, im_X7_fog, se_X7_fog⟩
theorem K_L_147 : CFV RL 147 M_X8_fog 7 := ⟨⟨gm 1237 (by decide +kernel) rfl, mc_X8_fog, ini_X8, by decide +kernel, by decide +kernel⟩, im_X8_fog, se_X8_fog⟩
theorem K_L_148 : CFV RL 148 M_X7_count 1 := ⟨⟨gm 864 (by decide +kernel) rfl, mc_X7_count, ini_X7, by decide +kernel, by decide +kernel⟩, im_X7_count, se_X7_count⟩
theorem K_L_151 : CFV RL 151 M_X8_count 1 := ⟨⟨gm 1241 (by decide +kernel) rfl, mc_X8_count, ini_X8, by decide +kernel, by decide +kernel⟩, im_X8_count, se_X8_count⟩
theorem K_X8_44 : CFS RX8 44 M_X8_in 3 := ⟨⟨gm 927 (by decide +kernel) rfl, mc_X8_in, ini_X8, by decide +kernel, by decide +kernel⟩, ss_X8_in⟩
theorem K_X8_50 : CFV RX8 50 M_X8_isCellIn 3 := ⟨⟨gm 965 (by decide +kernel) rfl, mc_X8_isCellIn, ini_X8, by decide +kernel, by decide +kernel⟩, im_X8_isCellIn, se_X8_isCellIn⟩
theorem K_X8_63 : CFV RX8 63 M_X8_here 0 := ⟨⟨gm 942 (by decide +kernel) rfl, mc_X8_here, ini_X8, by decide +kernel, by decide +kernel⟩, im_X8_here, se_X8_here⟩
theorem K_X8_67 : CFS RX8 67 M_X8_seaOf 1 := ⟨⟨gm 950 (by decide +kernel) rfl, mc_X8_seaOf, ini_X8, by decide +kernel, by decide +kernel⟩, ss_X8_seaOf⟩
theorem K_X8_71 : CFS RX8 71 M_X8_kindOf 1 := ⟨⟨gm 957 (by decide +kernel) rfl, mc_X8_kindOf, ini_X8, by decide +kernel, by decide +kernel⟩, ss_X8_kindOf⟩
theorem K_X8_74 : CFV RX8 74 M_X8_figure 1 := ⟨⟨gm 960 (by decide +kernel) rfl, mc_X8_figure, ini_X8, by decide +kernel, by decide +kernel⟩, im_X8_figure, se_X8_figure⟩
theorem K_X8_79 : CFS RX8 79 M_X8_lookOf 1 := ⟨⟨gm 969 (by decide +kernel) rfl, mc_X8_lookOf, ini_X8, by decide +kernel, by decide +kernel⟩, ss_X8_lookOf⟩
theorem K_X8_82 : CFV RX8 82 M_X8_takes 1 := ⟨⟨gm 938 (by decide +kernel) rfl, mc_X8_takes, ini_X8, by decide +kernel, by decide +kernel⟩, im_X8_takes, se_X8_takes⟩
theorem K_X8_86 : CFV RX8 86 M_X8_takesRow 0 := ⟨⟨gm 946 (by decide +kernel) rfl, mc_X8_takesRow, ini_X8, by decide +kernel, by decide +kernel⟩, im_X8_takesRow, se_X8_takesRow⟩
theorem K_X8_90 : CFV RX8 90 M_X8_takesShip 0 := ⟨⟨gm 953 (by decide +kernel) rfl, mc_X8_takesShip, ini_X8, by decide +kernel, by decide +kernel⟩, im_X8_takesShip, se_X8_takesShip⟩
theorem K_X8_93 : CFV RX8 93 M_X8_takesAll 0 := ⟨⟨gm 934 (by decide +kernel) rfl, mc_X8_takesAll, ini_X8, by decide +kernel, by decide +kernel⟩, im_X8_takesAll, se_X8_takesAll⟩
theorem K_X8_96 : CFV RX8 96 M_X8_bring 3 := ⟨⟨gm 972 (by decide +kernel) rfl, mc_X8_bring, ini_X8, by decide +kernel, by decide +kernel⟩, im_X8_bring, se_X8_bring⟩
theorem K_X8_103 : CFV RX8 103 M_X8_isShip 1 := ⟨⟨gm 980 (by decide +kernel) rfl, mc_X8_isShip, ini_X8, by decide +kernel, by decide +kernel⟩, im_X8_isShip, se_X8_isShip⟩
theorem K_X8_108 : CFS RX8 108 M_X8_isA 2 := ⟨⟨gm 989 (by decide +kernel) rfl, mc_X8_isA, ini_X8, by decide +kernel, by decide +kernel⟩, ss_X8_isA⟩
theorem K_X8_112 : CFV RX8 112 M_X8_isCell 1 := ⟨⟨gm 996 (by decide +kernel) rfl, mc_X8_isCell, ini_X8, by decide +kernel, by decide +kernel⟩, im_X8_isCell, se_X8_isCell⟩
theorem K_X8_115 : CFV RX8 115 M_X8_isFleet 0 := ⟨⟨gm 1004 (by decide +kernel) rfl, mc_X8_isFleet, ini_X8, by decide +kernel, by decide +kernel⟩, im_X8_isFleet, se_X8_isFleet⟩
theorem K_X8_118 : CFS RX8 118 M_X8_isTeller 1 := ⟨⟨gm 1008 (by decide +kernel) rfl, mc_X8_isTeller, ini_X8, by decide +kernel, by decide +kernel⟩, ss_X8_isTeller⟩
theorem K_X8_121 : CFV RX8 121 M_X8_oak 2 := ⟨⟨gm 1020 (by decide +kernel) rfl, mc_X8_oak, ini_X8, by decide +kernel, by decide +kernel⟩, im_X8_oak, se_X8_oak⟩
theorem K_X8_125 : CFV RX8 125 M_X8_doubtIn 3 := ⟨⟨gm 1016 (by decide +kernel) rfl, mc_X8_doubtIn, ini_X8, by decide +kernel, by decide +kernel⟩, im_X8_doubtIn, se_X8_doubtIn⟩
theorem K_X8_129 : CFV RX8 129 M_X8_nextOf 3 := ⟨⟨gm 1052 (by decide +kernel) rfl, mc_X8_nextOf, ini_X8, by decide +kernel, by decide +kernel⟩, im_X8_nextOf, se_X8_nextOf⟩
theorem K_X8_132 : CFV RX8 132 M_X8_wormed 2 := ⟨⟨gm 1056 (by decide +kernel) rfl, mc_X8_wormed, ini_X8, by decide +kernel, by decide +kernel⟩, im_X8_wormed, se_X8_wormed⟩
theorem K_X8_136 : CFV RX8 136 M_X8_believesIn 3 := ⟨⟨gm 1040 (by decide +kernel) rfl, mc_X8_believesIn, ini_X8, by decide +kernel, by decide +kernel⟩, im_X8_believesIn, se_X8_believesIn⟩
theorem K_X8_139 : CFV RX8 139 M_X8_turned 3 := ⟨⟨gm 1044 (by decide +kernel) rfl, mc_X8_turned, ini_X8, by decide +kernel, by decide +kernel⟩, im_X8_turned, se_X8_turned⟩
theorem K_X8_142 : CFV RX8 142 M_X8_goes 2 := ⟨⟨gm 1048 (by decide +kernel) rfl, mc_X8_goes, ini_X8, by decide +kernel, by decide +kernel⟩, im_X8_goes, se_X8_goes⟩
theorem K_X8_145 : CFV RX8 145 M_X8_credits 3 := ⟨⟨gm 1060 (by decide +kernel) rfl, mc_X8_credits, ini_X8, by decide +kernel, by decide +kernel⟩, im_X8_credits, se_X8_credits⟩
theorem K_X8_150 : CFS RX8 150 M_X8_isWord 1 := ⟨⟨gm 1028 (by decide +kernel) rfl, mc_X8_isWord, ini_X8, by decide +kernel, by decide +kernel⟩, ss_X8_isWord⟩
theorem K_X8_154 : CFV RX8 154 M_X8_minds 0 := ⟨⟨gm 1032 (by decide +kernel) rfl, mc_X8_minds, ini_X8, by decide +kernel, by decide +kernel⟩, im_X8_minds, se_X8_minds⟩
theorem K_X8_157 : CFV RX8 157 M_X8_says 4 := ⟨⟨gm 1036 (by decide +kernel) rfl, mc_X8_says, ini_X8, by decide +kernel, by decide +kernel⟩, im_X8_says, se_X8_says⟩
theorem K_X8_161 : CFV RX8 161 M_X8_storms 6 := ⟨⟨gm 1068 (by decide +kernel) rfl, mc_X8_storms, ini_X8, by decide +kernel, by decide +kernel⟩, im_X8_storms, se_X8_storms⟩
theorem K_X8_166 : CFV RX8 166 M_X8_leads 4 := ⟨⟨gm 1113 (by decide +kernel) rfl, mc_X8_leads, ini_X8, by decide +kernel, by decide +kernel⟩, im_X8_leads, se_X8_leads⟩
theorem K_X8_170 : CFV RX8 170 M_X8_laysLeft 3 := ⟨⟨gm 1108 (by decide +kernel) rfl, mc_X8_laysLeft, ini_X8, by decide +kernel, by decide +kernel⟩, im_X8_laysLeft, se_X8_laysLeft⟩
theorem K_X8_174 : CFS RX8 174 M_X8_has 2 := ⟨⟨gm 1125 (by decide +kernel) rfl, mc_X8_has, ini_X8, by decide +kernel, by decide +kernel⟩, ss_X8_has⟩
theorem K_X8_177 : CFV RX8 177 M_X8_bestCrew 0 := ⟨⟨gm 1121 (by decide +kernel) rfl, mc_X8_bestCrew, ini_X8, by decide +kernel, by decide +kernel⟩, im_X8_bestCrew, se_X8_bestCrew⟩
theorem K_X8_180 : CFS RX8 180 M_X8_size 1 := ⟨⟨gm 1140 (by decide +kernel) rfl, mc_X8_size, ini_X8, by decide +kernel, by decide +kernel⟩, ss_X8_size⟩
theorem K_X8_183 : CFS RX8 183 M_X8_away 2 := ⟨⟨gm 1137 (by decide +kernel) rfl, mc_X8_away, ini_X8, by decide +kernel, by decide +kernel⟩, ss_X8_away⟩
theorem K_X8_188 : CFV RX8 188 M_X8_hearing 3 := ⟨⟨gm 1133 (by decide +kernel) rfl, mc_X8_hearing, ini_X8, by decide +kernel, by decide +kernel⟩, im_X8_hearing, se_X8_hearing⟩
theorem K_X8_191 : CFV RX8 191 M_X8_harbourFrom 1 := ⟨⟨gm 1151 (by decide +kernel) rfl, mc_X8_harbourFrom, ini_X8, by decide +kernel, by decide +kernel⟩, im_X8_harbourFrom, se_X8_harbourFrom⟩
theorem K_X8_194 : CFV RX8 194 M_X8_tries 0 := ⟨⟨gm 1155 (by decide +kernel) rfl, mc_X8_tries, ini_X8, by decide +kernel, by decide +kernel⟩, im_X8_tries, se_X8_tries⟩
theorem K_X8_215 : CFV RX8 215 M_X8_wormAll 1 := ⟨⟨gm 1172 (by decide +kernel) rfl, mc_X8_wormAll, ini_X8, by decide +kernel, by decide +kernel⟩, im_X8_wormAll, se_X8_wormAll⟩
theorem K_X8_218 : CFV RX8 218 M_X8_creditAll 1 := ⟨⟨gm 1176 (by decide +kernel) rfl, mc_X8_creditAll, ini_X8, by decide +kernel, by decide +kernel⟩, im_X8_creditAll, se_X8_creditAll⟩
theorem K_X8_221 : CFS RX8 221 M_X8_isSheet 1 := ⟨⟨gm 1187 (by decide +kernel) rfl, mc_X8_isSheet, ini_X8, by decide +kernel, by decide +kernel⟩, ss_X8_isSheet⟩
theorem K_X8_224 : CFS RX8 224 M_X8_isLane 2 := ⟨⟨gm 1184 (by decide +kernel) rfl, mc_X8_isLane, ini_X8, by decide +kernel, by decide +kernel⟩, ss_X8_isLane⟩
theorem K_X8_229 : CFV RX8 229 M_X8_against 4 := ⟨⟨gm 1199 (by decide +kernel) rfl, mc_X8_against, ini_X8, by decide +kernel, by decide +kernel⟩, im_X8_against, se_X8_against⟩
theorem K_X8_233 : CFS RX8 233 M_X8_lowest 2 := ⟨⟨gm 1203 (by decide +kernel) rfl, mc_X8_lowest, ini_X8, by decide +kernel, by decide +kernel⟩, ss_X8_lowest⟩
theorem K_X8_239 : CFV RX8 239 M_X8_areWords 3 := ⟨⟨gm 1215 (by decide +kernel) rfl, mc_X8_areWords, ini_X8, by decide +kernel, by decide +kernel⟩, im_X8_areWords, se_X8_areWords⟩
theorem K_X8_244 : CFV RX8 244 M_X8_isSo 5 := ⟨⟨gm 1229 (by decide +kernel) rfl, mc_X8_isSo, ini_X8, by decide +kernel, by decide +kernel⟩, im_X8_isSo, se_X8_isSo⟩
theorem K_X8_250 : CFV RX8 250 M_X8_bestTry 5 := ⟨⟨gm 1233 (by decide +kernel) rfl, mc_X8_bestTry, ini_X8, by decide +kernel, by decide +kernel⟩, im_X8_bestTry, se_X8_bestTry⟩
theorem K_X8_254 : CFV RX8 254 M_X8_harbours 0 := ⟨⟨gm 1245 (by decide +kernel) rfl, mc_X8_harbours, ini_X8, by decide +kernel, by decide +kernel⟩, im_X8_harbours, se_X8_harbours⟩
theorem K_X8_257 : CFV RX8 257 M_X8_inHarbour 0 := ⟨⟨gm 1249 (by decide +kernel) rfl, mc_X8_inHarbour, ini_X8, by decide +kernel, by decide +kernel⟩, im_X8_inHarbour, se_X8_inHarbour⟩
theorem K_J0_492 : CFV RJ0 492 M_J0_isLatin1_aae02 0 := ⟨⟨gm 309 (by decide +kernel) rfl, mc_J0_isLatin1_aae02, ini_J0, by decide +kernel, by decide +kernel⟩, im_J0_isLatin1_aae02, se_J0_isLatin1_aae02⟩
theorem K_J0_633 : CFV RJ0 633 M_J0_indexOf_7cf53 2 := ⟨⟨gm 305 (by decide +kernel) rfl, mc_J0_indexOf_7cf53, ini_J0, by decide +kernel, by decide +kernel⟩, im_J0_indexOf_7cf53, se_J0_indexOf_7cf53⟩
theorem K_J0_637 : CFS RJ0 637 M_J1_indexOf_4cfef 4 := ⟨⟨gm 323 (by decide +kernel) rfl, mc_J1_indexOf_4cfef, ini_J1, by decide +kernel, by decide +kernel⟩, ss_J1_indexOf_4cfef⟩
theorem K_J1_38 : CFS RJ1 38 M_J9_min_7cf53 2 := ⟨⟨gm 332 (by decide +kernel) rfl, mc_J9_min_7cf53, ini_J9, by decide +kernel, by decide +kernel⟩, ss_J9_min_7cf53⟩
theorem K_J1_88 : CFS RJ1 88 M_J1_canEncode_9a6ad 1 := ⟨⟨gm 326 (by decide +kernel) rfl, mc_J1_canEncode_9a6ad, ini_J1, by decide +kernel, by decide +kernel⟩, ss_J1_canEncode_9a6ad⟩
theorem K_J1_92 : CFS RJ1 92 M_J9_max_7cf53 2 := ⟨⟨gm 329 (by decide +kernel) rfl, mc_J9_max_7cf53, ini_J9, by decide +kernel, by decide +kernel⟩, ss_J9_max_7cf53⟩
theorem K_J1_95 : CFS RJ1 95 M_J1_indexOfChar_4cfef 4 := ⟨⟨gm 335 (by decide +kernel) rfl, mc_J1_indexOfChar_4cfef, ini_J1, by decide +kernel, by decide +kernel⟩, ss_J1_indexOfChar_4cfef⟩
theorem K_J2_183 : CFS RJ2 183 M_J9_min_7cf53 2 := ⟨⟨gm 342 (by decide +kernel) rfl, mc_J9_min_7cf53, ini_J9, by decide +kernel, by decide +kernel⟩, ss_J9_min_7cf53⟩
theorem K_J2_224 : CFS RJ2 224 M_J9_max_7cf53 2 := ⟨⟨gm 341 (by decide +kernel) rfl, mc_J9_max_7cf53, ini_J9, by decide +kernel, by decide +kernel⟩, ss_J9_max_7cf53⟩
theorem K_X7_9 : CFIN RX7 9 M_X5_init 0 := ⟨⟨by decide +kernel, mc_X5_init, ini_X5, by decide +kernel, by decide +kernel⟩, rfl, im_X5_init, rfl⟩
theorem K_X7_18 : CFIN RX7 18 M_X2_init 0 := ⟨⟨by decide +kernel, mc_X2_init, ini_X2, by decide +kernel, by decide +kernel⟩, rfl, im_X2_init, rfl⟩
theorem K_X7_67 : CFIN RX7 67 M_X4_init 0 := ⟨⟨by decide +kernel, mc_X4_init, ini_X4, by decide +kernel, by decide +kernel⟩, rfl, im_X4_init, rfl⟩
theorem K_X1_61 : CFSN RX1 61 M_X7_turned 3 := ⟨⟨by decide +kernel, mc_X7_turned, ini_X7, by decide +kernel, by decide +kernel⟩, ss_X7_turned⟩
theorem K_X2_11 : CFIN RX2 11 M_X3_init 0 := ⟨⟨by decide +kernel, mc_X3_init, ini_X3, by decide +kernel, by decide +kernel⟩, rfl, im_X3_init, rfl⟩
theorem K_X2_54 : CFSN RX2 54 M_X7_doubtBy 3 := ⟨⟨by decide +kernel, mc_X7_doubtBy, ini_X7, by decide +kernel, by decide +kernel⟩, ss_X7_doubtBy⟩
theorem K_X4_32 : CFSN RX4 32 M_X7_isWord 1 := ⟨⟨by decide +kernel, mc_X7_isWord, ini_X7, by decide +kernel, by decide +kernel⟩, ss_X7_isWord⟩
theorem K_X6_49 : CFSN RX6 49 M_X7_doubtBy 3 := ⟨⟨by decide +kernel, mc_X7_doubtBy, ini_X7, by decide +kernel, by decide +kernel⟩, ss_X7_doubtBy⟩
theorem K_X6_57 : CFSN RX6 57 M_X7_turned 3 := ⟨⟨by decide +kernel, mc_X7_turned, ini_X7, by decide +kernel, by decide +kernel⟩, ss_X7_turned⟩
theorem uw_X0 : ∀ w ∈ u_ws RX0 TX0 5, w ∈ gtbl := by decide +kernel
theorem uw_X1 : ∀ w ∈ u_ws RX1 TX1 6, w ∈ gtbl := by decide +kernel
theorem uw_X2 : ∀ w ∈ u_ws RX2 TX2 8, w ∈ gtbl := by decide +kernel
theorem uw_X3 : ∀ w ∈ u_ws RX3 TX3 3, w ∈ gtbl := by decide +kernel
theorem uw_X4 : ∀ w ∈ u_ws RX4 TX4 4, w ∈ gtbl := by decide +kernel
theorem uw_X5 : ∀ w ∈ u_ws RX5 TX5 3, w ∈ gtbl := by decide +kernel
theorem uw_X6 : ∀ w ∈ u_ws RX6 TX6 6, w ∈ gtbl := by decide +kernel
theorem uw_X7 : ∀ w ∈ u_ws RX7 TX7 9, w ∈ gtbl := by decide +kernel
theorem uw_X8 : ∀ w ∈ u_ws RX8 TX8 14, w ∈ gtbl := by decide +kernel
theorem G_X7_10 : FL RX7 10 7 0 := ⟨RX7, TX7, 9, rfl, uw_X7, by decide, gm 228 (by decide +kernel) rfl⟩
theorem G_X7_19 : FL RX7 19 7 1 := ⟨RX7, TX7, 9, rfl, uw_X7, by decide, gm 229 (by decide +kernel) rfl⟩
theorem G_X7_23 : FL RX7 23 7 2 := ⟨RX7, TX7, 9, rfl, uw_X7, by decide, gm 230 (by decide +kernel) rfl⟩
theorem G_X7_26 : FL RX7 26 7 3 := ⟨RX7, TX7, 9, rfl, uw_X7, by decide, gm 231 (by decide +kernel) rfl⟩
theorem G_X7_32 : FL RX7 32 2 0 := ⟨RX2, TX2, 8, rfl, uw_X2, by decide, gm 73 (by decide +kernel) rfl⟩
theorem G_X7_39 : FL RX7 39 7 4 := ⟨RX7, TX7, 9, rfl, uw_X7, by decide, gm 232 (by decide +kernel) rfl⟩
theorem G_X7_45 : FL RX7 45 7 5 := ⟨RX7, TX7, 9, rfl, uw_X7, by decide, gm 233 (by decide +kernel) rfl⟩
theorem G_X7_52 : FL RX7 52 7 6 := ⟨RX7, TX7, 9, rfl, uw_X7, by decide, gm 234 (by decide +kernel) rfl⟩
theorem G_X7_58 : FL RX7 58 7 7 := ⟨RX7, TX7, 9, rfl, uw_X7, by decide, gm 235 (by decide +kernel) rfl⟩
theorem G_X7_62 : FL RX7 62 7 8 := ⟨RX7, TX7, 9, rfl, uw_X7, by decide, gm 236 (by decide +kernel) rfl⟩
theorem G_X7_72 : FL RX7 72 5 1 := ⟨RX5, TX5, 3, rfl, uw_X5, by decide, gm 34 (by decide +kernel) rfl⟩
theorem H_X7_72 : FP RX7 72 5 1 .int := ⟨RX5, TX5, 3, tyX5, rfl, uw_X5, by decide, gm 34 (by decide +kernel) rfl, tyX5_ok, nmX5, rfl, by decide +kernel⟩
theorem G_X7_80 : FL RX7 80 5 2 := ⟨RX5, TX5, 3, rfl, uw_X5, by decide, gm 36 (by decide +kernel) rfl⟩
theorem H_X7_80 : FP RX7 80 5 2 .int := ⟨RX5, TX5, 3, tyX5, rfl, uw_X5, by decide, gm 36 (by decide +kernel) rfl, tyX5_ok, nmX5, rfl, by decide +kernel⟩
theorem G_X7_90 : FL RX7 90 2 6 := ⟨RX2, TX2, 8, rfl, uw_X2, by decide, gm 96 (by decide +kernel) rfl⟩
theorem H_X7_90 : FP RX7 90 2 6 .int := ⟨RX2, TX2, 8, tyX2, rfl, uw_X2, by decide, gm 96 (by decide +kernel) rfl, tyX2_ok, nmX2, rfl, by decide +kernel⟩
theorem G_X7_96 : FL RX7 96 2 1 := ⟨RX2, TX2, 8, rfl, uw_X2, by decide, gm 77 (by decide +kernel) rfl⟩
theorem G_X7_99 : FL RX7 99 2 2 := ⟨RX2, TX2, 8, rfl, uw_X2, by decide, gm 81 (by decide +kernel) rfl⟩
theorem G_X7_102 : FL RX7 102 2 3 := ⟨RX2, TX2, 8, rfl, uw_X2, by decide, gm 85 (by decide +kernel) rfl⟩
theorem G_X7_105 : FL RX7 105 2 4 := ⟨RX2, TX2, 8, rfl, uw_X2, by decide, gm 89 (by decide +kernel) rfl⟩
theorem G_X7_128 : FL RX7 128 2 5 := ⟨RX2, TX2, 8, rfl, uw_X2, by decide, gm 93 (by decide +kernel) rfl⟩
theorem G_X7_139 : FL RX7 139 2 7 := ⟨RX2, TX2, 8, rfl, uw_X2, by decide, gm 100 (by decide +kernel) rfl⟩
theorem H_X7_139 : FP RX7 139 2 7 .int := ⟨RX2, TX2, 8, tyX2, rfl, uw_X2, by decide, gm 100 (by decide +kernel) rfl, tyX2_ok, nmX2, rfl, by decide +kernel⟩
theorem G_X7_168 : FL RX7 168 0 3 := ⟨RX0, TX0, 5, rfl, uw_X0, by decide, gm 161 (by decide +kernel) rfl⟩
theorem H_X7_168 : FP RX7 168 0 3 .int := ⟨RX0, TX0, 5, tyX0, rfl, uw_X0, by decide, gm 161 (by decide +kernel) rfl, tyX0_ok, nmX0, rfl, by decide +kernel⟩
theorem G_X7_181 : FL RX7 181 1 4 := ⟨RX1, TX1, 6, rfl, uw_X1, by decide, gm 186 (by decide +kernel) rfl⟩
theorem G_X7_241 : FL RX7 241 4 1 := ⟨RX4, TX4, 4, rfl, uw_X4, by decide, gm 213 (by decide +kernel) rfl⟩
theorem H_X7_241 : FP RX7 241 4 1 .boolean := ⟨RX4, TX4, 4, tyX4, rfl, uw_X4, by decide, gm 213 (by decide +kernel) rfl, tyX4_ok, nmX4, rfl, by decide +kernel⟩
theorem G_X7_245 : FL RX7 245 4 3 := ⟨RX4, TX4, 4, rfl, uw_X4, by decide, gm 217 (by decide +kernel) rfl⟩
theorem H_X7_245 : FP RX7 245 4 3 .int := ⟨RX4, TX4, 4, tyX4, rfl, uw_X4, by decide, gm 217 (by decide +kernel) rfl, tyX4_ok, nmX4, rfl, by decide +kernel⟩
theorem G_X7_255 : FL RX7 255 4 2 := ⟨RX4, TX4, 4, rfl, uw_X4, by decide, gm 215 (by decide +kernel) rfl⟩
theorem H_X7_255 : FP RX7 255 4 2 .int := ⟨RX4, TX4, 4, tyX4, rfl, uw_X4, by decide, gm 215 (by decide +kernel) rfl, tyX4_ok, nmX4, rfl, by decide +kernel⟩
theorem G_X7_261 : FL RX7 261 4 0 := ⟨RX4, TX4, 4, rfl, uw_X4, by decide, gm 211 (by decide +kernel) rfl⟩
theorem G_X7_279 : FL RX7 279 6 3 := ⟨RX6, TX6, 6, rfl, uw_X6, by decide, gm 139 (by decide +kernel) rfl⟩
theorem H_X7_279 : FP RX7 279 6 3 .int := ⟨RX6, TX6, 6, tyX6, rfl, uw_X6, by decide, gm 139 (by decide +kernel) rfl, tyX6_ok, nmX6, rfl, by decide +kernel⟩
theorem G_X7_305 : FL RX7 305 3 2 := ⟨RX3, TX3, 3, rfl, uw_X3, by decide, gm 64 (by decide +kernel) rfl⟩
theorem H_X7_305 : FP RX7 305 3 2 .int := ⟨RX3, TX3, 3, tyX3, rfl, uw_X3, by decide, gm 64 (by decide +kernel) rfl, tyX3_ok, nmX3, rfl, by decide +kernel⟩
theorem G_X7_308 : FL RX7 308 3 1 := ⟨RX3, TX3, 3, rfl, uw_X3, by decide, gm 61 (by decide +kernel) rfl⟩
theorem H_X7_308 : FP RX7 308 3 1 .int := ⟨RX3, TX3, 3, tyX3, rfl, uw_X3, by decide, gm 61 (by decide +kernel) rfl, tyX3_ok, nmX3, rfl, by decide +kernel⟩
theorem G_X7_353 : FL RX7 353 6 2 := ⟨RX6, TX6, 6, rfl, uw_X6, by decide, gm 136 (by decide +kernel) rfl⟩
theorem H_X7_353 : FP RX7 353 6 2 .int := ⟨RX6, TX6, 6, tyX6, rfl, uw_X6, by decide, gm 136 (by decide +kernel) rfl, tyX6_ok, nmX6, rfl, by decide +kernel⟩
theorem G_X7_378 : FL RX7 378 6 5 := ⟨RX6, TX6, 6, rfl, uw_X6, by decide, gm 143 (by decide +kernel) rfl⟩
theorem H_X7_378 : FP RX7 378 6 5 .int := ⟨RX6, TX6, 6, tyX6, rfl, uw_X6, by decide, gm 143 (by decide +kernel) rfl, tyX6_ok, nmX6, rfl, by decide +kernel⟩
theorem G_X0_11 : FL RX0 11 0 0 := ⟨RX0, TX0, 5, rfl, uw_X0, by decide, gm 157 (by decide +kernel) rfl⟩
theorem G_X0_17 : FL RX0 17 0 1 := ⟨RX0, TX0, 5, rfl, uw_X0, by decide, gm 158 (by decide +kernel) rfl⟩
theorem G_X0_21 : FL RX0 21 0 2 := ⟨RX0, TX0, 5, rfl, uw_X0, by decide, gm 159 (by decide +kernel) rfl⟩
theorem G_X0_24 : FL RX0 24 0 3 := ⟨RX0, TX0, 5, rfl, uw_X0, by decide, gm 160 (by decide +kernel) rfl⟩
theorem H_X0_24 : FP RX0 24 0 3 .int := ⟨RX0, TX0, 5, tyX0, rfl, uw_X0, by decide, gm 160 (by decide +kernel) rfl, tyX0_ok, nmX0, rfl, by decide +kernel⟩
theorem G_X0_28 : FL RX0 28 0 4 := ⟨RX0, TX0, 5, rfl, uw_X0, by decide, gm 162 (by decide +kernel) rfl⟩
theorem H_X0_28 : FP RX0 28 0 4 .int := ⟨RX0, TX0, 5, tyX0, rfl, uw_X0, by decide, gm 162 (by decide +kernel) rfl, tyX0_ok, nmX0, rfl, by decide +kernel⟩
theorem G_X0_38 : FL RX0 38 2 7 := ⟨RX2, TX2, 8, rfl, uw_X2, by decide, gm 99 (by decide +kernel) rfl⟩
theorem H_X0_38 : FP RX0 38 2 7 .int := ⟨RX2, TX2, 8, tyX2, rfl, uw_X2, by decide, gm 99 (by decide +kernel) rfl, tyX2_ok, nmX2, rfl, by decide +kernel⟩
theorem G_X1_11 : FL RX1 11 1 1 := ⟨RX1, TX1, 6, rfl, uw_X1, by decide, gm 182 (by decide +kernel) rfl⟩
theorem G_X1_15 : FL RX1 15 1 2 := ⟨RX1, TX1, 6, rfl, uw_X1, by decide, gm 183 (by decide +kernel) rfl⟩
theorem G_X1_18 : FL RX1 18 1 3 := ⟨RX1, TX1, 6, rfl, uw_X1, by decide, gm 184 (by decide +kernel) rfl⟩
theorem G_X1_21 : FL RX1 21 1 4 := ⟨RX1, TX1, 6, rfl, uw_X1, by decide, gm 185 (by decide +kernel) rfl⟩
theorem G_X1_24 : FL RX1 24 1 5 := ⟨RX1, TX1, 6, rfl, uw_X1, by decide, gm 187 (by decide +kernel) rfl⟩
theorem H_X1_24 : FP RX1 24 1 5 .int := ⟨RX1, TX1, 6, tyX1, rfl, uw_X1, by decide, gm 187 (by decide +kernel) rfl, tyX1_ok, nmX1, rfl, by decide +kernel⟩
theorem G_X1_28 : FL RX1 28 1 0 := ⟨RX1, TX1, 6, rfl, uw_X1, by decide, gm 181 (by decide +kernel) rfl⟩
theorem G_X1_44 : FL RX1 44 6 3 := ⟨RX6, TX6, 6, rfl, uw_X6, by decide, gm 138 (by decide +kernel) rfl⟩
theorem H_X1_44 : FP RX1 44 6 3 .int := ⟨RX6, TX6, 6, tyX6, rfl, uw_X6, by decide, gm 138 (by decide +kernel) rfl, tyX6_ok, nmX6, rfl, by decide +kernel⟩
theorem G_X1_47 : FL RX1 47 6 4 := ⟨RX6, TX6, 6, rfl, uw_X6, by decide, gm 141 (by decide +kernel) rfl⟩
theorem H_X1_47 : FP RX1 47 6 4 .int := ⟨RX6, TX6, 6, tyX6, rfl, uw_X6, by decide, gm 141 (by decide +kernel) rfl, tyX6_ok, nmX6, rfl, by decide +kernel⟩
theorem G_X1_54 : FL RX1 54 6 2 := ⟨RX6, TX6, 6, rfl, uw_X6, by decide, gm 135 (by decide +kernel) rfl⟩
theorem H_X1_54 : FP RX1 54 6 2 .int := ⟨RX6, TX6, 6, tyX6, rfl, uw_X6, by decide, gm 135 (by decide +kernel) rfl, tyX6_ok, nmX6, rfl, by decide +kernel⟩
theorem G_X2_12 : FL RX2 12 2 0 := ⟨RX2, TX2, 8, rfl, uw_X2, by decide, gm 72 (by decide +kernel) rfl⟩
theorem G_X2_18 : FL RX2 18 2 1 := ⟨RX2, TX2, 8, rfl, uw_X2, by decide, gm 75 (by decide +kernel) rfl⟩
theorem G_X2_22 : FL RX2 22 2 2 := ⟨RX2, TX2, 8, rfl, uw_X2, by decide, gm 79 (by decide +kernel) rfl⟩
theorem G_X2_25 : FL RX2 25 2 3 := ⟨RX2, TX2, 8, rfl, uw_X2, by decide, gm 83 (by decide +kernel) rfl⟩
theorem G_X2_28 : FL RX2 28 2 4 := ⟨RX2, TX2, 8, rfl, uw_X2, by decide, gm 87 (by decide +kernel) rfl⟩
theorem G_X2_31 : FL RX2 31 2 5 := ⟨RX2, TX2, 8, rfl, uw_X2, by decide, gm 91 (by decide +kernel) rfl⟩
theorem G_X2_34 : FL RX2 34 2 6 := ⟨RX2, TX2, 8, rfl, uw_X2, by decide, gm 95 (by decide +kernel) rfl⟩
theorem H_X2_34 : FP RX2 34 2 6 .int := ⟨RX2, TX2, 8, tyX2, rfl, uw_X2, by decide, gm 95 (by decide +kernel) rfl, tyX2_ok, nmX2, rfl, by decide +kernel⟩
theorem G_X2_38 : FL RX2 38 2 7 := ⟨RX2, TX2, 8, rfl, uw_X2, by decide, gm 98 (by decide +kernel) rfl⟩
theorem H_X2_38 : FP RX2 38 2 7 .int := ⟨RX2, TX2, 8, tyX2, rfl, uw_X2, by decide, gm 98 (by decide +kernel) rfl, tyX2_ok, nmX2, rfl, by decide +kernel⟩
theorem G_X3_9 : FL RX3 9 3 0 := ⟨RX3, TX3, 3, rfl, uw_X3, by decide, gm 57 (by decide +kernel) rfl⟩
theorem G_X3_15 : FL RX3 15 3 1 := ⟨RX3, TX3, 3, rfl, uw_X3, by decide, gm 59 (by decide +kernel) rfl⟩
theorem H_X3_15 : FP RX3 15 3 1 .int := ⟨RX3, TX3, 3, tyX3, rfl, uw_X3, by decide, gm 59 (by decide +kernel) rfl, tyX3_ok, nmX3, rfl, by decide +kernel⟩
theorem G_X3_19 : FL RX3 19 3 2 := ⟨RX3, TX3, 3, rfl, uw_X3, by decide, gm 62 (by decide +kernel) rfl⟩
theorem H_X3_19 : FP RX3 19 3 2 .int := ⟨RX3, TX3, 3, tyX3, rfl, uw_X3, by decide, gm 62 (by decide +kernel) rfl, tyX3_ok, nmX3, rfl, by decide +kernel⟩
theorem G_X4_9 : FL RX4 9 4 0 := ⟨RX4, TX4, 4, rfl, uw_X4, by decide, gm 209 (by decide +kernel) rfl⟩
theorem G_X4_15 : FL RX4 15 4 1 := ⟨RX4, TX4, 4, rfl, uw_X4, by decide, gm 212 (by decide +kernel) rfl⟩
theorem H_X4_15 : FP RX4 15 4 1 .boolean := ⟨RX4, TX4, 4, tyX4, rfl, uw_X4, by decide, gm 212 (by decide +kernel) rfl, tyX4_ok, nmX4, rfl, by decide +kernel⟩
theorem G_X4_19 : FL RX4 19 4 2 := ⟨RX4, TX4, 4, rfl, uw_X4, by decide, gm 214 (by decide +kernel) rfl⟩
theorem H_X4_19 : FP RX4 19 4 2 .int := ⟨RX4, TX4, 4, tyX4, rfl, uw_X4, by decide, gm 214 (by decide +kernel) rfl, tyX4_ok, nmX4, rfl, by decide +kernel⟩
theorem G_X4_23 : FL RX4 23 4 3 := ⟨RX4, TX4, 4, rfl, uw_X4, by decide, gm 216 (by decide +kernel) rfl⟩
theorem H_X4_23 : FP RX4 23 4 3 .int := ⟨RX4, TX4, 4, tyX4, rfl, uw_X4, by decide, gm 216 (by decide +kernel) rfl, tyX4_ok, nmX4, rfl, by decide +kernel⟩
theorem G_X5_9 : FL RX5 9 5 0 := ⟨RX5, TX5, 3, rfl, uw_X5, by decide, gm 32 (by decide +kernel) rfl⟩
theorem G_X5_15 : FL RX5 15 5 1 := ⟨RX5, TX5, 3, rfl, uw_X5, by decide, gm 33 (by decide +kernel) rfl⟩
theorem H_X5_15 : FP RX5 15 5 1 .int := ⟨RX5, TX5, 3, tyX5, rfl, uw_X5, by decide, gm 33 (by decide +kernel) rfl, tyX5_ok, nmX5, rfl, by decide +kernel⟩
theorem G_X5_19 : FL RX5 19 5 2 := ⟨RX5, TX5, 3, rfl, uw_X5, by decide, gm 35 (by decide +kernel) rfl⟩
theorem H_X5_19 : FP RX5 19 5 2 .int := ⟨RX5, TX5, 3, tyX5, rfl, uw_X5, by decide, gm 35 (by decide +kernel) rfl, tyX5_ok, nmX5, rfl, by decide +kernel⟩
theorem G_X5_31 : FL RX5 31 2 0 := ⟨RX2, TX2, 8, rfl, uw_X2, by decide, gm 74 (by decide +kernel) rfl⟩
theorem G_X5_60 : FL RX5 60 3 1 := ⟨RX3, TX3, 3, rfl, uw_X3, by decide, gm 60 (by decide +kernel) rfl⟩
theorem H_X5_60 : FP RX5 60 3 1 .int := ⟨RX3, TX3, 3, tyX3, rfl, uw_X3, by decide, gm 60 (by decide +kernel) rfl, tyX3_ok, nmX3, rfl, by decide +kernel⟩
theorem G_X5_65 : FL RX5 65 3 2 := ⟨RX3, TX3, 3, rfl, uw_X3, by decide, gm 63 (by decide +kernel) rfl⟩
theorem H_X5_65 : FP RX5 65 3 2 .int := ⟨RX3, TX3, 3, tyX3, rfl, uw_X3, by decide, gm 63 (by decide +kernel) rfl, tyX3_ok, nmX3, rfl, by decide +kernel⟩
theorem G_X5_74 : FL RX5 74 3 0 := ⟨RX3, TX3, 3, rfl, uw_X3, by decide, gm 58 (by decide +kernel) rfl⟩
theorem G_X5_85 : FL RX5 85 2 6 := ⟨RX2, TX2, 8, rfl, uw_X2, by decide, gm 97 (by decide +kernel) rfl⟩
theorem H_X5_85 : FP RX5 85 2 6 .int := ⟨RX2, TX2, 8, tyX2, rfl, uw_X2, by decide, gm 97 (by decide +kernel) rfl, tyX2_ok, nmX2, rfl, by decide +kernel⟩
theorem G_X5_90 : FL RX5 90 2 1 := ⟨RX2, TX2, 8, rfl, uw_X2, by decide, gm 78 (by decide +kernel) rfl⟩
theorem G_X5_98 : FL RX5 98 2 3 := ⟨RX2, TX2, 8, rfl, uw_X2, by decide, gm 86 (by decide +kernel) rfl⟩
theorem G_X5_104 : FL RX5 104 2 4 := ⟨RX2, TX2, 8, rfl, uw_X2, by decide, gm 90 (by decide +kernel) rfl⟩
theorem G_X5_110 : FL RX5 110 2 2 := ⟨RX2, TX2, 8, rfl, uw_X2, by decide, gm 82 (by decide +kernel) rfl⟩
theorem G_X5_113 : FL RX5 113 2 5 := ⟨RX2, TX2, 8, rfl, uw_X2, by decide, gm 94 (by decide +kernel) rfl⟩
theorem G_X6_9 : FL RX6 9 6 1 := ⟨RX6, TX6, 6, rfl, uw_X6, by decide, gm 133 (by decide +kernel) rfl⟩
theorem G_X6_15 : FL RX6 15 6 2 := ⟨RX6, TX6, 6, rfl, uw_X6, by decide, gm 134 (by decide +kernel) rfl⟩
theorem H_X6_15 : FP RX6 15 6 2 .int := ⟨RX6, TX6, 6, tyX6, rfl, uw_X6, by decide, gm 134 (by decide +kernel) rfl, tyX6_ok, nmX6, rfl, by decide +kernel⟩
theorem G_X6_19 : FL RX6 19 6 3 := ⟨RX6, TX6, 6, rfl, uw_X6, by decide, gm 137 (by decide +kernel) rfl⟩
theorem H_X6_19 : FP RX6 19 6 3 .int := ⟨RX6, TX6, 6, tyX6, rfl, uw_X6, by decide, gm 137 (by decide +kernel) rfl, tyX6_ok, nmX6, rfl, by decide +kernel⟩
theorem G_X6_22 : FL RX6 22 6 4 := ⟨RX6, TX6, 6, rfl, uw_X6, by decide, gm 140 (by decide +kernel) rfl⟩
theorem H_X6_22 : FP RX6 22 6 4 .int := ⟨RX6, TX6, 6, tyX6, rfl, uw_X6, by decide, gm 140 (by decide +kernel) rfl, tyX6_ok, nmX6, rfl, by decide +kernel⟩
theorem G_X6_25 : FL RX6 25 6 5 := ⟨RX6, TX6, 6, rfl, uw_X6, by decide, gm 142 (by decide +kernel) rfl⟩
theorem H_X6_25 : FP RX6 25 6 5 .int := ⟨RX6, TX6, 6, tyX6, rfl, uw_X6, by decide, gm 142 (by decide +kernel) rfl, tyX6_ok, nmX6, rfl, by decide +kernel⟩
theorem G_X6_28 : FL RX6 28 6 0 := ⟨RX6, TX6, 6, rfl, uw_X6, by decide, gm 132 (by decide +kernel) rfl⟩
theorem G_X6_32 : FL RX6 32 2 1 := ⟨RX2, TX2, 8, rfl, uw_X2, by decide, gm 76 (by decide +kernel) rfl⟩
theorem G_X6_36 : FL RX6 36 2 2 := ⟨RX2, TX2, 8, rfl, uw_X2, by decide, gm 80 (by decide +kernel) rfl⟩
theorem G_X6_38 : FL RX6 38 2 3 := ⟨RX2, TX2, 8, rfl, uw_X2, by decide, gm 84 (by decide +kernel) rfl⟩
theorem G_X6_40 : FL RX6 40 2 4 := ⟨RX2, TX2, 8, rfl, uw_X2, by decide, gm 88 (by decide +kernel) rfl⟩
theorem G_X6_42 : FL RX6 42 2 5 := ⟨RX2, TX2, 8, rfl, uw_X2, by decide, gm 92 (by decide +kernel) rfl⟩
theorem G_X6_89 : FL RX6 89 4 0 := ⟨RX4, TX4, 4, rfl, uw_X4, by decide, gm 210 (by decide +kernel) rfl⟩
theorem G_X8_7 : FL RX8 7 8 0 := ⟨RX8, TX8, 14, rfl, uw_X8, by decide, gm 879 (by decide +kernel) rfl⟩
theorem G_X8_13 : FL RX8 13 8 2 := ⟨RX8, TX8, 14, rfl, uw_X8, by decide, gm 881 (by decide +kernel) rfl⟩
theorem G_X8_16 : FL RX8 16 8 4 := ⟨RX8, TX8, 14, rfl, uw_X8, by decide, gm 883 (by decide +kernel) rfl⟩
theorem G_X8_20 : FL RX8 20 8 5 := ⟨RX8, TX8, 14, rfl, uw_X8, by decide, gm 884 (by decide +kernel) rfl⟩
theorem G_X8_23 : FL RX8 23 8 6 := ⟨RX8, TX8, 14, rfl, uw_X8, by decide, gm 885 (by decide +kernel) rfl⟩
theorem G_X8_26 : FL RX8 26 8 8 := ⟨RX8, TX8, 14, rfl, uw_X8, by decide, gm 887 (by decide +kernel) rfl⟩
theorem G_X8_29 : FL RX8 29 8 9 := ⟨RX8, TX8, 14, rfl, uw_X8, by decide, gm 888 (by decide +kernel) rfl⟩
theorem G_X8_32 : FL RX8 32 8 10 := ⟨RX8, TX8, 14, rfl, uw_X8, by decide, gm 889 (by decide +kernel) rfl⟩
theorem G_X8_35 : FL RX8 35 8 11 := ⟨RX8, TX8, 14, rfl, uw_X8, by decide, gm 890 (by decide +kernel) rfl⟩
theorem G_X8_38 : FL RX8 38 8 12 := ⟨RX8, TX8, 14, rfl, uw_X8, by decide, gm 891 (by decide +kernel) rfl⟩
theorem G_X8_41 : FL RX8 41 8 13 := ⟨RX8, TX8, 14, rfl, uw_X8, by decide, gm 892 (by decide +kernel) rfl⟩
theorem G_X8_56 : FL RX8 56 8 3 := ⟨RX8, TX8, 14, rfl, uw_X8, by decide, gm 882 (by decide +kernel) rfl⟩
theorem H_X8_56 : FP RX8 56 8 3 .int := ⟨RX8, TX8, 14, tyX8, rfl, uw_X8, by decide, gm 882 (by decide +kernel) rfl, tyX8_ok, nmX8, rfl, by decide +kernel⟩
theorem G_X8_60 : FL RX8 60 8 7 := ⟨RX8, TX8, 14, rfl, uw_X8, by decide, gm 886 (by decide +kernel) rfl⟩
theorem H_X8_60 : FP RX8 60 8 7 .int := ⟨RX8, TX8, 14, tyX8, rfl, uw_X8, by decide, gm 886 (by decide +kernel) rfl, tyX8_ok, nmX8, rfl, by decide +kernel⟩
theorem G_X8_100 : FL RX8 100 8 1 := ⟨RX8, TX8, 14, rfl, uw_X8, by decide, gm 880 (by decide +kernel) rfl⟩
theorem H_X8_100 : FP RX8 100 8 1 .int := ⟨RX8, TX8, 14, tyX8, rfl, uw_X8, by decide, gm 880 (by decide +kernel) rfl, tyX8_ok, nmX8, rfl, by decide +kernel⟩
theorem ct_X7_214 : Cond.constant RX7 214 (999999) ∈ gtbl := gm 722 (by decide +kernel) rfl
theorem ct_X8_165 : Cond.constant RX8 165 (1000000) ∈ gtbl := gm 1112 (by decide +kernel) rfl
theorem ct_J11_76 : Cond.constant RJ11 76 (56320) ∈ gtbl := gm 386 (by decide +kernel) rfl
theorem ct_J11_110 : Cond.constant RJ11 110 (55232) ∈ gtbl := gm 382 (by decide +kernel) rfl
theorem ct_J2_227 : Cond.constant RJ2 227 (65536) ∈ gtbl := gm 343 (by decide +kernel) rfl
theorem cl_X7_218 : Cond.constantLong RX7 218 (16807) ∈ gtbl := gm 726 (by decide +kernel) rfl
theorem cl_X7_220 : Cond.constantLong RX7 220 (2147483647) ∈ gtbl := gm 727 (by decide +kernel) rfl
theorem cl_X7_246 : Cond.constantLong RX7 246 (-1) ∈ gtbl := gm 770 (by decide +kernel) rfl
theorem cl_X7_314 : Cond.constantLong RX7 314 (3) ∈ gtbl := gm 489 (by decide +kernel) rfl
theorem cl_X7_368 : Cond.constantLong RX7 368 (16) ∈ gtbl := gm 732 (by decide +kernel) rfl
theorem cl_X7_370 : Cond.constantLong RX7 370 (4) ∈ gtbl := gm 733 (by decide +kernel) rfl
theorem cl_X7_372 : Cond.constantLong RX7 372 (256) ∈ gtbl := gm 734 (by decide +kernel) rfl
theorem cl_X7_374 : Cond.constantLong RX7 374 (4096) ∈ gtbl := gm 735 (by decide +kernel) rfl
theorem cl_X7_376 : Cond.constantLong RX7 376 (7) ∈ gtbl := gm 736 (by decide +kernel) rfl
theorem cl_L_119 : Cond.constantLong RL 119 (4294967295) ∈ gtbl := gm 1253 (by decide +kernel) rfl
theorem cl_X8_48 : Cond.constantLong RX8 48 (3) ∈ gtbl := gm 1011 (by decide +kernel) rfl
theorem cl_X8_54 : Cond.constantLong RX8 54 (255) ∈ gtbl := gm 926 (by decide +kernel) rfl
theorem cl_X8_77 : Cond.constantLong RX8 77 (9) ∈ gtbl := gm 964 (by decide +kernel) rfl
theorem cl_X8_106 : Cond.constantLong RX8 106 (5) ∈ gtbl := gm 988 (by decide +kernel) rfl
theorem cl_X8_148 : Cond.constantLong RX8 148 (2) ∈ gtbl := gm 1031 (by decide +kernel) rfl
theorem cl_X8_186 : Cond.constantLong RX8 186 (12) ∈ gtbl := gm 1132 (by decide +kernel) rfl
theorem cl_X8_197 : Cond.constantLong RX8 197 (60) ∈ gtbl := gm 1163 (by decide +kernel) rfl
theorem cl_X8_199 : Cond.constantLong RX8 199 (999999) ∈ gtbl := gm 1164 (by decide +kernel) rfl
theorem cl_X8_201 : Cond.constantLong RX8 201 (16807) ∈ gtbl := gm 1165 (by decide +kernel) rfl
theorem cl_X8_203 : Cond.constantLong RX8 203 (2147483647) ∈ gtbl := gm 1166 (by decide +kernel) rfl
theorem cl_X8_205 : Cond.constantLong RX8 205 (16) ∈ gtbl := gm 1167 (by decide +kernel) rfl
theorem cl_X8_207 : Cond.constantLong RX8 207 (4) ∈ gtbl := gm 1168 (by decide +kernel) rfl
theorem cl_X8_209 : Cond.constantLong RX8 209 (256) ∈ gtbl := gm 1169 (by decide +kernel) rfl
theorem cl_X8_211 : Cond.constantLong RX8 211 (4096) ∈ gtbl := gm 1170 (by decide +kernel) rfl
theorem cl_X8_213 : Cond.constantLong RX8 213 (7) ∈ gtbl := gm 1171 (by decide +kernel) rfl
theorem cl_X8_227 : Cond.constantLong RX8 227 (-1) ∈ gtbl := gm 1198 (by decide +kernel) rfl
theorem cl_X8_237 : Cond.constantLong RX8 237 (24) ∈ gtbl := gm 1214 (by decide +kernel) rfl
theorem cl_X8_242 : Cond.constantLong RX8 242 (6) ∈ gtbl := gm 1223 (by decide +kernel) rfl
theorem cl_X8_248 : Cond.constantLong RX8 248 (10) ∈ gtbl := gm 1228 (by decide +kernel) rfl
theorem ak_X7_265 : Cond.methodLink RX7 265 arraycopyName ∈ gtbl := gm 791 (by decide +kernel) rfl
theorem ak_X2_45 : Cond.methodLink RX2 45 arraycopyName ∈ gtbl := gm 431 (by decide +kernel) rfl
theorem ak_X3_22 : Cond.methodLink RX3 22 arraycopyName ∈ gtbl := gm 428 (by decide +kernel) rfl
theorem ak_X6_43 : Cond.methodLink RX6 43 arraycopyName ∈ gtbl := gm 502 (by decide +kernel) rfl
end
section
theorem a_sub {k : KT} {c0 s0 pc : Nat} {L L' : List (Nat × Value)} {S : List Value} {es : va_W} (ks : List Nat) (hL : lv_pick L ks = L') (h : AW k c0 s0 pc L' S es) : AW k c0 s0 pc L S es := by
  intro p e s m args below meth c C ls H locs hl hP hD hS
  exact h p e s m args below meth c C ls H locs (lv_sub hl ks hL) hP hD hS
def isV (o : Nat) : Prop := shL[o]? = some (.inr (6, [some 4, some (o + 1), none, none, none, none])) ∧ shL[o + 1]? = some (.inl (0, 4, []))
def isSea (o : Nat) : Prop := shL[o]? = some (.inr (3, [some (o + 1), none, none])) ∧ shL[o + 1]? = some (.inl (0, 48, []))
def isS (o : Nat) : Prop := shL[o]? = some (.inr (4, [some (o + 1), none, none, none])) ∧ shL[o + 1]? = some (.inl (1, 24, []))
def isF (o : Nat) : Prop := shL[o]? = some (.inr (2, [some (o + 1), some (o + 3), some (o + 4), some (o + 5), some (o + 6), some (o + 7), none, none])) ∧ shL[o + 1]? = some (.inr (3, [some (o + 2), none, none])) ∧ shL[o + 2]? = some (.inl (0, 48, [])) ∧ shL[o + 3]? = some (.inl (0, 6, [])) ∧ shL[o + 4]? = some (.inl (0, 6, [])) ∧ shL[o + 5]? = some (.inl (0, 6, [])) ∧ shL[o + 6]? = some (.inl (0, 6, [])) ∧ shL[o + 7]? = some (.inl (0, 4, []))
theorem isF_sea {o : Nat} (h : isF o) : isSea (o + 1) := ⟨h.2.1, h.2.2.1⟩
theorem isF_3 : isF 3 := ⟨sh_3, sh_4, sh_5, sh_6, sh_7, sh_8, sh_9, sh_10⟩
theorem isSea_4 : isSea 4 := ⟨sh_4, sh_5⟩
theorem isF_11 : isF 11 := ⟨sh_11, sh_12, sh_13, sh_14, sh_15, sh_16, sh_17, sh_18⟩
theorem isSea_12 : isSea 12 := ⟨sh_12, sh_13⟩
theorem isF_80 : isF 80 := ⟨sh_80, sh_81, sh_82, sh_83, sh_84, sh_85, sh_86, sh_87⟩
theorem isSea_81 : isSea 81 := ⟨sh_81, sh_82⟩
theorem isF_88 : isF 88 := ⟨sh_88, sh_89, sh_90, sh_91, sh_92, sh_93, sh_94, sh_95⟩
theorem isSea_89 : isSea 89 := ⟨sh_89, sh_90⟩
theorem isV_96 : isV 96 := ⟨sh_96, sh_97⟩
theorem isV_98 : isV 98 := ⟨sh_98, sh_99⟩
theorem isV_100 : isV 100 := ⟨sh_100, sh_101⟩
theorem isV_102 : isV 102 := ⟨sh_102, sh_103⟩
theorem isV_104 : isV 104 := ⟨sh_104, sh_105⟩
theorem isV_106 : isV 106 := ⟨sh_106, sh_107⟩
theorem isV_108 : isV 108 := ⟨sh_108, sh_109⟩
theorem isV_24 : isV 24 := ⟨sh_24, sh_25⟩
theorem isV_26 : isV 26 := ⟨sh_26, sh_27⟩
theorem isV_28 : isV 28 := ⟨sh_28, sh_29⟩
theorem isV_30 : isV 30 := ⟨sh_30, sh_31⟩
theorem isV_32 : isV 32 := ⟨sh_32, sh_33⟩
theorem isV_34 : isV 34 := ⟨sh_34, sh_35⟩
theorem isV_36 : isV 36 := ⟨sh_36, sh_37⟩
theorem isV_38 : isV 38 := ⟨sh_38, sh_39⟩
theorem isV_40 : isV 40 := ⟨sh_40, sh_41⟩
theorem isV_42 : isV 42 := ⟨sh_42, sh_43⟩
theorem isV_44 : isV 44 := ⟨sh_44, sh_45⟩
theorem isV_46 : isV 46 := ⟨sh_46, sh_47⟩
theorem isV_48 : isV 48 := ⟨sh_48, sh_49⟩
theorem isV_50 : isV 50 := ⟨sh_50, sh_51⟩
theorem isV_52 : isV 52 := ⟨sh_52, sh_53⟩
theorem isV_54 : isV 54 := ⟨sh_54, sh_55⟩
theorem isV_56 : isV 56 := ⟨sh_56, sh_57⟩
theorem isV_58 : isV 58 := ⟨sh_58, sh_59⟩
theorem isV_60 : isV 60 := ⟨sh_60, sh_61⟩
theorem isV_62 : isV 62 := ⟨sh_62, sh_63⟩
theorem isV_64 : isV 64 := ⟨sh_64, sh_65⟩
theorem isV_66 : isV 66 := ⟨sh_66, sh_67⟩
theorem isV_68 : isV 68 := ⟨sh_68, sh_69⟩
theorem isV_70 : isV 70 := ⟨sh_70, sh_71⟩
theorem isS_110 : isS 110 := ⟨sh_110, sh_111⟩
theorem isS_112 : isS 112 := ⟨sh_112, sh_113⟩
theorem isS_114 : isS 114 := ⟨sh_114, sh_115⟩
theorem isS_116 : isS 116 := ⟨sh_116, sh_117⟩
theorem isV_72 : ∀ i, i < 7 → isV (96 + 2 * i) := by
  intro i hi
  match i, hi with
  | 0, _ => exact isV_96
  | 1, _ => exact isV_98
  | 2, _ => exact isV_100
  | 3, _ => exact isV_102
  | 4, _ => exact isV_104
  | 5, _ => exact isV_106
  | 6, _ => exact isV_108
  | i + 7, hi => exact absurd hi (by omega)
theorem o_72 {i : Int32} (h : vp_in i 7) : isV (96 + 2 * i.toNatClampNeg) := isV_72 _ (Nat.not_le.mp fun q => h (Or.inr q))
theorem rr_72 : ∀ n, n < 7 → ([96, 98, 100, 102, 104, 106, 108] : List Nat)[n]? = some (96 + 2 * n) := by decide
theorem r_72 {i : Int32} (h : vp_in i 7) : ([96, 98, 100, 102, 104, 106, 108] : List Nat)[i.toNatClampNeg]? = some (96 + 2 * i.toNatClampNeg) := rr_72 _ (Nat.not_le.mp fun q => h (Or.inr q))
theorem isV_21 : ∀ i, i < 24 → isV (24 + 2 * i) := by
  intro i hi
  match i, hi with
  | 0, _ => exact isV_24
  | 1, _ => exact isV_26
  | 2, _ => exact isV_28
  | 3, _ => exact isV_30
  | 4, _ => exact isV_32
  | 5, _ => exact isV_34
  | 6, _ => exact isV_36
  | 7, _ => exact isV_38
  | 8, _ => exact isV_40
  | 9, _ => exact isV_42
  | 10, _ => exact isV_44
  | 11, _ => exact isV_46
  | 12, _ => exact isV_48
  | 13, _ => exact isV_50
  | 14, _ => exact isV_52
  | 15, _ => exact isV_54
  | 16, _ => exact isV_56
  | 17, _ => exact isV_58
  | 18, _ => exact isV_60
  | 19, _ => exact isV_62
  | 20, _ => exact isV_64
  | 21, _ => exact isV_66
  | 22, _ => exact isV_68
  | 23, _ => exact isV_70
  | i + 24, hi => exact absurd hi (by omega)
theorem o_21 {i : Int32} (h : vp_in i 24) : isV (24 + 2 * i.toNatClampNeg) := isV_21 _ (Nat.not_le.mp fun q => h (Or.inr q))
theorem rr_21 : ∀ n, n < 24 → ([24, 26, 28, 30, 32, 34, 36, 38, 40, 42, 44, 46, 48, 50, 52, 54, 56, 58, 60, 62, 64, 66, 68, 70] : List Nat)[n]? = some (24 + 2 * n) := by decide
theorem r_21 {i : Int32} (h : vp_in i 24) : ([24, 26, 28, 30, 32, 34, 36, 38, 40, 42, 44, 46, 48, 50, 52, 54, 56, 58, 60, 62, 64, 66, 68, 70] : List Nat)[i.toNatClampNeg]? = some (24 + 2 * i.toNatClampNeg) := rr_21 _ (Nat.not_le.mp fun q => h (Or.inr q))
theorem isF_19 : ∀ i, i < 2 → isF (80 + 8 * i) := by
  intro i hi
  match i, hi with
  | 0, _ => exact isF_80
  | 1, _ => exact isF_88
  | i + 2, hi => exact absurd hi (by omega)
theorem o_19 {i : Int32} (h : vp_in i 2) : isF (80 + 8 * i.toNatClampNeg) := isF_19 _ (Nat.not_le.mp fun q => h (Or.inr q))
theorem rr_19 : ∀ n, n < 2 → ([80, 88] : List Nat)[n]? = some (80 + 8 * n) := by decide
theorem r_19 {i : Int32} (h : vp_in i 2) : ([80, 88] : List Nat)[i.toNatClampNeg]? = some (80 + 8 * i.toNatClampNeg) := rr_19 _ (Nat.not_le.mp fun q => h (Or.inr q))
theorem isS_78 : ∀ i, i < 4 → isS (110 + 2 * i) := by
  intro i hi
  match i, hi with
  | 0, _ => exact isS_110
  | 1, _ => exact isS_112
  | 2, _ => exact isS_114
  | 3, _ => exact isS_116
  | i + 4, hi => exact absurd hi (by omega)
theorem o_78 {i : Int32} (h : vp_in i 4) : isS (110 + 2 * i.toNatClampNeg) := isS_78 _ (Nat.not_le.mp fun q => h (Or.inr q))
theorem rr_78 : ∀ n, n < 4 → ([110, 112, 114, 116] : List Nat)[n]? = some (110 + 2 * n) := by decide
theorem r_78 {i : Int32} (h : vp_in i 4) : ([110, 112, 114, 116] : List Nat)[i.toNatClampNeg]? = some (110 + 2 * i.toNatClampNeg) := rr_78 _ (Nat.not_le.mp fun q => h (Or.inr q))
theorem tI_ne {x c : Int32} {n : Int} (hc : c.toInt = n) (h : ¬ x = c) : x.toInt ≠ n := by
  intro q
  exact h (Int32.toInt_inj.mp (q.trans hc.symm))
theorem st_OVER : Cond.fieldLink RX7 316 "FigureHeads" "OVER" "[I" ∈ gtbl := gm 452 (by decide +kernel) rfl
def stN (i : Nat) : Nat := ([3, 5, 4] : List Nat).getD i 0
def stC (i j : Nat) : Int32 := (stB.getD i []).getD j 0
theorem a_ldcS0 {k : KT} {c0 s0 pc : Nat} {L : List (Nat × Value)} {S : List Value} {es : va_W} (hO : kO k = RX5) (hd : decode (kC k) pc = .ok (.ldc 68, 2)) (h : AW k c0 s0 (pc + 2) L (.ref (gR k.1 3) :: S) es) : AW k c0 s0 pc L S es := by
  intro p e s m args below meth c C ls H locs hl hP hD hS
  exact va_ldcS C.1 C.2.1 (own := RX5) (by rw [← hO]; exact C.2.2.2.2.1) C.2.2.2.2.2.2.2.2.1.2.2.2.2.2.1.1 hd (h p e s m args below meth c C ls H locs hl hP hD hS)
theorem a_ldcS1 {k : KT} {c0 s0 pc : Nat} {L : List (Nat × Value)} {S : List Value} {es : va_W} (hO : kO k = RX5) (hd : decode (kC k) pc = .ok (.ldc 88, 2)) (h : AW k c0 s0 (pc + 2) L (.ref (gR k.1 4) :: S) es) : AW k c0 s0 pc L S es := by
  intro p e s m args below meth c C ls H locs hl hP hD hS
  exact va_ldcS C.1 C.2.1 (own := RX5) (by rw [← hO]; exact C.2.2.2.2.1) C.2.2.2.2.2.2.2.2.1.2.2.2.2.2.1.2.1 hd (h p e s m args below meth c C ls H locs hl hP hD hS)
theorem a_ldcS2 {k : KT} {c0 s0 pc : Nat} {L : List (Nat × Value)} {S : List Value} {es : va_W} (hO : kO k = RX5) (hd : decode (kC k) pc = .ok (.ldc 96, 2)) (h : AW k c0 s0 (pc + 2) L (.ref (gR k.1 5) :: S) es) : AW k c0 s0 pc L S es := by
  intro p e s m args below meth c C ls H locs hl hP hD hS
  exact va_ldcS C.1 C.2.1 (own := RX5) (by rw [← hO]; exact C.2.2.2.2.1) C.2.2.2.2.2.2.2.2.1.2.2.2.2.2.1.2.2 hd (h p e s m args below meth c C ls H locs hl hP hD hS)
theorem fk_coder : Cond.fieldLink RJ0 15 "java/lang/String" "coder" "B" ∈ gtbl := gm 1254 (by decide +kernel) rfl
theorem fk_value : Cond.fieldLink RJ0 9 "java/lang/String" "value" "[B" ∈ gtbl := gm 1255 (by decide +kernel) rfl
theorem fk_comp : Cond.fieldLink RJ0 38 "java/lang/String" "COMPACT_STRINGS" "Z" ∈ gtbl := gm 313 (by decide +kernel) rfl
theorem a_coder {k : KT} {c0 s0 pc : Nat} {L : List (Nat × Value)} {S : List Value} {es : va_W} {i idx : Nat} (hi : i < 3) (hw : Cond.fieldLink (kO k) idx "java/lang/String" "coder" "B" ∈ gtbl) (hd : decode (kC k) pc = .ok (.getfield idx, 3)) (h : AW k c0 s0 (pc + 3) L (.int 0 :: S) es) : AW k c0 s0 pc L (.ref (gR k.1 (3 + i)) :: S) es := by
  intro p e s m args below meth c C ls H locs hl hP hD hS
  exact vk_getf (A := gF k.1) C.1 C.2.1 (C.2.2.2.2.2.2.2.2.1.2.2.2.2.1.1 i hi).2.1 hS C.2.2.2.2.1 (C.2.2.2.2.2.2.1 _ hw) (fun _ h9 => h9) hd (h p e s m args below meth c C ls H locs hl hP hD hS)
theorem a_value {k : KT} {c0 s0 pc : Nat} {L : List (Nat × Value)} {S : List Value} {es : va_W} {i idx : Nat} (hi : i < 3) (hw : Cond.fieldLink (kO k) idx "java/lang/String" "value" "[B" ∈ gtbl) (hd : decode (kC k) pc = .ok (.getfield idx, 3)) (h : AW k c0 s0 (pc + 3) L (.ref (gR k.1 (6 + i)) :: S) es) : AW k c0 s0 pc L (.ref (gR k.1 (3 + i)) :: S) es := by
  intro p e s m args below meth c C ls H locs hl hP hD hS
  exact vk_getf (A := gF k.1) C.1 C.2.1 (C.2.2.2.2.2.2.2.2.1.2.2.2.2.1.1 i hi).2.2.1 hS C.2.2.2.2.1 (C.2.2.2.2.2.2.1 _ hw) (fun _ h9 => h9) hd (h p e s m args below meth c C ls H locs hl hP hD hS)
theorem a_COMP {k : KT} {c0 s0 pc : Nat} {L : List (Nat × Value)} {S : List Value} {es : va_W} {idx : Nat} (hw : Cond.fieldLink (kO k) idx "java/lang/String" "COMPACT_STRINGS" "Z" ∈ gtbl) (hd : decode (kC k) pc = .ok (.getstatic idx, 3)) (h : AW k c0 s0 (pc + 3) L (.int 1 :: S) es) : AW k c0 s0 pc L S es := by
  intro p e s m args below meth c C ls H locs hl hP hD hS
  exact va_gets (A := gF k.1) C.1 C.2.1 C.2.2.2.2.2.2.2.2.1.2.2.2.1 hS C.2.2.2.2.1 (C.2.2.2.2.2.2.1 _ hw) (fun _ h9 => h9) hd (h p e s m args below meth c C ls H locs hl hP hD hS)
theorem a_byt {k : KT} {c0 s0 pc : Nat} {L : List (Nat × Value)} {S : List Value} {es : va_W} {i : Nat} {j : Int32} (hi : i < 3) (hin : vp_in j (stN i)) (hd : decode (kC k) pc = .ok (.baload, 1)) (h : AW k c0 s0 (pc + 1) L (.int (stC i j.toNatClampNeg) :: S) es) : AW k c0 s0 pc L (.int j :: .ref (gR k.1 (6 + i)) :: S) es := by
  intro p e s m args below meth c C ls H locs hl hP hD hS
  exact va_tb (A := gF k.1) C.1 C.2.1 (C.2.2.2.2.2.2.2.2.1.2.2.2.2.1.1 i hi).2.2.2 hS hin rfl hd (h p e s m args below meth c C ls H locs hl hP hD hS)
theorem a_blen {k : KT} {c0 s0 pc : Nat} {L : List (Nat × Value)} {S : List Value} {es : va_W} {i : Nat} (hi : i < 3) (hd : decode (kC k) pc = .ok (.arraylength, 1)) (h : AW k c0 s0 (pc + 1) L (.int (Int32.ofNat (stN i)) :: S) es) : AW k c0 s0 pc L (.ref (gR k.1 (6 + i)) :: S) es := by
  intro p e s m args below meth c C ls H locs hl hP hD hS
  have hT := (C.2.2.2.2.2.2.2.2.1.2.2.2.2.1.1 i hi).2.2.2
  obtain ⟨cell, h1, h2, h3, h4, h5, h6, h7⟩ := hT
  exact W.alen C.1 C.2.1 (by rw [hS.2.1 _ (Array.getElem?_eq_some_iff.mp h1).1 h7]; exact h1) h2 h5 rfl rfl hd (h p e s m args below meth c C ls H locs hl hP hD hS)
theorem c_strI {k : KT} {c0 s0 pc idx n d i : Nat} {M : MT} {L : List (Nat × Value)} {S As rest : List Value} {I : IT} {J : JT} {P : Int32 → IT → JT → Prop} (hi : i < 3) (hM : SemI k.1 d M (.ref (gR k.1 (3 + i)) :: As) I J P) (hF : CFV (kO k) idx M n) (hC : M.1.cls = "java/lang/String") (hn : As.length = n) (hS : S = As.reverse ++ .ref (gR k.1 (3 + i)) :: rest) (hw : (rest.map fun v => v.category).sum ≤ 8) (hR : rOK k.2.1 d M.2.2.1) (hf : c0 ≤ k.2.1.cells ∧ s0 ≤ k.2.1.slots) (hd : decode (kC k) pc = .ok (.invokevirtual idx, 3)) (h : ∀ (r : Int32) (I : IT) (J : JT), P r I J → AW k c0 s0 (pc + 3) L (.int r :: rest) (cW k.1 I J)) : AW k c0 s0 pc L S (cW k.1 I J) := by
  refine AW.call (mc := 0) (ms := 0) (rest := rest) (Post := qI k.1 P) (av := (Value.ref (gR k.1 (3 + i)) :: As).toArray) (fun p e s m args below meth c C ls H locs hl hP hD hSS => ?_) (fun v es' hp => ?_)
  · obtain ⟨hx, hb, hr, hml, hown, hlk, hts, hK, hRo, -, -, hB0⟩ := C
    exact va_runV (As := As) (rest := rest) (b := gR k.1 (3 + i)) (nL := kN k) (Ts := gtbl) ⟨hx, hb, hml, hown, hts⟩ hM ⟨hF.1.B hts hR, hts _ hF.2.1, hts _ hF.2.2⟩ ⟨PreH.blind, by rw [hC]; exact vk_recv (adK := fun i => gR k.1 (3 + i)) hRo.2.2.2.2.1 hi hSS, fun U hU hW => ⟨rfl, PreH.of hP hD hB0 hK hRo hSS hU hW⟩⟩ rfl hn hl.1 hS (by show 2 * 0 + _ ≤ 8; omega) hd hf
  · obtain ⟨r, I1, J1, e1, e2, hp⟩ := hp
    rw [e1, e2]
    exact h r I1 J1 hp
theorem c_strZ {k : KT} {c0 s0 pc idx n d i : Nat} {M : MT} {L : List (Nat × Value)} {S As rest : List Value} {I : IT} {J : JT} {P : Bool → IT → JT → Prop} (hi : i < 3) (hM : SemZ k.1 d M (.ref (gR k.1 (3 + i)) :: As) I J P) (hF : CFV (kO k) idx M n) (hC : M.1.cls = "java/lang/String") (hn : As.length = n) (hS : S = As.reverse ++ .ref (gR k.1 (3 + i)) :: rest) (hw : (rest.map fun v => v.category).sum ≤ 8) (hR : rOK k.2.1 d M.2.2.1) (hf : c0 ≤ k.2.1.cells ∧ s0 ≤ k.2.1.slots) (hd : decode (kC k) pc = .ok (.invokevirtual idx, 3)) (h : ∀ (r : Bool) (I : IT) (J : JT), P r I J → AW k c0 s0 (pc + 3) L (.int (bI r) :: rest) (cW k.1 I J)) : AW k c0 s0 pc L S (cW k.1 I J) := by
  refine AW.call (mc := 0) (ms := 0) (rest := rest) (Post := qZ k.1 P) (av := (Value.ref (gR k.1 (3 + i)) :: As).toArray) (fun p e s m args below meth c C ls H locs hl hP hD hSS => ?_) (fun v es' hp => ?_)
  · obtain ⟨hx, hb, hr, hml, hown, hlk, hts, hK, hRo, -, -, hB0⟩ := C
    exact va_runV (As := As) (rest := rest) (b := gR k.1 (3 + i)) (nL := kN k) (Ts := gtbl) ⟨hx, hb, hml, hown, hts⟩ hM ⟨hF.1.B hts hR, hts _ hF.2.1, hts _ hF.2.2⟩ ⟨PreH.blind, by rw [hC]; exact vk_recv (adK := fun i => gR k.1 (3 + i)) hRo.2.2.2.2.1 hi hSS, fun U hU hW => ⟨rfl, PreH.of hP hD hB0 hK hRo hSS hU hW⟩⟩ rfl hn hl.1 hS (by show 2 * 0 + _ ≤ 8; omega) hd hf
  · obtain ⟨r, I1, J1, e1, e2, hp⟩ := hp
    rw [e1, e2]
    exact h r I1 J1 hp
abbrev M_J2_indexOf_4cfef : MT := (yJ2_indexOf_4cfef, cJ2_indexOf_4cfef, 4, (some .int), RJ2)
theorem K_J0_640 : CFS RJ0 640 M_J2_indexOf_4cfef 4 := ⟨⟨gm 338 (by decide +kernel) rfl, gm 340 (by decide +kernel) rfl, gm 13 (by decide +kernel) rfl, by decide +kernel, by decide +kernel⟩, gm 339 (by decide +kernel) rfl⟩
end
