section
-- ===== PART A: goes FIRST, ahead of the names: the tables' words, and 'selects' of the private methods out of them =====
/-- a private method of a class that the tables say can be made, by its rows of tables_1 -/
def lw_okq (q : MethodName × Nat) : Prop := (q.1.cls ≠ "java/lang/invoke/MethodHandle" ∧ q.1.cls ≠ "java/lang/invoke/VarHandle") ∧ Cond.instantiable q.1.cls q.2 ∈ tables_1 ∧ Cond.privateMethod q.1 ∈ tables_1 ∧ Cond.instanceMethod q.1 ∈ tables_1
theorem lw_p0 : lw_okq (⟨"RaceHouse", "isBox", "(I)Z"⟩, 12) := ⟨⟨by decide +kernel, by decide +kernel⟩, List.mem_of_getElem? (i := 21) (by decide +kernel), List.mem_of_getElem? (i := 360) (by decide +kernel), List.mem_of_getElem? (i := 361) (by decide +kernel)⟩
theorem lw_p1 : lw_okq (⟨"RaceHouse", "failed", "(I)I"⟩, 12) := ⟨⟨by decide +kernel, by decide +kernel⟩, List.mem_of_getElem? (i := 21) (by decide +kernel), List.mem_of_getElem? (i := 370) (by decide +kernel), List.mem_of_getElem? (i := 371) (by decide +kernel)⟩
theorem lw_p2 : lw_okq (⟨"RaceHouse", "failure", "()I"⟩, 12) := ⟨⟨by decide +kernel, by decide +kernel⟩, List.mem_of_getElem? (i := 21) (by decide +kernel), List.mem_of_getElem? (i := 374) (by decide +kernel), List.mem_of_getElem? (i := 375) (by decide +kernel)⟩
theorem lw_p3 : lw_okq (⟨"RaceHouse", "newRow", "(II)LRaceHouse$Row;"⟩, 12) := ⟨⟨by decide +kernel, by decide +kernel⟩, List.mem_of_getElem? (i := 21) (by decide +kernel), List.mem_of_getElem? (i := 378) (by decide +kernel), List.mem_of_getElem? (i := 379) (by decide +kernel)⟩
theorem lw_p4 : lw_okq (⟨"RaceHouse", "rowWithItem", "(LRaceHouse$Thing;II)LRaceHouse$Row;"⟩, 12) := ⟨⟨by decide +kernel, by decide +kernel⟩, List.mem_of_getElem? (i := 21) (by decide +kernel), List.mem_of_getElem? (i := 415) (by decide +kernel), List.mem_of_getElem? (i := 416) (by decide +kernel)⟩
theorem lw_p5 : lw_okq (⟨"RaceHouse", "newGrid", "(I)LRaceHouse$Rack;"⟩, 12) := ⟨⟨by decide +kernel, by decide +kernel⟩, List.mem_of_getElem? (i := 21) (by decide +kernel), List.mem_of_getElem? (i := 491) (by decide +kernel), List.mem_of_getElem? (i := 492) (by decide +kernel)⟩
theorem lw_p6 : lw_okq (⟨"RaceHouse", "rowOfGrid", "(LRaceHouse$Thing;II)LRaceHouse$Row;"⟩, 12) := ⟨⟨by decide +kernel, by decide +kernel⟩, List.mem_of_getElem? (i := 21) (by decide +kernel), List.mem_of_getElem? (i := 516) (by decide +kernel), List.mem_of_getElem? (i := 517) (by decide +kernel)⟩
theorem lw_p7 : lw_okq (⟨"RaceHouse", "rackWithSpot", "(LRaceHouse$Thing;II)LRaceHouse$Rack;"⟩, 12) := ⟨⟨by decide +kernel, by decide +kernel⟩, List.mem_of_getElem? (i := 21) (by decide +kernel), List.mem_of_getElem? (i := 520) (by decide +kernel), List.mem_of_getElem? (i := 521) (by decide +kernel)⟩
theorem lw_p8 : lw_okq (⟨"RaceHouse", "storeIn", "(LRaceHouse$Rack;ILRaceHouse$Thing;)I"⟩, 12) := ⟨⟨by decide +kernel, by decide +kernel⟩, List.mem_of_getElem? (i := 21) (by decide +kernel), List.mem_of_getElem? (i := 536) (by decide +kernel), List.mem_of_getElem? (i := 537) (by decide +kernel)⟩
theorem lw_p9 : lw_okq (⟨"RaceHouse", "hasRoomForCopy", "(LRaceHouse$Thing;Z)Z"⟩, 12) := ⟨⟨by decide +kernel, by decide +kernel⟩, List.mem_of_getElem? (i := 21) (by decide +kernel), List.mem_of_getElem? (i := 586) (by decide +kernel), List.mem_of_getElem? (i := 587) (by decide +kernel)⟩
theorem lw_p10 : lw_okq (⟨"RaceHouse", "copyOf", "(LRaceHouse$Thing;Z)LRaceHouse$Thing;"⟩, 12) := ⟨⟨by decide +kernel, by decide +kernel⟩, List.mem_of_getElem? (i := 21) (by decide +kernel), List.mem_of_getElem? (i := 594) (by decide +kernel), List.mem_of_getElem? (i := 595) (by decide +kernel)⟩
theorem lw_p11 : lw_okq (⟨"RaceHouse", "copyOfRow", "(LRaceHouse$Row;)LRaceHouse$Row;"⟩, 12) := ⟨⟨by decide +kernel, by decide +kernel⟩, List.mem_of_getElem? (i := 21) (by decide +kernel), List.mem_of_getElem? (i := 598) (by decide +kernel), List.mem_of_getElem? (i := 599) (by decide +kernel)⟩
theorem lw_p12 : lw_okq (⟨"RaceHouse", "copyOfMember", "(LRaceHouse$Member;)LRaceHouse$Member;"⟩, 12) := ⟨⟨by decide +kernel, by decide +kernel⟩, List.mem_of_getElem? (i := 21) (by decide +kernel), List.mem_of_getElem? (i := 605) (by decide +kernel), List.mem_of_getElem? (i := 606) (by decide +kernel)⟩
theorem lw_p13 : lw_okq (⟨"RaceHouse", "newMember", "(I)LRaceHouse$Member;"⟩, 12) := ⟨⟨by decide +kernel, by decide +kernel⟩, List.mem_of_getElem? (i := 21) (by decide +kernel), List.mem_of_getElem? (i := 609) (by decide +kernel), List.mem_of_getElem? (i := 610) (by decide +kernel)⟩
theorem lw_p14 : lw_okq (⟨"RaceHouse$Member", "load", "()I"⟩, 8) := ⟨⟨by decide +kernel, by decide +kernel⟩, List.mem_of_getElem? (i := 612) (by decide +kernel), List.mem_of_getElem? (i := 618) (by decide +kernel), List.mem_of_getElem? (i := 619) (by decide +kernel)⟩
theorem lw_p15 : lw_okq (⟨"RaceHouse$Member", "glance", "()I"⟩, 8) := ⟨⟨by decide +kernel, by decide +kernel⟩, List.mem_of_getElem? (i := 612) (by decide +kernel), List.mem_of_getElem? (i := 622) (by decide +kernel), List.mem_of_getElem? (i := 623) (by decide +kernel)⟩
def lw_privs_1 : List (MethodName × Nat) := [(⟨"RaceHouse", "isBox", "(I)Z"⟩, 12), (⟨"RaceHouse", "failed", "(I)I"⟩, 12), (⟨"RaceHouse", "failure", "()I"⟩, 12), (⟨"RaceHouse", "newRow", "(II)LRaceHouse$Row;"⟩, 12), (⟨"RaceHouse", "rowWithItem", "(LRaceHouse$Thing;II)LRaceHouse$Row;"⟩, 12), (⟨"RaceHouse", "newGrid", "(I)LRaceHouse$Rack;"⟩, 12), (⟨"RaceHouse", "rowOfGrid", "(LRaceHouse$Thing;II)LRaceHouse$Row;"⟩, 12), (⟨"RaceHouse", "rackWithSpot", "(LRaceHouse$Thing;II)LRaceHouse$Rack;"⟩, 12), (⟨"RaceHouse", "storeIn", "(LRaceHouse$Rack;ILRaceHouse$Thing;)I"⟩, 12), (⟨"RaceHouse", "hasRoomForCopy", "(LRaceHouse$Thing;Z)Z"⟩, 12), (⟨"RaceHouse", "copyOf", "(LRaceHouse$Thing;Z)LRaceHouse$Thing;"⟩, 12), (⟨"RaceHouse", "copyOfRow", "(LRaceHouse$Row;)LRaceHouse$Row;"⟩, 12), (⟨"RaceHouse", "copyOfMember", "(LRaceHouse$Member;)LRaceHouse$Member;"⟩, 12), (⟨"RaceHouse", "newMember", "(I)LRaceHouse$Member;"⟩, 12), (⟨"RaceHouse$Member", "load", "()I"⟩, 8), (⟨"RaceHouse$Member", "glance", "()I"⟩, 8)]
theorem lw_r1 : ∀ q ∈ lw_privs_1, lw_okq q := List.forall_mem_cons.mpr ⟨lw_p0, List.forall_mem_cons.mpr ⟨lw_p1, List.forall_mem_cons.mpr ⟨lw_p2, List.forall_mem_cons.mpr ⟨lw_p3, List.forall_mem_cons.mpr ⟨lw_p4, List.forall_mem_cons.mpr ⟨lw_p5, List.forall_mem_cons.mpr ⟨lw_p6, List.forall_mem_cons.mpr ⟨lw_p7, List.forall_mem_cons.mpr ⟨lw_p8, List.forall_mem_cons.mpr ⟨lw_p9, List.forall_mem_cons.mpr ⟨lw_p10, List.forall_mem_cons.mpr ⟨lw_p11, List.forall_mem_cons.mpr ⟨lw_p12, List.forall_mem_cons.mpr ⟨lw_p13, List.forall_mem_cons.mpr ⟨lw_p14, List.forall_mem_cons.mpr ⟨lw_p15, fun _ h => absurd h List.not_mem_nil⟩⟩⟩⟩⟩⟩⟩⟩⟩⟩⟩⟩⟩⟩⟩⟩
theorem lw_p16 : lw_okq (⟨"RaceHouse$Member", "reach", "()I"⟩, 8) := ⟨⟨by decide +kernel, by decide +kernel⟩, List.mem_of_getElem? (i := 612) (by decide +kernel), List.mem_of_getElem? (i := 626) (by decide +kernel), List.mem_of_getElem? (i := 627) (by decide +kernel)⟩
theorem lw_p17 : lw_okq (⟨"RaceHouse", "copyOfRack", "(LRaceHouse$Rack;Z)LRaceHouse$Rack;"⟩, 12) := ⟨⟨by decide +kernel, by decide +kernel⟩, List.mem_of_getElem? (i := 21) (by decide +kernel), List.mem_of_getElem? (i := 657) (by decide +kernel), List.mem_of_getElem? (i := 658) (by decide +kernel)⟩
theorem lw_p18 : lw_okq (⟨"RaceHouse", "newPen", "(II)LRaceHouse$Rack;"⟩, 12) := ⟨⟨by decide +kernel, by decide +kernel⟩, List.mem_of_getElem? (i := 21) (by decide +kernel), List.mem_of_getElem? (i := 661) (by decide +kernel), List.mem_of_getElem? (i := 662) (by decide +kernel)⟩
theorem lw_p19 : lw_okq (⟨"RaceHouse", "shiftItems", "(LRaceHouse$Row;ILRaceHouse$Row;II)I"⟩, 12) := ⟨⟨by decide +kernel, by decide +kernel⟩, List.mem_of_getElem? (i := 21) (by decide +kernel), List.mem_of_getElem? (i := 669) (by decide +kernel), List.mem_of_getElem? (i := 670) (by decide +kernel)⟩
theorem lw_p20 : lw_okq (⟨"RaceHouse", "shiftSpots", "(LRaceHouse$Rack;ILRaceHouse$Rack;II)I"⟩, 12) := ⟨⟨by decide +kernel, by decide +kernel⟩, List.mem_of_getElem? (i := 21) (by decide +kernel), List.mem_of_getElem? (i := 676) (by decide +kernel), List.mem_of_getElem? (i := 677) (by decide +kernel)⟩
theorem lw_p21 : lw_okq (⟨"RaceHouse", "answerOf", "(LRaceHouse$Thing;I)J"⟩, 12) := ⟨⟨by decide +kernel, by decide +kernel⟩, List.mem_of_getElem? (i := 21) (by decide +kernel), List.mem_of_getElem? (i := 693) (by decide +kernel), List.mem_of_getElem? (i := 694) (by decide +kernel)⟩
theorem lw_p22 : lw_okq (⟨"RaceHouse", "memberOf", "(LRaceHouse$Thing;I)LRaceHouse$Member;"⟩, 12) := ⟨⟨by decide +kernel, by decide +kernel⟩, List.mem_of_getElem? (i := 21) (by decide +kernel), List.mem_of_getElem? (i := 697) (by decide +kernel), List.mem_of_getElem? (i := 698) (by decide +kernel)⟩
theorem lw_p23 : lw_okq (⟨"RaceHouse$Member", "duty", "()I"⟩, 8) := ⟨⟨by decide +kernel, by decide +kernel⟩, List.mem_of_getElem? (i := 612) (by decide +kernel), List.mem_of_getElem? (i := 709) (by decide +kernel), List.mem_of_getElem? (i := 710) (by decide +kernel)⟩
theorem lw_p24 : lw_okq (⟨"RaceHouse", "lost", "(I)J"⟩, 12) := ⟨⟨by decide +kernel, by decide +kernel⟩, List.mem_of_getElem? (i := 21) (by decide +kernel), List.mem_of_getElem? (i := 713) (by decide +kernel), List.mem_of_getElem? (i := 714) (by decide +kernel)⟩
theorem lw_p25 : lw_okq (⟨"RaceHouse", "entrantIn", "(I)LRaceHouse$Member;"⟩, 12) := ⟨⟨by decide +kernel, by decide +kernel⟩, List.mem_of_getElem? (i := 21) (by decide +kernel), List.mem_of_getElem? (i := 726) (by decide +kernel), List.mem_of_getElem? (i := 727) (by decide +kernel)⟩
theorem lw_p26 : lw_okq (⟨"RaceHouse", "timesFraction", "(III)J"⟩, 12) := ⟨⟨by decide +kernel, by decide +kernel⟩, List.mem_of_getElem? (i := 21) (by decide +kernel), List.mem_of_getElem? (i := 779) (by decide +kernel), List.mem_of_getElem? (i := 780) (by decide +kernel)⟩
theorem lw_p27 : lw_okq (⟨"RaceHouse", "realRow", "(LRaceHouse$Thing;)LRaceHouse$Row;"⟩, 12) := ⟨⟨by decide +kernel, by decide +kernel⟩, List.mem_of_getElem? (i := 21) (by decide +kernel), List.mem_of_getElem? (i := 788) (by decide +kernel), List.mem_of_getElem? (i := 789) (by decide +kernel)⟩
theorem lw_p28 : lw_okq (⟨"RaceHouse$Plan", "passBlanks", "()V"⟩, 11) := ⟨⟨by decide +kernel, by decide +kernel⟩, List.mem_of_getElem? (i := 33) (by decide +kernel), List.mem_of_getElem? (i := 863) (by decide +kernel), List.mem_of_getElem? (i := 864) (by decide +kernel)⟩
theorem lw_p29 : lw_okq (⟨"RaceHouse$Plan", "understandPart", "(C)Z"⟩, 11) := ⟨⟨by decide +kernel, by decide +kernel⟩, List.mem_of_getElem? (i := 33) (by decide +kernel), List.mem_of_getElem? (i := 867) (by decide +kernel), List.mem_of_getElem? (i := 868) (by decide +kernel)⟩
theorem lw_p30 : lw_okq (⟨"RaceHouse$Plan", "begin", "(C)Z"⟩, 11) := ⟨⟨by decide +kernel, by decide +kernel⟩, List.mem_of_getElem? (i := 33) (by decide +kernel), List.mem_of_getElem? (i := 871) (by decide +kernel), List.mem_of_getElem? (i := 872) (by decide +kernel)⟩
theorem lw_p31 : lw_okq (⟨"RaceHouse$Plan", "digit", "(I[I)Z"⟩, 11) := ⟨⟨by decide +kernel, by decide +kernel⟩, List.mem_of_getElem? (i := 33) (by decide +kernel), List.mem_of_getElem? (i := 875) (by decide +kernel), List.mem_of_getElem? (i := 876) (by decide +kernel)⟩
def lw_privs_2 : List (MethodName × Nat) := [(⟨"RaceHouse$Member", "reach", "()I"⟩, 8), (⟨"RaceHouse", "copyOfRack", "(LRaceHouse$Rack;Z)LRaceHouse$Rack;"⟩, 12), (⟨"RaceHouse", "newPen", "(II)LRaceHouse$Rack;"⟩, 12), (⟨"RaceHouse", "shiftItems", "(LRaceHouse$Row;ILRaceHouse$Row;II)I"⟩, 12), (⟨"RaceHouse", "shiftSpots", "(LRaceHouse$Rack;ILRaceHouse$Rack;II)I"⟩, 12), (⟨"RaceHouse", "answerOf", "(LRaceHouse$Thing;I)J"⟩, 12), (⟨"RaceHouse", "memberOf", "(LRaceHouse$Thing;I)LRaceHouse$Member;"⟩, 12), (⟨"RaceHouse$Member", "duty", "()I"⟩, 8), (⟨"RaceHouse", "lost", "(I)J"⟩, 12), (⟨"RaceHouse", "entrantIn", "(I)LRaceHouse$Member;"⟩, 12), (⟨"RaceHouse", "timesFraction", "(III)J"⟩, 12), (⟨"RaceHouse", "realRow", "(LRaceHouse$Thing;)LRaceHouse$Row;"⟩, 12), (⟨"RaceHouse$Plan", "passBlanks", "()V"⟩, 11), (⟨"RaceHouse$Plan", "understandPart", "(C)Z"⟩, 11), (⟨"RaceHouse$Plan", "begin", "(C)Z"⟩, 11), (⟨"RaceHouse$Plan", "digit", "(I[I)Z"⟩, 11)]
theorem lw_r2 : ∀ q ∈ lw_privs_2, lw_okq q := List.forall_mem_cons.mpr ⟨lw_p16, List.forall_mem_cons.mpr ⟨lw_p17, List.forall_mem_cons.mpr ⟨lw_p18, List.forall_mem_cons.mpr ⟨lw_p19, List.forall_mem_cons.mpr ⟨lw_p20, List.forall_mem_cons.mpr ⟨lw_p21, List.forall_mem_cons.mpr ⟨lw_p22, List.forall_mem_cons.mpr ⟨lw_p23, List.forall_mem_cons.mpr ⟨lw_p24, List.forall_mem_cons.mpr ⟨lw_p25, List.forall_mem_cons.mpr ⟨lw_p26, List.forall_mem_cons.mpr ⟨lw_p27, List.forall_mem_cons.mpr ⟨lw_p28, List.forall_mem_cons.mpr ⟨lw_p29, List.forall_mem_cons.mpr ⟨lw_p30, List.forall_mem_cons.mpr ⟨lw_p31, fun _ h => absurd h List.not_mem_nil⟩⟩⟩⟩⟩⟩⟩⟩⟩⟩⟩⟩⟩⟩⟩⟩
theorem lw_p32 : lw_okq (⟨"RaceHouse$Plan", "isDigit", "(I)Z"⟩, 11) := ⟨⟨by decide +kernel, by decide +kernel⟩, List.mem_of_getElem? (i := 33) (by decide +kernel), List.mem_of_getElem? (i := 879) (by decide +kernel), List.mem_of_getElem? (i := 880) (by decide +kernel)⟩
theorem lw_p33 : lw_okq (⟨"RaceHouse$Plan", "number", "(ZI)Z"⟩, 11) := ⟨⟨by decide +kernel, by decide +kernel⟩, List.mem_of_getElem? (i := 33) (by decide +kernel), List.mem_of_getElem? (i := 883) (by decide +kernel), List.mem_of_getElem? (i := 884) (by decide +kernel)⟩
theorem lw_p34 : lw_okq (⟨"RaceHouse$Plan", "opened", "()Z"⟩, 11) := ⟨⟨by decide +kernel, by decide +kernel⟩, List.mem_of_getElem? (i := 33) (by decide +kernel), List.mem_of_getElem? (i := 887) (by decide +kernel), List.mem_of_getElem? (i := 888) (by decide +kernel)⟩
theorem lw_p35 : lw_okq (⟨"RaceHouse$Plan", "closed", "()Z"⟩, 11) := ⟨⟨by decide +kernel, by decide +kernel⟩, List.mem_of_getElem? (i := 33) (by decide +kernel), List.mem_of_getElem? (i := 891) (by decide +kernel), List.mem_of_getElem? (i := 892) (by decide +kernel)⟩
theorem lw_p36 : lw_okq (⟨"RaceHouse$Acts", "prepare", "()V"⟩, 15) := ⟨⟨by decide +kernel, by decide +kernel⟩, List.mem_of_getElem? (i := 31) (by decide +kernel), List.mem_of_getElem? (i := 899) (by decide +kernel), List.mem_of_getElem? (i := 900) (by decide +kernel)⟩
theorem lw_p37 : lw_okq (⟨"RaceHouse$Acts", "closeBlock", "()V"⟩, 15) := ⟨⟨by decide +kernel, by decide +kernel⟩, List.mem_of_getElem? (i := 31) (by decide +kernel), List.mem_of_getElem? (i := 906) (by decide +kernel), List.mem_of_getElem? (i := 907) (by decide +kernel)⟩
theorem lw_p38 : lw_okq (⟨"RaceHouse$Acts", "enter", "(II)V"⟩, 15) := ⟨⟨by decide +kernel, by decide +kernel⟩, List.mem_of_getElem? (i := 31) (by decide +kernel), List.mem_of_getElem? (i := 910) (by decide +kernel), List.mem_of_getElem? (i := 911) (by decide +kernel)⟩
theorem lw_p39 : lw_okq (⟨"RaceHouse$Acts", "goBehindCatches", "(I)V"⟩, 15) := ⟨⟨by decide +kernel, by decide +kernel⟩, List.mem_of_getElem? (i := 31) (by decide +kernel), List.mem_of_getElem? (i := 914) (by decide +kernel), List.mem_of_getElem? (i := 915) (by decide +kernel)⟩
theorem lw_p40 : lw_okq (⟨"RaceHouse$Acts", "doStep", "()V"⟩, 15) := ⟨⟨by decide +kernel, by decide +kernel⟩, List.mem_of_getElem? (i := 31) (by decide +kernel), List.mem_of_getElem? (i := 918) (by decide +kernel), List.mem_of_getElem? (i := 919) (by decide +kernel)⟩
theorem lw_p41 : lw_okq (⟨"RaceHouse$Acts", "lend", "(I)V"⟩, 15) := ⟨⟨by decide +kernel, by decide +kernel⟩, List.mem_of_getElem? (i := 31) (by decide +kernel), List.mem_of_getElem? (i := 922) (by decide +kernel), List.mem_of_getElem? (i := 923) (by decide +kernel)⟩
theorem lw_p42 : lw_okq (⟨"RaceHouse$Acts", "giveBack", "(I)V"⟩, 15) := ⟨⟨by decide +kernel, by decide +kernel⟩, List.mem_of_getElem? (i := 31) (by decide +kernel), List.mem_of_getElem? (i := 926) (by decide +kernel), List.mem_of_getElem? (i := 927) (by decide +kernel)⟩
theorem lw_p43 : lw_okq (⟨"RaceHouse$Acts", "divide", "(II)V"⟩, 15) := ⟨⟨by decide +kernel, by decide +kernel⟩, List.mem_of_getElem? (i := 31) (by decide +kernel), List.mem_of_getElem? (i := 930) (by decide +kernel), List.mem_of_getElem? (i := 931) (by decide +kernel)⟩
theorem lw_p44 : lw_okq (⟨"RaceHouse$Acts", "lookUp", "(II)V"⟩, 15) := ⟨⟨by decide +kernel, by decide +kernel⟩, List.mem_of_getElem? (i := 31) (by decide +kernel), List.mem_of_getElem? (i := 934) (by decide +kernel), List.mem_of_getElem? (i := 935) (by decide +kernel)⟩
theorem lw_p45 : lw_okq (⟨"RaceHouse$Acts", "print", "(I)V"⟩, 15) := ⟨⟨by decide +kernel, by decide +kernel⟩, List.mem_of_getElem? (i := 31) (by decide +kernel), List.mem_of_getElem? (i := 939) (by decide +kernel), List.mem_of_getElem? (i := 940) (by decide +kernel)⟩
theorem lw_p46 : lw_okq (⟨"RaceHouse$Acts", "wake", "(I)V"⟩, 15) := ⟨⟨by decide +kernel, by decide +kernel⟩, List.mem_of_getElem? (i := 31) (by decide +kernel), List.mem_of_getElem? (i := 943) (by decide +kernel), List.mem_of_getElem? (i := 944) (by decide +kernel)⟩
theorem lw_p47 : lw_okq (⟨"RaceHouse$Acts", "beginBlock", "(I)V"⟩, 15) := ⟨⟨by decide +kernel, by decide +kernel⟩, List.mem_of_getElem? (i := 31) (by decide +kernel), List.mem_of_getElem? (i := 947) (by decide +kernel), List.mem_of_getElem? (i := 948) (by decide +kernel)⟩
def lw_privs_3 : List (MethodName × Nat) := [(⟨"RaceHouse$Plan", "isDigit", "(I)Z"⟩, 11), (⟨"RaceHouse$Plan", "number", "(ZI)Z"⟩, 11), (⟨"RaceHouse$Plan", "opened", "()Z"⟩, 11), (⟨"RaceHouse$Plan", "closed", "()Z"⟩, 11), (⟨"RaceHouse$Acts", "prepare", "()V"⟩, 15), (⟨"RaceHouse$Acts", "closeBlock", "()V"⟩, 15), (⟨"RaceHouse$Acts", "enter", "(II)V"⟩, 15), (⟨"RaceHouse$Acts", "goBehindCatches", "(I)V"⟩, 15), (⟨"RaceHouse$Acts", "doStep", "()V"⟩, 15), (⟨"RaceHouse$Acts", "lend", "(I)V"⟩, 15), (⟨"RaceHouse$Acts", "giveBack", "(I)V"⟩, 15), (⟨"RaceHouse$Acts", "divide", "(II)V"⟩, 15), (⟨"RaceHouse$Acts", "lookUp", "(II)V"⟩, 15), (⟨"RaceHouse$Acts", "print", "(I)V"⟩, 15), (⟨"RaceHouse$Acts", "wake", "(I)V"⟩, 15), (⟨"RaceHouse$Acts", "beginBlock", "(I)V"⟩, 15)]
theorem lw_r3 : ∀ q ∈ lw_privs_3, lw_okq q := List.forall_mem_cons.mpr ⟨lw_p32, List.forall_mem_cons.mpr ⟨lw_p33, List.forall_mem_cons.mpr ⟨lw_p34, List.forall_mem_cons.mpr ⟨lw_p35, List.forall_mem_cons.mpr ⟨lw_p36, List.forall_mem_cons.mpr ⟨lw_p37, List.forall_mem_cons.mpr ⟨lw_p38, List.forall_mem_cons.mpr ⟨lw_p39, List.forall_mem_cons.mpr ⟨lw_p40, List.forall_mem_cons.mpr ⟨lw_p41, List.forall_mem_cons.mpr ⟨lw_p42, List.forall_mem_cons.mpr ⟨lw_p43, List.forall_mem_cons.mpr ⟨lw_p44, List.forall_mem_cons.mpr ⟨lw_p45, List.forall_mem_cons.mpr ⟨lw_p46, List.forall_mem_cons.mpr ⟨lw_p47, fun _ h => absurd h List.not_mem_nil⟩⟩⟩⟩⟩⟩⟩⟩⟩⟩⟩⟩⟩⟩⟩⟩
theorem lw_p48 : lw_okq (⟨"RaceHouse$Acts", "unwind", "()V"⟩, 15) := ⟨⟨by decide +kernel, by decide +kernel⟩, List.mem_of_getElem? (i := 31) (by decide +kernel), List.mem_of_getElem? (i := 952) (by decide +kernel), List.mem_of_getElem? (i := 953) (by decide +kernel)⟩
theorem lw_p49 : lw_okq (⟨"RaceHouse$Acts", "caught", "(I)Z"⟩, 15) := ⟨⟨by decide +kernel, by decide +kernel⟩, List.mem_of_getElem? (i := 31) (by decide +kernel), List.mem_of_getElem? (i := 959) (by decide +kernel), List.mem_of_getElem? (i := 960) (by decide +kernel)⟩
theorem lw_p50 : lw_okq (⟨"RaceHouse$Acts", "finish", "()V"⟩, 15) := ⟨⟨by decide +kernel, by decide +kernel⟩, List.mem_of_getElem? (i := 31) (by decide +kernel), List.mem_of_getElem? (i := 963) (by decide +kernel), List.mem_of_getElem? (i := 964) (by decide +kernel)⟩
theorem lw_p51 : lw_okq (⟨"RaceHouse$Clocks", "latestLine", "(I)I"⟩, 19) := ⟨⟨by decide +kernel, by decide +kernel⟩, List.mem_of_getElem? (i := 136) (by decide +kernel), List.mem_of_getElem? (i := 997) (by decide +kernel), List.mem_of_getElem? (i := 998) (by decide +kernel)⟩
theorem lw_p52 : lw_okq (⟨"RaceHouse$Clocks", "cutIntoPasses", "(I)I"⟩, 19) := ⟨⟨by decide +kernel, by decide +kernel⟩, List.mem_of_getElem? (i := 136) (by decide +kernel), List.mem_of_getElem? (i := 1065) (by decide +kernel), List.mem_of_getElem? (i := 1066) (by decide +kernel)⟩
theorem lw_p53 : lw_okq (⟨"RaceHouse$Clocks", "chosenOf", "(II)I"⟩, 19) := ⟨⟨by decide +kernel, by decide +kernel⟩, List.mem_of_getElem? (i := 136) (by decide +kernel), List.mem_of_getElem? (i := 1069) (by decide +kernel), List.mem_of_getElem? (i := 1070) (by decide +kernel)⟩
theorem lw_p54 : lw_okq (⟨"RaceHouse$Fit", "mostBehind", "(IJ)I"⟩, 9) := ⟨⟨by decide +kernel, by decide +kernel⟩, List.mem_of_getElem? (i := 214) (by decide +kernel), List.mem_of_getElem? (i := 1098) (by decide +kernel), List.mem_of_getElem? (i := 1099) (by decide +kernel)⟩
theorem lw_p55 : lw_okq (⟨"RaceHouse$Fit", "choose", "()V"⟩, 9) := ⟨⟨by decide +kernel, by decide +kernel⟩, List.mem_of_getElem? (i := 214) (by decide +kernel), List.mem_of_getElem? (i := 1103) (by decide +kernel), List.mem_of_getElem? (i := 1104) (by decide +kernel)⟩
theorem lw_p56 : lw_okq (⟨"RaceHouse", "isPlace", "(I)Z"⟩, 12) := ⟨⟨by decide +kernel, by decide +kernel⟩, List.mem_of_getElem? (i := 21) (by decide +kernel), List.mem_of_getElem? (i := 1112) (by decide +kernel), List.mem_of_getElem? (i := 1113) (by decide +kernel)⟩
theorem lw_p57 : lw_okq (⟨"RaceHouse$Course", "timeOf", "(III)J"⟩, 11) := ⟨⟨by decide +kernel, by decide +kernel⟩, List.mem_of_getElem? (i := 212) (by decide +kernel), List.mem_of_getElem? (i := 1166) (by decide +kernel), List.mem_of_getElem? (i := 1167) (by decide +kernel)⟩
theorem lw_p58 : lw_okq (⟨"RaceHouse$Course", "handsTime", "(II)J"⟩, 11) := ⟨⟨by decide +kernel, by decide +kernel⟩, List.mem_of_getElem? (i := 212) (by decide +kernel), List.mem_of_getElem? (i := 1170) (by decide +kernel), List.mem_of_getElem? (i := 1171) (by decide +kernel)⟩
theorem lw_p59 : lw_okq (⟨"RaceHouse$Course", "standsFor", "(II)Z"⟩, 11) := ⟨⟨by decide +kernel, by decide +kernel⟩, List.mem_of_getElem? (i := 212) (by decide +kernel), List.mem_of_getElem? (i := 1202) (by decide +kernel), List.mem_of_getElem? (i := 1203) (by decide +kernel)⟩
theorem lw_p60 : lw_okq (⟨"RaceHouse$Course", "added", "(I)I"⟩, 11) := ⟨⟨by decide +kernel, by decide +kernel⟩, List.mem_of_getElem? (i := 212) (by decide +kernel), List.mem_of_getElem? (i := 1223) (by decide +kernel), List.mem_of_getElem? (i := 1224) (by decide +kernel)⟩
theorem lw_p61 : lw_okq (⟨"RaceHouse$Pages", "look", "()V"⟩, 4) := ⟨⟨by decide +kernel, by decide +kernel⟩, List.mem_of_getElem? (i := 298) (by decide +kernel), List.mem_of_getElem? (i := 1252) (by decide +kernel), List.mem_of_getElem? (i := 1253) (by decide +kernel)⟩
theorem lw_p62 : lw_okq (⟨"RaceHouse$Pages", "isEmpty", "(I)Z"⟩, 4) := ⟨⟨by decide +kernel, by decide +kernel⟩, List.mem_of_getElem? (i := 298) (by decide +kernel), List.mem_of_getElem? (i := 1266) (by decide +kernel), List.mem_of_getElem? (i := 1267) (by decide +kernel)⟩
theorem lw_p63 : lw_okq (⟨"RaceHouse$Pages", "writePage", "(I)Z"⟩, 4) := ⟨⟨by decide +kernel, by decide +kernel⟩, List.mem_of_getElem? (i := 298) (by decide +kernel), List.mem_of_getElem? (i := 1275) (by decide +kernel), List.mem_of_getElem? (i := 1276) (by decide +kernel)⟩
def lw_privs_4 : List (MethodName × Nat) := [(⟨"RaceHouse$Acts", "unwind", "()V"⟩, 15), (⟨"RaceHouse$Acts", "caught", "(I)Z"⟩, 15), (⟨"RaceHouse$Acts", "finish", "()V"⟩, 15), (⟨"RaceHouse$Clocks", "latestLine", "(I)I"⟩, 19), (⟨"RaceHouse$Clocks", "cutIntoPasses", "(I)I"⟩, 19), (⟨"RaceHouse$Clocks", "chosenOf", "(II)I"⟩, 19), (⟨"RaceHouse$Fit", "mostBehind", "(IJ)I"⟩, 9), (⟨"RaceHouse$Fit", "choose", "()V"⟩, 9), (⟨"RaceHouse", "isPlace", "(I)Z"⟩, 12), (⟨"RaceHouse$Course", "timeOf", "(III)J"⟩, 11), (⟨"RaceHouse$Course", "handsTime", "(II)J"⟩, 11), (⟨"RaceHouse$Course", "standsFor", "(II)Z"⟩, 11), (⟨"RaceHouse$Course", "added", "(I)I"⟩, 11), (⟨"RaceHouse$Pages", "look", "()V"⟩, 4), (⟨"RaceHouse$Pages", "isEmpty", "(I)Z"⟩, 4), (⟨"RaceHouse$Pages", "writePage", "(I)Z"⟩, 4)]
theorem lw_r4 : ∀ q ∈ lw_privs_4, lw_okq q := List.forall_mem_cons.mpr ⟨lw_p48, List.forall_mem_cons.mpr ⟨lw_p49, List.forall_mem_cons.mpr ⟨lw_p50, List.forall_mem_cons.mpr ⟨lw_p51, List.forall_mem_cons.mpr ⟨lw_p52, List.forall_mem_cons.mpr ⟨lw_p53, List.forall_mem_cons.mpr ⟨lw_p54, List.forall_mem_cons.mpr ⟨lw_p55, List.forall_mem_cons.mpr ⟨lw_p56, List.forall_mem_cons.mpr ⟨lw_p57, List.forall_mem_cons.mpr ⟨lw_p58, List.forall_mem_cons.mpr ⟨lw_p59, List.forall_mem_cons.mpr ⟨lw_p60, List.forall_mem_cons.mpr ⟨lw_p61, List.forall_mem_cons.mpr ⟨lw_p62, List.forall_mem_cons.mpr ⟨lw_p63, fun _ h => absurd h List.not_mem_nil⟩⟩⟩⟩⟩⟩⟩⟩⟩⟩⟩⟩⟩⟩⟩⟩
theorem lw_p64 : lw_okq (⟨"RaceHouse$Pages", "firstLike", "(I)I"⟩, 4) := ⟨⟨by decide +kernel, by decide +kernel⟩, List.mem_of_getElem? (i := 298) (by decide +kernel), List.mem_of_getElem? (i := 1305) (by decide +kernel), List.mem_of_getElem? (i := 1306) (by decide +kernel)⟩
theorem lw_p65 : lw_okq (⟨"RaceHouse$Pages", "keptBelow", "(I)I"⟩, 4) := ⟨⟨by decide +kernel, by decide +kernel⟩, List.mem_of_getElem? (i := 298) (by decide +kernel), List.mem_of_getElem? (i := 1309) (by decide +kernel), List.mem_of_getElem? (i := 1310) (by decide +kernel)⟩
theorem lw_p66 : lw_okq (⟨"RaceHouse$Pages", "isCounted", "(II)Z"⟩, 4) := ⟨⟨by decide +kernel, by decide +kernel⟩, List.mem_of_getElem? (i := 298) (by decide +kernel), List.mem_of_getElem? (i := 1326) (by decide +kernel), List.mem_of_getElem? (i := 1327) (by decide +kernel)⟩
theorem lw_p67 : lw_okq (⟨"RaceHouseModel", "fails", "(I)I"⟩, 102) := ⟨⟨by decide +kernel, by decide +kernel⟩, List.mem_of_getElem? (i := 1343) (by decide +kernel), List.mem_of_getElem? (i := 1670) (by decide +kernel), List.mem_of_getElem? (i := 1671) (by decide +kernel)⟩
theorem lw_p68 : lw_okq (⟨"RaceHouseModel", "newRow", "(II)I"⟩, 102) := ⟨⟨by decide +kernel, by decide +kernel⟩, List.mem_of_getElem? (i := 1343) (by decide +kernel), List.mem_of_getElem? (i := 1674) (by decide +kernel), List.mem_of_getElem? (i := 1675) (by decide +kernel)⟩
theorem lw_p69 : lw_okq (⟨"RaceHouseModel", "against", "(III)I"⟩, 102) := ⟨⟨by decide +kernel, by decide +kernel⟩, List.mem_of_getElem? (i := 1343) (by decide +kernel), List.mem_of_getElem? (i := 1682) (by decide +kernel), List.mem_of_getElem? (i := 1683) (by decide +kernel)⟩
theorem lw_p70 : lw_okq (⟨"RaceHouseModel", "cast", "(II)I"⟩, 102) := ⟨⟨by decide +kernel, by decide +kernel⟩, List.mem_of_getElem? (i := 1343) (by decide +kernel), List.mem_of_getElem? (i := 1686) (by decide +kernel), List.mem_of_getElem? (i := 1687) (by decide +kernel)⟩
theorem lw_p71 : lw_okq (⟨"RaceHouseModel", "isOf", "(II)Z"⟩, 102) := ⟨⟨by decide +kernel, by decide +kernel⟩, List.mem_of_getElem? (i := 1343) (by decide +kernel), List.mem_of_getElem? (i := 1690) (by decide +kernel), List.mem_of_getElem? (i := 1691) (by decide +kernel)⟩
theorem lw_p72 : lw_okq (⟨"RaceHouseModel", "lost", "(I)J"⟩, 102) := ⟨⟨by decide +kernel, by decide +kernel⟩, List.mem_of_getElem? (i := 1343) (by decide +kernel), List.mem_of_getElem? (i := 1740) (by decide +kernel), List.mem_of_getElem? (i := 1741) (by decide +kernel)⟩
theorem lw_p73 : lw_okq (⟨"RaceHouseModel", "longOf", "(I)I"⟩, 102) := ⟨⟨by decide +kernel, by decide +kernel⟩, List.mem_of_getElem? (i := 1343) (by decide +kernel), List.mem_of_getElem? (i := 1749) (by decide +kernel), List.mem_of_getElem? (i := 1750) (by decide +kernel)⟩
theorem lw_p74 : lw_okq (⟨"RaceHouseModel", "splitAgainst", "(III)I"⟩, 102) := ⟨⟨by decide +kernel, by decide +kernel⟩, List.mem_of_getElem? (i := 1343) (by decide +kernel), List.mem_of_getElem? (i := 1761) (by decide +kernel), List.mem_of_getElem? (i := 1762) (by decide +kernel)⟩
theorem lw_p75 : lw_okq (⟨"RaceHouseModel", "areLikeRows", "(II)Z"⟩, 102) := ⟨⟨by decide +kernel, by decide +kernel⟩, List.mem_of_getElem? (i := 1343) (by decide +kernel), List.mem_of_getElem? (i := 1794) (by decide +kernel), List.mem_of_getElem? (i := 1795) (by decide +kernel)⟩
theorem lw_p76 : lw_okq (⟨"RaceHouseModel", "areLikeGrids", "(II)Z"⟩, 102) := ⟨⟨by decide +kernel, by decide +kernel⟩, List.mem_of_getElem? (i := 1343) (by decide +kernel), List.mem_of_getElem? (i := 1798) (by decide +kernel), List.mem_of_getElem? (i := 1799) (by decide +kernel)⟩
theorem lw_p77 : lw_okq (⟨"RaceHouseModel", "areLikeMembers", "(II)Z"⟩, 102) := ⟨⟨by decide +kernel, by decide +kernel⟩, List.mem_of_getElem? (i := 1343) (by decide +kernel), List.mem_of_getElem? (i := 1802) (by decide +kernel), List.mem_of_getElem? (i := 1803) (by decide +kernel)⟩
theorem lw_p78 : lw_okq (⟨"RaceHouseModel", "areLikePens", "(II)Z"⟩, 102) := ⟨⟨by decide +kernel, by decide +kernel⟩, List.mem_of_getElem? (i := 1343) (by decide +kernel), List.mem_of_getElem? (i := 1806) (by decide +kernel), List.mem_of_getElem? (i := 1807) (by decide +kernel)⟩
theorem lw_p79 : lw_okq (⟨"RaceHouseModel", "hasNoRoom", "(IZ)Z"⟩, 102) := ⟨⟨by decide +kernel, by decide +kernel⟩, List.mem_of_getElem? (i := 1343) (by decide +kernel), List.mem_of_getElem? (i := 1814) (by decide +kernel), List.mem_of_getElem? (i := 1815) (by decide +kernel)⟩
def lw_privs_5 : List (MethodName × Nat) := [(⟨"RaceHouse$Pages", "firstLike", "(I)I"⟩, 4), (⟨"RaceHouse$Pages", "keptBelow", "(I)I"⟩, 4), (⟨"RaceHouse$Pages", "isCounted", "(II)Z"⟩, 4), (⟨"RaceHouseModel", "fails", "(I)I"⟩, 102), (⟨"RaceHouseModel", "newRow", "(II)I"⟩, 102), (⟨"RaceHouseModel", "against", "(III)I"⟩, 102), (⟨"RaceHouseModel", "cast", "(II)I"⟩, 102), (⟨"RaceHouseModel", "isOf", "(II)Z"⟩, 102), (⟨"RaceHouseModel", "lost", "(I)J"⟩, 102), (⟨"RaceHouseModel", "longOf", "(I)I"⟩, 102), (⟨"RaceHouseModel", "splitAgainst", "(III)I"⟩, 102), (⟨"RaceHouseModel", "areLikeRows", "(II)Z"⟩, 102), (⟨"RaceHouseModel", "areLikeGrids", "(II)Z"⟩, 102), (⟨"RaceHouseModel", "areLikeMembers", "(II)Z"⟩, 102), (⟨"RaceHouseModel", "areLikePens", "(II)Z"⟩, 102), (⟨"RaceHouseModel", "hasNoRoom", "(IZ)Z"⟩, 102)]
theorem lw_r5 : ∀ q ∈ lw_privs_5, lw_okq q := List.forall_mem_cons.mpr ⟨lw_p64, List.forall_mem_cons.mpr ⟨lw_p65, List.forall_mem_cons.mpr ⟨lw_p66, List.forall_mem_cons.mpr ⟨lw_p67, List.forall_mem_cons.mpr ⟨lw_p68, List.forall_mem_cons.mpr ⟨lw_p69, List.forall_mem_cons.mpr ⟨lw_p70, List.forall_mem_cons.mpr ⟨lw_p71, List.forall_mem_cons.mpr ⟨lw_p72, List.forall_mem_cons.mpr ⟨lw_p73, List.forall_mem_cons.mpr ⟨lw_p74, List.forall_mem_cons.mpr ⟨lw_p75, List.forall_mem_cons.mpr ⟨lw_p76, List.forall_mem_cons.mpr ⟨lw_p77, List.forall_mem_cons.mpr ⟨lw_p78, List.forall_mem_cons.mpr ⟨lw_p79, fun _ h => absurd h List.not_mem_nil⟩⟩⟩⟩⟩⟩⟩⟩⟩⟩⟩⟩⟩⟩⟩⟩
theorem lw_p80 : lw_okq (⟨"RaceHouseModel", "copyOfRow", "(I)I"⟩, 102) := ⟨⟨by decide +kernel, by decide +kernel⟩, List.mem_of_getElem? (i := 1343) (by decide +kernel), List.mem_of_getElem? (i := 1818) (by decide +kernel), List.mem_of_getElem? (i := 1819) (by decide +kernel)⟩
theorem lw_p81 : lw_okq (⟨"RaceHouseModel", "copyOfGrid", "(IZ)I"⟩, 102) := ⟨⟨by decide +kernel, by decide +kernel⟩, List.mem_of_getElem? (i := 1343) (by decide +kernel), List.mem_of_getElem? (i := 1822) (by decide +kernel), List.mem_of_getElem? (i := 1823) (by decide +kernel)⟩
theorem lw_p82 : lw_okq (⟨"RaceHouseModel", "copyOfMember", "(I)I"⟩, 102) := ⟨⟨by decide +kernel, by decide +kernel⟩, List.mem_of_getElem? (i := 1343) (by decide +kernel), List.mem_of_getElem? (i := 1826) (by decide +kernel), List.mem_of_getElem? (i := 1827) (by decide +kernel)⟩
theorem lw_p83 : lw_okq (⟨"RaceHouseModel", "newMember", "(I)I"⟩, 102) := ⟨⟨by decide +kernel, by decide +kernel⟩, List.mem_of_getElem? (i := 1343) (by decide +kernel), List.mem_of_getElem? (i := 1830) (by decide +kernel), List.mem_of_getElem? (i := 1831) (by decide +kernel)⟩
theorem lw_p84 : lw_okq (⟨"RaceHouseModel", "load", "(III)I"⟩, 102) := ⟨⟨by decide +kernel, by decide +kernel⟩, List.mem_of_getElem? (i := 1343) (by decide +kernel), List.mem_of_getElem? (i := 1834) (by decide +kernel), List.mem_of_getElem? (i := 1835) (by decide +kernel)⟩
theorem lw_p85 : lw_okq (⟨"RaceHouseModel", "glance", "(II)I"⟩, 102) := ⟨⟨by decide +kernel, by decide +kernel⟩, List.mem_of_getElem? (i := 1343) (by decide +kernel), List.mem_of_getElem? (i := 1844) (by decide +kernel), List.mem_of_getElem? (i := 1845) (by decide +kernel)⟩
theorem lw_p86 : lw_okq (⟨"RaceHouseModel", "copyOfPen", "(I)I"⟩, 102) := ⟨⟨by decide +kernel, by decide +kernel⟩, List.mem_of_getElem? (i := 1343) (by decide +kernel), List.mem_of_getElem? (i := 1848) (by decide +kernel), List.mem_of_getElem? (i := 1849) (by decide +kernel)⟩
theorem lw_p87 : lw_okq (⟨"RaceHouseModel", "partOf", "(II)I"⟩, 102) := ⟨⟨by decide +kernel, by decide +kernel⟩, List.mem_of_getElem? (i := 1343) (by decide +kernel), List.mem_of_getElem? (i := 1856) (by decide +kernel), List.mem_of_getElem? (i := 1857) (by decide +kernel)⟩
theorem lw_p88 : lw_okq (⟨"RaceHouseModel", "takes", "(II)Z"⟩, 102) := ⟨⟨by decide +kernel, by decide +kernel⟩, List.mem_of_getElem? (i := 1343) (by decide +kernel), List.mem_of_getElem? (i := 1860) (by decide +kernel), List.mem_of_getElem? (i := 1861) (by decide +kernel)⟩
theorem lw_p89 : lw_okq (⟨"RaceHouseModel", "lays", "(III)V"⟩, 102) := ⟨⟨by decide +kernel, by decide +kernel⟩, List.mem_of_getElem? (i := 1343) (by decide +kernel), List.mem_of_getElem? (i := 1864) (by decide +kernel), List.mem_of_getElem? (i := 1865) (by decide +kernel)⟩
theorem lw_p90 : lw_okq (⟨"RaceHouseModel", "saidBy", "(II)J"⟩, 102) := ⟨⟨by decide +kernel, by decide +kernel⟩, List.mem_of_getElem? (i := 1343) (by decide +kernel), List.mem_of_getElem? (i := 1877) (by decide +kernel), List.mem_of_getElem? (i := 1878) (by decide +kernel)⟩
theorem lw_p91 : lw_okq (⟨"RaceHouseModel", "duty", "(I)I"⟩, 102) := ⟨⟨by decide +kernel, by decide +kernel⟩, List.mem_of_getElem? (i := 1343) (by decide +kernel), List.mem_of_getElem? (i := 1881) (by decide +kernel), List.mem_of_getElem? (i := 1882) (by decide +kernel)⟩
theorem lw_p92 : lw_okq (⟨"RaceHouseModel", "spotAgainst", "(II)I"⟩, 102) := ⟨⟨by decide +kernel, by decide +kernel⟩, List.mem_of_getElem? (i := 1343) (by decide +kernel), List.mem_of_getElem? (i := 1922) (by decide +kernel), List.mem_of_getElem? (i := 1923) (by decide +kernel)⟩
theorem lw_p93 : lw_okq (⟨"RaceHouseModel", "realAgainst", "(I)I"⟩, 102) := ⟨⟨by decide +kernel, by decide +kernel⟩, List.mem_of_getElem? (i := 1343) (by decide +kernel), List.mem_of_getElem? (i := 1949) (by decide +kernel), List.mem_of_getElem? (i := 1950) (by decide +kernel)⟩
theorem lw_p94 : lw_okq (⟨"RaceHouseModel", "realAt", "(II)D"⟩, 102) := ⟨⟨by decide +kernel, by decide +kernel⟩, List.mem_of_getElem? (i := 1343) (by decide +kernel), List.mem_of_getElem? (i := 1953) (by decide +kernel), List.mem_of_getElem? (i := 1954) (by decide +kernel)⟩
theorem lw_p95 : lw_okq (⟨"RaceHouseModel", "readPlan", "()V"⟩, 102) := ⟨⟨by decide +kernel, by decide +kernel⟩, List.mem_of_getElem? (i := 1343) (by decide +kernel), List.mem_of_getElem? (i := 1985) (by decide +kernel), List.mem_of_getElem? (i := 1986) (by decide +kernel)⟩
def lw_privs_6 : List (MethodName × Nat) := [(⟨"RaceHouseModel", "copyOfRow", "(I)I"⟩, 102), (⟨"RaceHouseModel", "copyOfGrid", "(IZ)I"⟩, 102), (⟨"RaceHouseModel", "copyOfMember", "(I)I"⟩, 102), (⟨"RaceHouseModel", "newMember", "(I)I"⟩, 102), (⟨"RaceHouseModel", "load", "(III)I"⟩, 102), (⟨"RaceHouseModel", "glance", "(II)I"⟩, 102), (⟨"RaceHouseModel", "copyOfPen", "(I)I"⟩, 102), (⟨"RaceHouseModel", "partOf", "(II)I"⟩, 102), (⟨"RaceHouseModel", "takes", "(II)Z"⟩, 102), (⟨"RaceHouseModel", "lays", "(III)V"⟩, 102), (⟨"RaceHouseModel", "saidBy", "(II)J"⟩, 102), (⟨"RaceHouseModel", "duty", "(I)I"⟩, 102), (⟨"RaceHouseModel", "spotAgainst", "(II)I"⟩, 102), (⟨"RaceHouseModel", "realAgainst", "(I)I"⟩, 102), (⟨"RaceHouseModel", "realAt", "(II)D"⟩, 102), (⟨"RaceHouseModel", "readPlan", "()V"⟩, 102)]
theorem lw_r6 : ∀ q ∈ lw_privs_6, lw_okq q := List.forall_mem_cons.mpr ⟨lw_p80, List.forall_mem_cons.mpr ⟨lw_p81, List.forall_mem_cons.mpr ⟨lw_p82, List.forall_mem_cons.mpr ⟨lw_p83, List.forall_mem_cons.mpr ⟨lw_p84, List.forall_mem_cons.mpr ⟨lw_p85, List.forall_mem_cons.mpr ⟨lw_p86, List.forall_mem_cons.mpr ⟨lw_p87, List.forall_mem_cons.mpr ⟨lw_p88, List.forall_mem_cons.mpr ⟨lw_p89, List.forall_mem_cons.mpr ⟨lw_p90, List.forall_mem_cons.mpr ⟨lw_p91, List.forall_mem_cons.mpr ⟨lw_p92, List.forall_mem_cons.mpr ⟨lw_p93, List.forall_mem_cons.mpr ⟨lw_p94, List.forall_mem_cons.mpr ⟨lw_p95, fun _ h => absurd h List.not_mem_nil⟩⟩⟩⟩⟩⟩⟩⟩⟩⟩⟩⟩⟩⟩⟩⟩
theorem lw_p96 : lw_okq (⟨"RaceHouseModel", "here", "()I"⟩, 102) := ⟨⟨by decide +kernel, by decide +kernel⟩, List.mem_of_getElem? (i := 1343) (by decide +kernel), List.mem_of_getElem? (i := 1989) (by decide +kernel), List.mem_of_getElem? (i := 1990) (by decide +kernel)⟩
theorem lw_p97 : lw_okq (⟨"RaceHouseModel", "digit", "(I)V"⟩, 102) := ⟨⟨by decide +kernel, by decide +kernel⟩, List.mem_of_getElem? (i := 1343) (by decide +kernel), List.mem_of_getElem? (i := 1993) (by decide +kernel), List.mem_of_getElem? (i := 1994) (by decide +kernel)⟩
theorem lw_p98 : lw_okq (⟨"RaceHouseModel", "cannot", "()V"⟩, 102) := ⟨⟨by decide +kernel, by decide +kernel⟩, List.mem_of_getElem? (i := 1343) (by decide +kernel), List.mem_of_getElem? (i := 1998) (by decide +kernel), List.mem_of_getElem? (i := 1999) (by decide +kernel)⟩
theorem lw_p99 : lw_okq (⟨"RaceHouseModel", "newEntry", "(III)I"⟩, 102) := ⟨⟨by decide +kernel, by decide +kernel⟩, List.mem_of_getElem? (i := 1343) (by decide +kernel), List.mem_of_getElem? (i := 2002) (by decide +kernel), List.mem_of_getElem? (i := 2003) (by decide +kernel)⟩
theorem lw_p100 : lw_okq (⟨"RaceHouseModel", "opens", "(I)V"⟩, 102) := ⟨⟨by decide +kernel, by decide +kernel⟩, List.mem_of_getElem? (i := 1343) (by decide +kernel), List.mem_of_getElem? (i := 2006) (by decide +kernel), List.mem_of_getElem? (i := 2007) (by decide +kernel)⟩
theorem lw_p101 : lw_okq (⟨"RaceHouseModel", "readStep", "(I)V"⟩, 102) := ⟨⟨by decide +kernel, by decide +kernel⟩, List.mem_of_getElem? (i := 1343) (by decide +kernel), List.mem_of_getElem? (i := 2013) (by decide +kernel), List.mem_of_getElem? (i := 2014) (by decide +kernel)⟩
theorem lw_p102 : lw_okq (⟨"RaceHouseModel", "digits", "(ZI)V"⟩, 102) := ⟨⟨by decide +kernel, by decide +kernel⟩, List.mem_of_getElem? (i := 1343) (by decide +kernel), List.mem_of_getElem? (i := 2017) (by decide +kernel), List.mem_of_getElem? (i := 2018) (by decide +kernel)⟩
theorem lw_p103 : lw_okq (⟨"RaceHouseModel", "runs", "()V"⟩, 102) := ⟨⟨by decide +kernel, by decide +kernel⟩, List.mem_of_getElem? (i := 1343) (by decide +kernel), List.mem_of_getElem? (i := 2022) (by decide +kernel), List.mem_of_getElem? (i := 2023) (by decide +kernel)⟩
theorem lw_p104 : lw_okq (⟨"RaceHouseModel", "blockEnd", "()I"⟩, 102) := ⟨⟨by decide +kernel, by decide +kernel⟩, List.mem_of_getElem? (i := 1343) (by decide +kernel), List.mem_of_getElem? (i := 2026) (by decide +kernel), List.mem_of_getElem? (i := 2027) (by decide +kernel)⟩
theorem lw_p105 : lw_okq (⟨"RaceHouseModel", "leaves", "()I"⟩, 102) := ⟨⟨by decide +kernel, by decide +kernel⟩, List.mem_of_getElem? (i := 1343) (by decide +kernel), List.mem_of_getElem? (i := 2030) (by decide +kernel), List.mem_of_getElem? (i := 2031) (by decide +kernel)⟩
theorem lw_p106 : lw_okq (⟨"RaceHouseModel", "enters", "(II)V"⟩, 102) := ⟨⟨by decide +kernel, by decide +kernel⟩, List.mem_of_getElem? (i := 1343) (by decide +kernel), List.mem_of_getElem? (i := 2034) (by decide +kernel), List.mem_of_getElem? (i := 2035) (by decide +kernel)⟩
theorem lw_p107 : lw_okq (⟨"RaceHouseModel", "closes", "(I)I"⟩, 102) := ⟨⟨by decide +kernel, by decide +kernel⟩, List.mem_of_getElem? (i := 1343) (by decide +kernel), List.mem_of_getElem? (i := 2038) (by decide +kernel), List.mem_of_getElem? (i := 2039) (by decide +kernel)⟩
theorem lw_p108 : lw_okq (⟨"RaceHouseModel", "closer", "(I)I"⟩, 102) := ⟨⟨by decide +kernel, by decide +kernel⟩, List.mem_of_getElem? (i := 1343) (by decide +kernel), List.mem_of_getElem? (i := 2042) (by decide +kernel), List.mem_of_getElem? (i := 2043) (by decide +kernel)⟩
theorem lw_p109 : lw_okq (⟨"RaceHouseModel", "behind", "(I)I"⟩, 102) := ⟨⟨by decide +kernel, by decide +kernel⟩, List.mem_of_getElem? (i := 1343) (by decide +kernel), List.mem_of_getElem? (i := 2046) (by decide +kernel), List.mem_of_getElem? (i := 2047) (by decide +kernel)⟩
theorem lw_p110 : lw_okq (⟨"RaceHouseModel", "begins", "(I)I"⟩, 102) := ⟨⟨by decide +kernel, by decide +kernel⟩, List.mem_of_getElem? (i := 1343) (by decide +kernel), List.mem_of_getElem? (i := 2050) (by decide +kernel), List.mem_of_getElem? (i := 2051) (by decide +kernel)⟩
theorem lw_p111 : lw_okq (⟨"RaceHouseModel", "does", "(I)I"⟩, 102) := ⟨⟨by decide +kernel, by decide +kernel⟩, List.mem_of_getElem? (i := 1343) (by decide +kernel), List.mem_of_getElem? (i := 2054) (by decide +kernel), List.mem_of_getElem? (i := 2055) (by decide +kernel)⟩
def lw_privs_7 : List (MethodName × Nat) := [(⟨"RaceHouseModel", "here", "()I"⟩, 102), (⟨"RaceHouseModel", "digit", "(I)V"⟩, 102), (⟨"RaceHouseModel", "cannot", "()V"⟩, 102), (⟨"RaceHouseModel", "newEntry", "(III)I"⟩, 102), (⟨"RaceHouseModel", "opens", "(I)V"⟩, 102), (⟨"RaceHouseModel", "readStep", "(I)V"⟩, 102), (⟨"RaceHouseModel", "digits", "(ZI)V"⟩, 102), (⟨"RaceHouseModel", "runs", "()V"⟩, 102), (⟨"RaceHouseModel", "blockEnd", "()I"⟩, 102), (⟨"RaceHouseModel", "leaves", "()I"⟩, 102), (⟨"RaceHouseModel", "enters", "(II)V"⟩, 102), (⟨"RaceHouseModel", "closes", "(I)I"⟩, 102), (⟨"RaceHouseModel", "closer", "(I)I"⟩, 102), (⟨"RaceHouseModel", "behind", "(I)I"⟩, 102), (⟨"RaceHouseModel", "begins", "(I)I"⟩, 102), (⟨"RaceHouseModel", "does", "(I)I"⟩, 102)]
theorem lw_r7 : ∀ q ∈ lw_privs_7, lw_okq q := List.forall_mem_cons.mpr ⟨lw_p96, List.forall_mem_cons.mpr ⟨lw_p97, List.forall_mem_cons.mpr ⟨lw_p98, List.forall_mem_cons.mpr ⟨lw_p99, List.forall_mem_cons.mpr ⟨lw_p100, List.forall_mem_cons.mpr ⟨lw_p101, List.forall_mem_cons.mpr ⟨lw_p102, List.forall_mem_cons.mpr ⟨lw_p103, List.forall_mem_cons.mpr ⟨lw_p104, List.forall_mem_cons.mpr ⟨lw_p105, List.forall_mem_cons.mpr ⟨lw_p106, List.forall_mem_cons.mpr ⟨lw_p107, List.forall_mem_cons.mpr ⟨lw_p108, List.forall_mem_cons.mpr ⟨lw_p109, List.forall_mem_cons.mpr ⟨lw_p110, List.forall_mem_cons.mpr ⟨lw_p111, fun _ h => absurd h List.not_mem_nil⟩⟩⟩⟩⟩⟩⟩⟩⟩⟩⟩⟩⟩⟩⟩⟩
theorem lw_p112 : lw_okq (⟨"RaceHouseModel", "givesBack", "(I)Z"⟩, 102) := ⟨⟨by decide +kernel, by decide +kernel⟩, List.mem_of_getElem? (i := 1343) (by decide +kernel), List.mem_of_getElem? (i := 2058) (by decide +kernel), List.mem_of_getElem? (i := 2059) (by decide +kernel)⟩
theorem lw_p113 : lw_okq (⟨"RaceHouseModel", "hutOf", "(III)J"⟩, 102) := ⟨⟨by decide +kernel, by decide +kernel⟩, List.mem_of_getElem? (i := 1343) (by decide +kernel), List.mem_of_getElem? (i := 2090) (by decide +kernel), List.mem_of_getElem? (i := 2091) (by decide +kernel)⟩
theorem lw_p114 : lw_okq (⟨"RaceHouseModel", "timeOfRead", "(I)J"⟩, 102) := ⟨⟨by decide +kernel, by decide +kernel⟩, List.mem_of_getElem? (i := 1343) (by decide +kernel), List.mem_of_getElem? (i := 2114) (by decide +kernel), List.mem_of_getElem? (i := 2115) (by decide +kernel)⟩
theorem lw_p115 : lw_okq (⟨"RaceHouseModel", "findPasses", "(II)V"⟩, 102) := ⟨⟨by decide +kernel, by decide +kernel⟩, List.mem_of_getElem? (i := 1343) (by decide +kernel), List.mem_of_getElem? (i := 2125) (by decide +kernel), List.mem_of_getElem? (i := 2126) (by decide +kernel)⟩
theorem lw_p116 : lw_okq (⟨"RaceHouseModel", "findFit", "(I)V"⟩, 102) := ⟨⟨by decide +kernel, by decide +kernel⟩, List.mem_of_getElem? (i := 1343) (by decide +kernel), List.mem_of_getElem? (i := 2142) (by decide +kernel), List.mem_of_getElem? (i := 2143) (by decide +kernel)⟩
theorem lw_p117 : lw_okq (⟨"RaceHouseModel", "isPlace", "(I)Z"⟩, 102) := ⟨⟨by decide +kernel, by decide +kernel⟩, List.mem_of_getElem? (i := 1343) (by decide +kernel), List.mem_of_getElem? (i := 2150) (by decide +kernel), List.mem_of_getElem? (i := 2151) (by decide +kernel)⟩
theorem lw_p118 : lw_okq (⟨"RaceHouseModel", "startOf", "(I)J"⟩, 102) := ⟨⟨by decide +kernel, by decide +kernel⟩, List.mem_of_getElem? (i := 1343) (by decide +kernel), List.mem_of_getElem? (i := 2166) (by decide +kernel), List.mem_of_getElem? (i := 2167) (by decide +kernel)⟩
theorem lw_p119 : lw_okq (⟨"RaceHouseModel", "mergedOf", "(II)J"⟩, 102) := ⟨⟨by decide +kernel, by decide +kernel⟩, List.mem_of_getElem? (i := 1343) (by decide +kernel), List.mem_of_getElem? (i := 2178) (by decide +kernel), List.mem_of_getElem? (i := 2179) (by decide +kernel)⟩
theorem lw_p120 : lw_okq (⟨"RaceHouseModel", "sourceOf", "(II)I"⟩, 102) := ⟨⟨by decide +kernel, by decide +kernel⟩, List.mem_of_getElem? (i := 1343) (by decide +kernel), List.mem_of_getElem? (i := 2182) (by decide +kernel), List.mem_of_getElem? (i := 2183) (by decide +kernel)⟩
theorem lw_p121 : lw_okq (⟨"RaceHouseModel", "stateOf", "(I)I"⟩, 102) := ⟨⟨by decide +kernel, by decide +kernel⟩, List.mem_of_getElem? (i := 1343) (by decide +kernel), List.mem_of_getElem? (i := 2203) (by decide +kernel), List.mem_of_getElem? (i := 2204) (by decide +kernel)⟩
theorem lw_p122 : lw_okq (⟨"RaceHouseModel", "judge", "(I)V"⟩, 102) := ⟨⟨by decide +kernel, by decide +kernel⟩, List.mem_of_getElem? (i := 1343) (by decide +kernel), List.mem_of_getElem? (i := 2207) (by decide +kernel), List.mem_of_getElem? (i := 2208) (by decide +kernel)⟩
theorem lw_p123 : lw_okq (⟨"RaceHouseModel", "resultOf", "(I)J"⟩, 102) := ⟨⟨by decide +kernel, by decide +kernel⟩, List.mem_of_getElem? (i := 1343) (by decide +kernel), List.mem_of_getElem? (i := 2216) (by decide +kernel), List.mem_of_getElem? (i := 2217) (by decide +kernel)⟩
theorem lw_p124 : lw_okq (⟨"RaceHouseModel", "isFree", "(I)Z"⟩, 102) := ⟨⟨by decide +kernel, by decide +kernel⟩, List.mem_of_getElem? (i := 1343) (by decide +kernel), List.mem_of_getElem? (i := 2232) (by decide +kernel), List.mem_of_getElem? (i := 2233) (by decide +kernel)⟩
theorem lw_p125 : lw_okq (⟨"RaceHouseModel", "isWhole", "(I)Z"⟩, 102) := ⟨⟨by decide +kernel, by decide +kernel⟩, List.mem_of_getElem? (i := 1343) (by decide +kernel), List.mem_of_getElem? (i := 2236) (by decide +kernel), List.mem_of_getElem? (i := 2237) (by decide +kernel)⟩
theorem lw_p126 : lw_okq (⟨"RaceHouseModel", "numberOf", "(II)I"⟩, 102) := ⟨⟨by decide +kernel, by decide +kernel⟩, List.mem_of_getElem? (i := 1343) (by decide +kernel), List.mem_of_getElem? (i := 2240) (by decide +kernel), List.mem_of_getElem? (i := 2241) (by decide +kernel)⟩
theorem lw_p127 : lw_okq (⟨"RaceHouseModel", "sumOf", "(I)I"⟩, 102) := ⟨⟨by decide +kernel, by decide +kernel⟩, List.mem_of_getElem? (i := 1343) (by decide +kernel), List.mem_of_getElem? (i := 2244) (by decide +kernel), List.mem_of_getElem? (i := 2245) (by decide +kernel)⟩
def lw_privs_8 : List (MethodName × Nat) := [(⟨"RaceHouseModel", "givesBack", "(I)Z"⟩, 102), (⟨"RaceHouseModel", "hutOf", "(III)J"⟩, 102), (⟨"RaceHouseModel", "timeOfRead", "(I)J"⟩, 102), (⟨"RaceHouseModel", "findPasses", "(II)V"⟩, 102), (⟨"RaceHouseModel", "findFit", "(I)V"⟩, 102), (⟨"RaceHouseModel", "isPlace", "(I)Z"⟩, 102), (⟨"RaceHouseModel", "startOf", "(I)J"⟩, 102), (⟨"RaceHouseModel", "mergedOf", "(II)J"⟩, 102), (⟨"RaceHouseModel", "sourceOf", "(II)I"⟩, 102), (⟨"RaceHouseModel", "stateOf", "(I)I"⟩, 102), (⟨"RaceHouseModel", "judge", "(I)V"⟩, 102), (⟨"RaceHouseModel", "resultOf", "(I)J"⟩, 102), (⟨"RaceHouseModel", "isFree", "(I)Z"⟩, 102), (⟨"RaceHouseModel", "isWhole", "(I)Z"⟩, 102), (⟨"RaceHouseModel", "numberOf", "(II)I"⟩, 102), (⟨"RaceHouseModel", "sumOf", "(I)I"⟩, 102)]
theorem lw_r8 : ∀ q ∈ lw_privs_8, lw_okq q := List.forall_mem_cons.mpr ⟨lw_p112, List.forall_mem_cons.mpr ⟨lw_p113, List.forall_mem_cons.mpr ⟨lw_p114, List.forall_mem_cons.mpr ⟨lw_p115, List.forall_mem_cons.mpr ⟨lw_p116, List.forall_mem_cons.mpr ⟨lw_p117, List.forall_mem_cons.mpr ⟨lw_p118, List.forall_mem_cons.mpr ⟨lw_p119, List.forall_mem_cons.mpr ⟨lw_p120, List.forall_mem_cons.mpr ⟨lw_p121, List.forall_mem_cons.mpr ⟨lw_p122, List.forall_mem_cons.mpr ⟨lw_p123, List.forall_mem_cons.mpr ⟨lw_p124, List.forall_mem_cons.mpr ⟨lw_p125, List.forall_mem_cons.mpr ⟨lw_p126, List.forall_mem_cons.mpr ⟨lw_p127, fun _ h => absurd h List.not_mem_nil⟩⟩⟩⟩⟩⟩⟩⟩⟩⟩⟩⟩⟩⟩⟩⟩
theorem lw_p128 : lw_okq (⟨"RaceHouseModel", "nextKept", "(I)I"⟩, 102) := ⟨⟨by decide +kernel, by decide +kernel⟩, List.mem_of_getElem? (i := 1343) (by decide +kernel), List.mem_of_getElem? (i := 2274) (by decide +kernel), List.mem_of_getElem? (i := 2275) (by decide +kernel)⟩
theorem lw_p129 : lw_okq (⟨"RaceHouseModel", "longOf0", "(I)J"⟩, 102) := ⟨⟨by decide +kernel, by decide +kernel⟩, List.mem_of_getElem? (i := 1343) (by decide +kernel), List.mem_of_getElem? (i := 2278) (by decide +kernel), List.mem_of_getElem? (i := 2279) (by decide +kernel)⟩
def lw_privs_9 : List (MethodName × Nat) := [(⟨"RaceHouseModel", "nextKept", "(I)I"⟩, 102), (⟨"RaceHouseModel", "longOf0", "(I)J"⟩, 102)]
theorem lw_r9 : ∀ q ∈ lw_privs_9, lw_okq q := List.forall_mem_cons.mpr ⟨lw_p128, List.forall_mem_cons.mpr ⟨lw_p129, fun _ h => absurd h List.not_mem_nil⟩⟩
def lw_privs : List (MethodName × Nat) := lw_privs_1 ++ (lw_privs_2 ++ (lw_privs_3 ++ (lw_privs_4 ++ (lw_privs_5 ++ (lw_privs_6 ++ (lw_privs_7 ++ (lw_privs_8 ++ (lw_privs_9))))))))
def lw_tbl : List Cond := k2_sels lw_privs ++ tables_1
theorem lw_privs_ok : ∀ q ∈ lw_privs, lw_okq q := by
  show ∀ q ∈ lw_privs_1 ++ (lw_privs_2 ++ (lw_privs_3 ++ (lw_privs_4 ++ (lw_privs_5 ++ (lw_privs_6 ++ (lw_privs_7 ++ (lw_privs_8 ++ (lw_privs_9)))))))), lw_okq q
  exact List.forall_mem_append.mpr ⟨lw_r1, List.forall_mem_append.mpr ⟨lw_r2, List.forall_mem_append.mpr ⟨lw_r3, List.forall_mem_append.mpr ⟨lw_r4, List.forall_mem_append.mpr ⟨lw_r5, List.forall_mem_append.mpr ⟨lw_r6, List.forall_mem_append.mpr ⟨lw_r7, List.forall_mem_append.mpr ⟨lw_r8, lw_r9⟩⟩⟩⟩⟩⟩⟩⟩
/-- the streams that the claim lets the run draw from -/
abbrev lw_cs : List Choice := [Jvm.Choice.named "NaN.bits", Jvm.Choice.named "NaN.copy"]
theorem lw_bits : nanBits ∈ lw_cs := by first | decide | exact List.mem_cons_self | simp [lw_cs, nanBits]
-- ===== end of PART A; then your names; then what follows =====
end
section
def RX0 : String := "RaceHouse$Acts"
def TX0 : u_T := fun k => match k with
  | 0 => ("RaceHouse$Acts", "plan", "LRaceHouse$Plan;", true)
  | 1 => ("RaceHouse$Acts", "counters", "[I", true)
  | 2 => ("RaceHouse$Acts", "slips", "[I", true)
  | 3 => ("RaceHouse$Acts", "slipCount", "I", false)
  | 4 => ("RaceHouse$Acts", "outcomes", "[I", true)
  | 5 => ("RaceHouse$Acts", "countersBefore", "[I", true)
  | 6 => ("RaceHouse$Acts", "slipCountBefore", "I", false)
  | 7 => ("RaceHouse$Acts", "lent", "[I", true)
  | 8 => ("RaceHouse$Acts", "lentCount", "I", false)
  | 9 => ("RaceHouse$Acts", "holds", "[I", true)
  | 10 => ("RaceHouse$Acts", "open", "[I", true)
  | 11 => ("RaceHouse$Acts", "waiting", "[I", true)
  | 12 => ("RaceHouse$Acts", "depth", "I", false)
  | 13 => ("RaceHouse$Acts", "at", "I", false)
  | _ => ("RaceHouse$Acts", "ending", "I", false)
def tyX0 : Nat → FieldType := fun k => match k with
  | 0 => .object "RaceHouse$Plan"
  | 1 => .array .int
  | 2 => .array .int
  | 3 => .int
  | 4 => .array .int
  | 5 => .array .int
  | 6 => .int
  | 7 => .array .int
  | 8 => .int
  | 9 => .array .int
  | 10 => .array .int
  | 11 => .array .int
  | 12 => .int
  | 13 => .int
  | _ => .int
abbrev wsX00 : List Cond := u_ws RX0 TX0 15
theorem nmX0 : ∀ a, a < 15 → ∀ b, b < 15 → a ≠ b → (TX0 a).2.1 ≠ (TX0 b).2.1 := by decide +kernel
theorem tyX0_ok : ∀ k, k < 15 → parseFieldDescriptor (TX0 k).2.2.1 = some (tyX0 k) := by decide +kernel
abbrev cX0_init : ByteArray := prog_2_method_1_code
def yX0_init : MethodName := ⟨RX0, "<init>", "(LRaceHouse$Plan;)V"⟩
abbrev cX0_perform : ByteArray := prog_2_method_2_code
def yX0_perform : MethodName := ⟨RX0, "perform", "()I"⟩
abbrev cX0_prepare : ByteArray := prog_2_method_3_code
def yX0_prepare : MethodName := ⟨RX0, "prepare", "()V"⟩
abbrev cX0_finish : ByteArray := prog_2_method_4_code
def yX0_finish : MethodName := ⟨RX0, "finish", "()V"⟩
abbrev cX0_doStep : ByteArray := prog_2_method_5_code
def yX0_doStep : MethodName := ⟨RX0, "doStep", "()V"⟩
abbrev cX0_lend : ByteArray := prog_2_method_6_code
def yX0_lend : MethodName := ⟨RX0, "lend", "(I)V"⟩
abbrev cX0_giveBack : ByteArray := prog_2_method_7_code
def yX0_giveBack : MethodName := ⟨RX0, "giveBack", "(I)V"⟩
abbrev cX0_divide : ByteArray := prog_2_method_8_code
def yX0_divide : MethodName := ⟨RX0, "divide", "(II)V"⟩
abbrev cX0_lookUp : ByteArray := prog_2_method_9_code
def yX0_lookUp : MethodName := ⟨RX0, "lookUp", "(II)V"⟩
abbrev cX0_print : ByteArray := prog_2_method_10_code
def yX0_print : MethodName := ⟨RX0, "print", "(I)V"⟩
abbrev cX0_wake : ByteArray := prog_2_method_11_code
def yX0_wake : MethodName := ⟨RX0, "wake", "(I)V"⟩
abbrev cX0_beginBlock : ByteArray := prog_2_method_12_code
def yX0_beginBlock : MethodName := ⟨RX0, "beginBlock", "(I)V"⟩
abbrev cX0_enter : ByteArray := prog_2_method_13_code
def yX0_enter : MethodName := ⟨RX0, "enter", "(II)V"⟩
abbrev cX0_closeBlock : ByteArray := prog_2_method_14_code
def yX0_closeBlock : MethodName := ⟨RX0, "closeBlock", "()V"⟩
abbrev cX0_unwind : ByteArray := prog_2_method_15_code
def yX0_unwind : MethodName := ⟨RX0, "unwind", "()V"⟩
abbrev cX0_caught : ByteArray := prog_2_method_16_code
def yX0_caught : MethodName := ⟨RX0, "caught", "(I)Z"⟩
abbrev cX0_goBehindCatches : ByteArray := prog_2_method_17_code
def yX0_goBehindCatches : MethodName := ⟨RX0, "goBehindCatches", "(I)V"⟩
abbrev cX0_isFault : ByteArray := prog_2_method_18_code
def yX0_isFault : MethodName := ⟨RX0, "isFault", "(I)Z"⟩
def RX1 : String := "RaceHouse$Clocks"
def TX1 : u_T := fun k => match k with
  | 0 => ("RaceHouse$Clocks", "bibOfChip", "[I", true)
  | 1 => ("RaceHouse$Clocks", "gap", "I", false)
  | 2 => ("RaceHouse$Clocks", "leastStrength", "I", false)
  | 3 => ("RaceHouse$Clocks", "rule", "I", false)
  | 4 => ("RaceHouse$Clocks", "unread", "I", false)
  | 5 => ("RaceHouse$Clocks", "readCount", "I", false)
  | 6 => ("RaceHouse$Clocks", "passTimes", "[J", true)
  | 7 => ("RaceHouse$Clocks", "lineCount", "[I", true)
  | 8 => ("RaceHouse$Clocks", "markCount", "[I", true)
  | 9 => ("RaceHouse$Clocks", "locals", "[I", true)
  | 10 => ("RaceHouse$Clocks", "huts", "[I", true)
  | 11 => ("RaceHouse$Clocks", "readLine", "[I", true)
  | 12 => ("RaceHouse$Clocks", "readChip", "[I", true)
  | 13 => ("RaceHouse$Clocks", "readLocal", "[I", true)
  | 14 => ("RaceHouse$Clocks", "readStrength", "[I", true)
  | 15 => ("RaceHouse$Clocks", "selected", "[I", true)
  | 16 => ("RaceHouse$Clocks", "selectedCount", "I", false)
  | 17 => ("RaceHouse$Clocks", "sorted", "[I", true)
  | _ => ("RaceHouse$Clocks", "sortedTimes", "[J", true)
def tyX1 : Nat → FieldType := fun k => match k with
  | 0 => .array .int
  | 1 => .int
  | 2 => .int
  | 3 => .int
  | 4 => .int
  | 5 => .int
  | 6 => .array .long
  | 7 => .array .int
  | 8 => .array .int
  | 9 => .array .int
  | 10 => .array .int
  | 11 => .array .int
  | 12 => .array .int
  | 13 => .array .int
  | 14 => .array .int
  | 15 => .array .int
  | 16 => .int
  | 17 => .array .int
  | _ => .array .long
abbrev wsX10 : List Cond := u_ws RX1 TX1 19
theorem nmX1 : ∀ a, a < 19 → ∀ b, b < 19 → a ≠ b → (TX1 a).2.1 ≠ (TX1 b).2.1 := by decide +kernel
theorem tyX1_ok : ∀ k, k < 19 → parseFieldDescriptor (TX1 k).2.2.1 = some (tyX1 k) := by decide +kernel
abbrev cX1_init : ByteArray := prog_3_method_1_code
def yX1_init : MethodName := ⟨RX1, "<init>", "()V"⟩
abbrev cX1_hasLine : ByteArray := prog_3_method_2_code
def yX1_hasLine : MethodName := ⟨RX1, "hasLine", "(II)Z"⟩
abbrev cX1_latestLine : ByteArray := prog_3_method_3_code
def yX1_latestLine : MethodName := ⟨RX1, "latestLine", "(I)I"⟩
abbrev cX1_addLine : ByteArray := prog_3_method_4_code
def yX1_addLine : MethodName := ⟨RX1, "addLine", "(I)I"⟩
abbrev cX1_addMark : ByteArray := prog_3_method_5_code
def yX1_addMark : MethodName := ⟨RX1, "addMark", "(III)I"⟩
abbrev cX1_hutTime : ByteArray := prog_3_method_6_code
def yX1_hutTime : MethodName := ⟨RX1, "hutTime", "(II)J"⟩
abbrev cX1_addRead : ByteArray := prog_3_method_7_code
def yX1_addRead : MethodName := ⟨RX1, "addRead", "(IIII)I"⟩
abbrev cX1_kindOfRead : ByteArray := prog_3_method_8_code
def yX1_kindOfRead : MethodName := ⟨RX1, "kindOfRead", "(I)I"⟩
abbrev cX1_select : ByteArray := prog_3_method_9_code
def yX1_select : MethodName := ⟨RX1, "select", "(I)V"⟩
abbrev cX1_gatherPasses : ByteArray := prog_3_method_10_code
def yX1_gatherPasses : MethodName := ⟨RX1, "gatherPasses", "(I)I"⟩
abbrev cX1_cutIntoPasses : ByteArray := prog_3_method_11_code
def yX1_cutIntoPasses : MethodName := ⟨RX1, "cutIntoPasses", "(I)I"⟩
abbrev cX1_chosenOf : ByteArray := prog_3_method_12_code
def yX1_chosenOf : MethodName := ⟨RX1, "chosenOf", "(II)I"⟩
def RX2 : String := "RaceHouse$Course"
def TX2 : u_T := fun k => match k with
  | 0 => ("RaceHouse$Course", "fit", "LRaceHouse$Fit;", true)
  | 1 => ("RaceHouse$Course", "guns", "[I", true)
  | 2 => ("RaceHouse$Course", "waveOf", "[I", true)
  | 3 => ("RaceHouse$Course", "clubOf", "[I", true)
  | 4 => ("RaceHouse$Course", "penaltyCount", "I", false)
  | 5 => ("RaceHouse$Course", "stands", "[I", true)
  | 6 => ("RaceHouse$Course", "penaltyBib", "[I", true)
  | 7 => ("RaceHouse$Course", "articles", "[I", true)
  | 8 => ("RaceHouse$Course", "milliseconds", "[I", true)
  | 9 => ("RaceHouse$Course", "given", "[I", true)
  | _ => ("RaceHouse$Course", "bestResults", "[J", true)
def tyX2 : Nat → FieldType := fun k => match k with
  | 0 => .object "RaceHouse$Fit"
  | 1 => .array .int
  | 2 => .array .int
  | 3 => .array .int
  | 4 => .int
  | 5 => .array .int
  | 6 => .array .int
  | 7 => .array .int
  | 8 => .array .int
  | 9 => .array .int
  | _ => .array .long
abbrev wsX20 : List Cond := u_ws RX2 TX2 11
theorem nmX2 : ∀ a, a < 11 → ∀ b, b < 11 → a ≠ b → (TX2 a).2.1 ≠ (TX2 b).2.1 := by decide +kernel
theorem tyX2_ok : ∀ k, k < 11 → parseFieldDescriptor (TX2 k).2.2.1 = some (tyX2 k) := by decide +kernel
abbrev cX2_init : ByteArray := prog_4_method_1_code
def yX2_init : MethodName := ⟨RX2, "<init>", "(LRaceHouse$Fit;)V"⟩
abbrev cX2_slotsOf : ByteArray := prog_4_method_2_code
def yX2_slotsOf : MethodName := ⟨RX2, "slotsOf", "(II)I"⟩
abbrev cX2_giveTime : ByteArray := prog_4_method_3_code
def yX2_giveTime : MethodName := ⟨RX2, "giveTime", "(IIII)V"⟩
abbrev cX2_giveHand : ByteArray := prog_4_method_4_code
def yX2_giveHand : MethodName := ⟨RX2, "giveHand", "(III)I"⟩
abbrev cX2_handsTime : ByteArray := prog_4_method_5_code
def yX2_handsTime : MethodName := ⟨RX2, "handsTime", "(II)J"⟩
abbrev cX2_timeOf : ByteArray := prog_4_method_6_code
def yX2_timeOf : MethodName := ⟨RX2, "timeOf", "(III)J"⟩
abbrev cX2_mergedSource : ByteArray := prog_4_method_7_code
def yX2_mergedSource : MethodName := ⟨RX2, "mergedSource", "(II)I"⟩
abbrev cX2_mergedTime : ByteArray := prog_4_method_8_code
def yX2_mergedTime : MethodName := ⟨RX2, "mergedTime", "(II)J"⟩
abbrev cX2_startTime : ByteArray := prog_4_method_9_code
def yX2_startTime : MethodName := ⟨RX2, "startTime", "(I)J"⟩
abbrev cX2_finishedTime : ByteArray := prog_4_method_10_code
def yX2_finishedTime : MethodName := ⟨RX2, "finishedTime", "(I)J"⟩
abbrev cX2_addPenalty : ByteArray := prog_4_method_11_code
def yX2_addPenalty : MethodName := ⟨RX2, "addPenalty", "(III)I"⟩
abbrev cX2_standsFor : ByteArray := prog_4_method_12_code
def yX2_standsFor : MethodName := ⟨RX2, "standsFor", "(II)Z"⟩
abbrev cX2_calledState : ByteArray := prog_4_method_13_code
def yX2_calledState : MethodName := ⟨RX2, "calledState", "(I)I"⟩
abbrev cX2_added : ByteArray := prog_4_method_14_code
def yX2_added : MethodName := ⟨RX2, "added", "(I)I"⟩
abbrev cX2_resultOf : ByteArray := prog_4_method_15_code
def yX2_resultOf : MethodName := ⟨RX2, "resultOf", "(I)J"⟩
abbrev cX2_rankOf : ByteArray := prog_4_method_16_code
def yX2_rankOf : MethodName := ⟨RX2, "rankOf", "(I)I"⟩
abbrev cX2_bestOf : ByteArray := prog_4_method_17_code
def yX2_bestOf : MethodName := ⟨RX2, "bestOf", "(II)J"⟩
def RX3 : String := "RaceHouse$Fit"
def TX3 : u_T := fun k => match k with
  | 0 => ("RaceHouse$Fit", "places", "I", false)
  | 1 => ("RaceHouse$Fit", "uses", "I", false)
  | 2 => ("RaceHouse$Fit", "chosen", "[J", true)
  | 3 => ("RaceHouse$Fit", "clocks", "LRaceHouse$Clocks;", true)
  | 4 => ("RaceHouse$Fit", "mats", "[I", true)
  | 5 => ("RaceHouse$Fit", "leasts", "[I", true)
  | 6 => ("RaceHouse$Fit", "counts", "[I", true)
  | 7 => ("RaceHouse$Fit", "times", "[J", true)
  | _ => ("RaceHouse$Fit", "most", "[I", true)
def tyX3 : Nat → FieldType := fun k => match k with
  | 0 => .int
  | 1 => .int
  | 2 => .array .long
  | 3 => .object "RaceHouse$Clocks"
  | 4 => .array .int
  | 5 => .array .int
  | 6 => .array .int
  | 7 => .array .long
  | _ => .array .int
abbrev wsX30 : List Cond := u_ws RX3 TX3 9
theorem nmX3 : ∀ a, a < 9 → ∀ b, b < 9 → a ≠ b → (TX3 a).2.1 ≠ (TX3 b).2.1 := by decide +kernel
theorem tyX3_ok : ∀ k, k < 9 → parseFieldDescriptor (TX3 k).2.2.1 = some (tyX3 k) := by decide +kernel
abbrev cX3_init : ByteArray := prog_5_method_1_code
def yX3_init : MethodName := ⟨RX3, "<init>", "(LRaceHouse$Clocks;)V"⟩
abbrev cX3_addPlace : ByteArray := prog_5_method_2_code
def yX3_addPlace : MethodName := ⟨RX3, "addPlace", "(II)I"⟩
abbrev cX3_make : ByteArray := prog_5_method_3_code
def yX3_make : MethodName := ⟨RX3, "make", "(I)V"⟩
abbrev cX3_mostBehind : ByteArray := prog_5_method_4_code
def yX3_mostBehind : MethodName := ⟨RX3, "mostBehind", "(IJ)I"⟩
abbrev cX3_choose : ByteArray := prog_5_method_5_code
def yX3_choose : MethodName := ⟨RX3, "choose", "()V"⟩
def RX4 : String := "RaceHouse$Member"
def TX4 : u_T := fun k => match k with
  | 0 => ("RaceHouse$Thing", "type", "I", true)
  | 1 => ("RaceHouse$Member", "number", "I", true)
  | 2 => ("RaceHouse$Member", "born", "I", true)
  | 3 => ("RaceHouse$Member", "fields", "[J", true)
  | 4 => ("RaceHouse$Member", "next", "LRaceHouse$Member;", false)
  | 5 => ("RaceHouse$Member", "rival", "LRaceHouse$Member;", false)
  | 6 => ("RaceHouse$Member", "speed", "I", false)
  | _ => ("RaceHouse$Member", "star", "I", false)
def tyX4 : Nat → FieldType := fun k => match k with
  | 0 => .int
  | 1 => .int
  | 2 => .int
  | 3 => .array .long
  | 4 => .object "RaceHouse$Member"
  | 5 => .object "RaceHouse$Member"
  | 6 => .int
  | _ => .int
abbrev wsX40 : List Cond := u_ws RX4 TX4 8
theorem nmX4 : ∀ a, a < 8 → ∀ b, b < 8 → a ≠ b → (TX4 a).2.1 ≠ (TX4 b).2.1 := by decide +kernel
theorem tyX4_ok : ∀ k, k < 8 → parseFieldDescriptor (TX4 k).2.2.1 = some (tyX4 k) := by decide +kernel
abbrev cX4_init : ByteArray := prog_6_method_1_code
def yX4_init : MethodName := ⟨RX4, "<init>", "(II)V"⟩
abbrev cX4_isLike : ByteArray := prog_6_method_2_code
def yX4_isLike : MethodName := ⟨RX4, "isLike", "(LRaceHouse$Member;)Z"⟩
abbrev cX4_canAnswer : ByteArray := prog_6_method_3_code
def yX4_canAnswer : MethodName := ⟨RX4, "canAnswer", "(I)Z"⟩
abbrev cX4_answer : ByteArray := prog_6_method_4_code
def yX4_answer : MethodName := ⟨RX4, "answer", "(I)I"⟩
abbrev cX4_load : ByteArray := prog_6_method_5_code
def yX4_load : MethodName := ⟨RX4, "load", "()I"⟩
abbrev cX4_reach : ByteArray := prog_6_method_6_code
def yX4_reach : MethodName := ⟨RX4, "reach", "()I"⟩
abbrev cX4_duty : ByteArray := prog_6_method_7_code
def yX4_duty : MethodName := ⟨RX4, "duty", "()I"⟩
abbrev cX4_glance : ByteArray := prog_6_method_8_code
def yX4_glance : MethodName := ⟨RX4, "glance", "()I"⟩
def RX5 : String := "RaceHouse$Numbers"
def TX5 : u_T := fun k => match k with
  | _ => ("", "", "", false)
def tyX5 : Nat → FieldType := fun k => match k with
  | _ => .int
abbrev wsX50 : List Cond := u_ws RX5 TX5 0
theorem nmX5 : ∀ a, a < 0 → ∀ b, b < 0 → a ≠ b → (TX5 a).2.1 ≠ (TX5 b).2.1 := by decide +kernel
theorem tyX5_ok : ∀ k, k < 0 → parseFieldDescriptor (TX5 k).2.2.1 = some (tyX5 k) := by decide +kernel
abbrev cX5_rounded : ByteArray := prog_7_method_2_code
def yX5_rounded : MethodName := ⟨RX5, "rounded", "(JJ)J"⟩
abbrev cX5_isNumber : ByteArray := prog_7_method_3_code
def yX5_isNumber : MethodName := ⟨RX5, "isNumber", "(J)Z"⟩
abbrev cX5_isEndless : ByteArray := prog_7_method_4_code
def yX5_isEndless : MethodName := ⟨RX5, "isEndless", "(J)Z"⟩
abbrev cX5_negated : ByteArray := prog_7_method_5_code
def yX5_negated : MethodName := ⟨RX5, "negated", "(J)J"⟩
abbrev cX5_asDouble : ByteArray := prog_7_method_6_code
def yX5_asDouble : MethodName := ⟨RX5, "asDouble", "(J)J"⟩
abbrev cX5_asFloat : ByteArray := prog_7_method_7_code
def yX5_asFloat : MethodName := ⟨RX5, "asFloat", "(J)J"⟩
abbrev cX5_fraction : ByteArray := prog_7_method_8_code
def yX5_fraction : MethodName := ⟨RX5, "fraction", "(J)J"⟩
abbrev cX5_exponent : ByteArray := prog_7_method_9_code
def yX5_exponent : MethodName := ⟨RX5, "exponent", "(J)I"⟩
abbrev cX5_width : ByteArray := prog_7_method_10_code
def yX5_width : MethodName := ⟨RX5, "width", "(J)I"⟩
abbrev cX5_fitted : ByteArray := prog_7_method_11_code
def yX5_fitted : MethodName := ⟨RX5, "fitted", "(JJII)J"⟩
abbrev cX5_withoutLowest : ByteArray := prog_7_method_12_code
def yX5_withoutLowest : MethodName := ⟨RX5, "withoutLowest", "(JI)J"⟩
abbrev cX5_withTrace : ByteArray := prog_7_method_13_code
def yX5_withTrace : MethodName := ⟨RX5, "withTrace", "(JI)J"⟩
abbrev cX5_added : ByteArray := prog_7_method_14_code
def yX5_added : MethodName := ⟨RX5, "added", "(JJ)J"⟩
abbrev cX5_aligned : ByteArray := prog_7_method_15_code
def yX5_aligned : MethodName := ⟨RX5, "aligned", "(JI)J"⟩
abbrev cX5_dividedBy : ByteArray := prog_7_method_16_code
def yX5_dividedBy : MethodName := ⟨RX5, "dividedBy", "(JI)J"⟩
abbrev cX5_asLong : ByteArray := prog_7_method_17_code
def yX5_asLong : MethodName := ⟨RX5, "asLong", "(J)J"⟩
abbrev cX5_level : ByteArray := prog_7_method_18_code
def yX5_level : MethodName := ⟨RX5, "level", "(J)J"⟩
abbrev cX5_holds : ByteArray := prog_7_method_19_code
def yX5_holds : MethodName := ⟨RX5, "holds", "(IJJ)Z"⟩
abbrev cX5_isBehind : ByteArray := prog_7_method_20_code
def yX5_isBehind : MethodName := ⟨RX5, "isBehind", "(JJ)Z"⟩
abbrev cX5_inOrder : ByteArray := prog_7_method_21_code
def yX5_inOrder : MethodName := ⟨RX5, "inOrder", "([J[I)I"⟩
abbrev cX5_greatest : ByteArray := prog_7_method_22_code
def yX5_greatest : MethodName := ⟨RX5, "greatest", "([J)J"⟩
abbrev cX5_sumOf : ByteArray := prog_7_method_23_code
def yX5_sumOf : MethodName := ⟨RX5, "sumOf", "([J)J"⟩
def RX6 : String := "RaceHouse$Pages"
def TX6 : u_T := fun k => match k with
  | 0 => ("RaceHouse$Pages", "bytes", "[I", true)
  | 1 => ("RaceHouse$Pages", "power", "I", false)
  | 2 => ("RaceHouse$Pages", "found", "[I", true)
  | _ => ("RaceHouse$Pages", "page", "[I", true)
def tyX6 : Nat → FieldType := fun k => match k with
  | 0 => .array .int
  | 1 => .int
  | 2 => .array .int
  | _ => .array .int
abbrev wsX60 : List Cond := u_ws RX6 TX6 4
theorem nmX6 : ∀ a, a < 4 → ∀ b, b < 4 → a ≠ b → (TX6 a).2.1 ≠ (TX6 b).2.1 := by decide +kernel
theorem tyX6_ok : ∀ k, k < 4 → parseFieldDescriptor (TX6 k).2.2.1 = some (tyX6 k) := by decide +kernel
abbrev cX6_init : ByteArray := prog_8_method_1_code
def yX6_init : MethodName := ⟨RX6, "<init>", "()V"⟩
abbrev cX6_sumOf : ByteArray := prog_8_method_2_code
def yX6_sumOf : MethodName := ⟨RX6, "sumOf", "([II)I"⟩
abbrev cX6_wordIn : ByteArray := prog_8_method_3_code
def yX6_wordIn : MethodName := ⟨RX6, "wordIn", "([II)I"⟩
abbrev cX6_putWord : ByteArray := prog_8_method_4_code
def yX6_putWord : MethodName := ⟨RX6, "putWord", "([III)V"⟩
abbrev cX6_valueIn : ByteArray := prog_8_method_5_code
def yX6_valueIn : MethodName := ⟨RX6, "valueIn", "(I)J"⟩
abbrev cX6_look : ByteArray := prog_8_method_6_code
def yX6_look : MethodName := ⟨RX6, "look", "()V"⟩
abbrev cX6_isEmpty : ByteArray := prog_8_method_7_code
def yX6_isEmpty : MethodName := ⟨RX6, "isEmpty", "(I)Z"⟩
abbrev cX6_write : ByteArray := prog_8_method_8_code
def yX6_write : MethodName := ⟨RX6, "write", "(J)I"⟩
abbrev cX6_writePage : ByteArray := prog_8_method_9_code
def yX6_writePage : MethodName := ⟨RX6, "writePage", "(I)Z"⟩
abbrev cX6_firstLike : ByteArray := prog_8_method_10_code
def yX6_firstLike : MethodName := ⟨RX6, "firstLike", "(I)I"⟩
abbrev cX6_sectorOfKept : ByteArray := prog_8_method_11_code
def yX6_sectorOfKept : MethodName := ⟨RX6, "sectorOfKept", "(I)I"⟩
abbrev cX6_keptBelow : ByteArray := prog_8_method_12_code
def yX6_keptBelow : MethodName := ⟨RX6, "keptBelow", "(I)I"⟩
abbrev cX6_howMany : ByteArray := prog_8_method_13_code
def yX6_howMany : MethodName := ⟨RX6, "howMany", "(I)I"⟩
abbrev cX6_isCounted : ByteArray := prog_8_method_14_code
def yX6_isCounted : MethodName := ⟨RX6, "isCounted", "(II)Z"⟩
def RX7 : String := "RaceHouse$Plan"
def TX7 : u_T := fun k => match k with
  | 0 => ("RaceHouse$Plan", "tape", "[C", true)
  | 1 => ("RaceHouse$Plan", "length", "I", false)
  | 2 => ("RaceHouse$Plan", "signs", "[C", true)
  | 3 => ("RaceHouse$Plan", "first", "[I", true)
  | 4 => ("RaceHouse$Plan", "second", "[I", true)
  | 5 => ("RaceHouse$Plan", "closing", "[I", true)
  | 6 => ("RaceHouse$Plan", "count", "I", false)
  | 7 => ("RaceHouse$Plan", "open", "[I", true)
  | 8 => ("RaceHouse$Plan", "depth", "I", false)
  | 9 => ("RaceHouse$Plan", "at", "I", false)
  | _ => ("RaceHouse$Plan", "tried", "Z", false)
def tyX7 : Nat → FieldType := fun k => match k with
  | 0 => .array .char
  | 1 => .int
  | 2 => .array .char
  | 3 => .array .int
  | 4 => .array .int
  | 5 => .array .int
  | 6 => .int
  | 7 => .array .int
  | 8 => .int
  | 9 => .int
  | _ => .boolean
abbrev wsX70 : List Cond := u_ws RX7 TX7 11
theorem nmX7 : ∀ a, a < 11 → ∀ b, b < 11 → a ≠ b → (TX7 a).2.1 ≠ (TX7 b).2.1 := by decide +kernel
theorem tyX7_ok : ∀ k, k < 11 → parseFieldDescriptor (TX7 k).2.2.1 = some (tyX7 k) := by decide +kernel
abbrev cX7_init : ByteArray := prog_9_method_1_code
def yX7_init : MethodName := ⟨RX7, "<init>", "()V"⟩
abbrev cX7_append : ByteArray := prog_9_method_2_code
def yX7_append : MethodName := ⟨RX7, "append", "(JI)Z"⟩
abbrev cX7_understand : ByteArray := prog_9_method_3_code
def yX7_understand : MethodName := ⟨RX7, "understand", "()I"⟩
abbrev cX7_understandPart : ByteArray := prog_9_method_4_code
def yX7_understandPart : MethodName := ⟨RX7, "understandPart", "(C)Z"⟩
abbrev cX7_passBlanks : ByteArray := prog_9_method_5_code
def yX7_passBlanks : MethodName := ⟨RX7, "passBlanks", "()V"⟩
abbrev cX7_begin : ByteArray := prog_9_method_6_code
def yX7_begin : MethodName := ⟨RX7, "begin", "(C)Z"⟩
abbrev cX7_isDigit : ByteArray := prog_9_method_7_code
def yX7_isDigit : MethodName := ⟨RX7, "isDigit", "(I)Z"⟩
abbrev cX7_digit : ByteArray := prog_9_method_8_code
def yX7_digit : MethodName := ⟨RX7, "digit", "(I[I)Z"⟩
abbrev cX7_number : ByteArray := prog_9_method_9_code
def yX7_number : MethodName := ⟨RX7, "number", "(ZI)Z"⟩
abbrev cX7_opened : ByteArray := prog_9_method_10_code
def yX7_opened : MethodName := ⟨RX7, "opened", "()Z"⟩
abbrev cX7_closed : ByteArray := prog_9_method_11_code
def yX7_closed : MethodName := ⟨RX7, "closed", "()Z"⟩
def RX8 : String := "RaceHouse$Rack"
def TX8 : u_T := fun k => match k with
  | 0 => ("RaceHouse$Thing", "type", "I", true)
  | 1 => ("RaceHouse$Rack", "admits", "I", true)
  | _ => ("RaceHouse$Rack", "spots", "[LRaceHouse$Thing;", true)
def tyX8 : Nat → FieldType := fun k => match k with
  | 0 => .int
  | 1 => .int
  | _ => .array (.object "RaceHouse$Thing")
abbrev wsX80 : List Cond := u_ws RX8 TX8 3
theorem nmX8 : ∀ a, a < 3 → ∀ b, b < 3 → a ≠ b → (TX8 a).2.1 ≠ (TX8 b).2.1 := by decide +kernel
theorem tyX8_ok : ∀ k, k < 3 → parseFieldDescriptor (TX8 k).2.2.1 = some (tyX8 k) := by decide +kernel
abbrev cX8_init : ByteArray := prog_10_method_1_code
def yX8_init : MethodName := ⟨RX8, "<init>", "(III)V"⟩
abbrev cX8_takes : ByteArray := prog_10_method_2_code
def yX8_takes : MethodName := ⟨RX8, "takes", "(LRaceHouse$Thing;)Z"⟩
abbrev cX8_taken : ByteArray := prog_10_method_3_code
def yX8_taken : MethodName := ⟨RX8, "taken", "()I"⟩
abbrev cX8_isLike : ByteArray := prog_10_method_4_code
def yX8_isLike : MethodName := ⟨RX8, "isLike", "(LRaceHouse$Rack;)Z"⟩
abbrev cX8_spotsMatch : ByteArray := prog_10_method_5_code
def yX8_spotsMatch : MethodName := ⟨RX8, "spotsMatch", "(LRaceHouse$Thing;LRaceHouse$Thing;)Z"⟩
def RX9 : String := "RaceHouse$Row"
def TX9 : u_T := fun k => match k with
  | 0 => ("RaceHouse$Thing", "type", "I", true)
  | _ => ("RaceHouse$Row", "items", "[J", true)
def tyX9 : Nat → FieldType := fun k => match k with
  | 0 => .int
  | _ => .array .long
abbrev wsX90 : List Cond := u_ws RX9 TX9 2
theorem nmX9 : ∀ a, a < 2 → ∀ b, b < 2 → a ≠ b → (TX9 a).2.1 ≠ (TX9 b).2.1 := by decide +kernel
theorem tyX9_ok : ∀ k, k < 2 → parseFieldDescriptor (TX9 k).2.2.1 = some (tyX9 k) := by decide +kernel
abbrev cX9_init : ByteArray := prog_11_method_1_code
def yX9_init : MethodName := ⟨RX9, "<init>", "(II)V"⟩
abbrev cX9_isLike : ByteArray := prog_11_method_2_code
def yX9_isLike : MethodName := ⟨RX9, "isLike", "(LRaceHouse$Row;)Z"⟩
def RX10 : String := "RaceHouse$Thing"
def TX10 : u_T := fun k => match k with
  | _ => ("", "", "", false)
def tyX10 : Nat → FieldType := fun k => match k with
  | _ => .int
abbrev wsX100 : List Cond := u_ws RX10 TX10 0
theorem nmX10 : ∀ a, a < 0 → ∀ b, b < 0 → a ≠ b → (TX10 a).2.1 ≠ (TX10 b).2.1 := by decide +kernel
theorem tyX10_ok : ∀ k, k < 0 → parseFieldDescriptor (TX10 k).2.2.1 = some (tyX10 k) := by decide +kernel
abbrev cX10_init : ByteArray := prog_12_method_1_code
def yX10_init : MethodName := ⟨RX10, "<init>", "(I)V"⟩
abbrev cX10_isOf : ByteArray := prog_12_method_2_code
def yX10_isOf : MethodName := ⟨RX10, "isOf", "(I)Z"⟩
def RX11 : String := "RaceHouse"
def TX11 : u_T := fun k => match k with
  | 0 => ("RaceHouse", "boxes", "[LRaceHouse$Thing;", true)
  | 1 => ("RaceHouse", "order", "[I", true)
  | 2 => ("RaceHouse", "rowsMade", "I", false)
  | 3 => ("RaceHouse", "gridsMade", "I", false)
  | 4 => ("RaceHouse", "membersMade", "I", false)
  | 5 => ("RaceHouse", "pensMade", "I", false)
  | 6 => ("RaceHouse", "shifted", "I", false)
  | 7 => ("RaceHouse", "latestFault", "I", false)
  | 8 => ("RaceHouse", "acts", "LRaceHouse$Acts;", true)
  | 9 => ("RaceHouse", "clocks", "LRaceHouse$Clocks;", true)
  | 10 => ("RaceHouse", "course", "LRaceHouse$Course;", true)
  | _ => ("RaceHouse", "paper", "LRaceHouse$Pages;", true)
def tyX11 : Nat → FieldType := fun k => match k with
  | 0 => .array (.object "RaceHouse$Thing")
  | 1 => .array .int
  | 2 => .int
  | 3 => .int
  | 4 => .int
  | 5 => .int
  | 6 => .int
  | 7 => .int
  | 8 => .object "RaceHouse$Acts"
  | 9 => .object "RaceHouse$Clocks"
  | 10 => .object "RaceHouse$Course"
  | _ => .object "RaceHouse$Pages"
abbrev wsX110 : List Cond := u_ws RX11 TX11 12
theorem nmX11 : ∀ a, a < 12 → ∀ b, b < 12 → a ≠ b → (TX11 a).2.1 ≠ (TX11 b).2.1 := by decide +kernel
theorem tyX11_ok : ∀ k, k < 12 → parseFieldDescriptor (TX11 k).2.2.1 = some (tyX11 k) := by decide +kernel
abbrev cX11_init : ByteArray := prog_1_method_1_code
def yX11_init : MethodName := ⟨RX11, "<init>", "()V"⟩
abbrev cX11_row : ByteArray := prog_1_method_2_code
def yX11_row : MethodName := ⟨RX11, "row", "(III)I"⟩
abbrev cX11_put : ByteArray := prog_1_method_3_code
def yX11_put : MethodName := ⟨RX11, "put", "(IIIJ)I"⟩
abbrev cX11_get : ByteArray := prog_1_method_4_code
def yX11_get : MethodName := ⟨RX11, "get", "(III)J"⟩
abbrev cX11_size : ByteArray := prog_1_method_5_code
def yX11_size : MethodName := ⟨RX11, "size", "(II)I"⟩
abbrev cX11_grid : ByteArray := prog_1_method_6_code
def yX11_grid : MethodName := ⟨RX11, "grid", "(III)I"⟩
abbrev cX11_split : ByteArray := prog_1_method_7_code
def yX11_split : MethodName := ⟨RX11, "split", "(III)J"⟩
abbrev cX11_setSplit : ByteArray := prog_1_method_8_code
def yX11_setSplit : MethodName := ⟨RX11, "setSplit", "(IIII)I"⟩
abbrev cX11_stepSplit : ByteArray := prog_1_method_9_code
def yX11_stepSplit : MethodName := ⟨RX11, "stepSplit", "(IIIZ)J"⟩
abbrev cX11_give : ByteArray := prog_1_method_10_code
def yX11_give : MethodName := ⟨RX11, "give", "(III)I"⟩
abbrev cX11_take : ByteArray := prog_1_method_11_code
def yX11_take : MethodName := ⟨RX11, "take", "(III)I"⟩
abbrev cX11_hold : ByteArray := prog_1_method_12_code
def yX11_hold : MethodName := ⟨RX11, "hold", "(II)I"⟩
abbrev cX11_is : ByteArray := prog_1_method_13_code
def yX11_is : MethodName := ⟨RX11, "is", "(II)I"⟩
abbrev cX11_alike : ByteArray := prog_1_method_14_code
def yX11_alike : MethodName := ⟨RX11, "alike", "(II)I"⟩
abbrev cX11_copy : ByteArray := prog_1_method_15_code
def yX11_copy : MethodName := ⟨RX11, "copy", "(IIZ)I"⟩
abbrev cX11_shift : ByteArray := prog_1_method_16_code
def yX11_shift : MethodName := ⟨RX11, "shift", "(IIIII)I"⟩
abbrev cX11_member : ByteArray := prog_1_method_17_code
def yX11_member : MethodName := ⟨RX11, "member", "(II)I"⟩
abbrev cX11_says : ByteArray := prog_1_method_18_code
def yX11_says : MethodName := ⟨RX11, "says", "(II)J"⟩
abbrev cX11_set : ByteArray := prog_1_method_19_code
def yX11_set : MethodName := ⟨RX11, "set", "(IIJ)I"⟩
abbrev cX11_field : ByteArray := prog_1_method_20_code
def yX11_field : MethodName := ⟨RX11, "field", "(II)J"⟩
abbrev cX11_step : ByteArray := prog_1_method_21_code
def yX11_step : MethodName := ⟨RX11, "step", "(III)J"⟩
abbrev cX11_link : ByteArray := prog_1_method_22_code
def yX11_link : MethodName := ⟨RX11, "link", "(III)I"⟩
abbrev cX11_team : ByteArray := prog_1_method_23_code
def yX11_team : MethodName := ⟨RX11, "team", "(I)I"⟩
abbrev cX11_pen : ByteArray := prog_1_method_24_code
def yX11_pen : MethodName := ⟨RX11, "pen", "(III)I"⟩
abbrev cX11_lead : ByteArray := prog_1_method_25_code
def yX11_lead : MethodName := ⟨RX11, "lead", "(III)I"⟩
abbrev cX11_out : ByteArray := prog_1_method_26_code
def yX11_out : MethodName := ⟨RX11, "out", "(III)I"⟩
abbrev cX11_asked : ByteArray := prog_1_method_27_code
def yX11_asked : MethodName := ⟨RX11, "asked", "(III)J"⟩
abbrev cX11_whole : ByteArray := prog_1_method_28_code
def yX11_whole : MethodName := ⟨RX11, "whole", "(IJJ)J"⟩
abbrev cX11_gap : ByteArray := prog_1_method_29_code
def yX11_gap : MethodName := ⟨RX11, "gap", "(II)J"⟩
abbrev cX11_test : ByteArray := prog_1_method_30_code
def yX11_test : MethodName := ⟨RX11, "test", "(IJJI)I"⟩
abbrev cX11_ranked : ByteArray := prog_1_method_31_code
def yX11_ranked : MethodName := ⟨RX11, "ranked", "(II)I"⟩
abbrev cX11_feed : ByteArray := prog_1_method_32_code
def yX11_feed : MethodName := ⟨RX11, "feed", "(JI)I"⟩
abbrev cX11_act : ByteArray := prog_1_method_33_code
def yX11_act : MethodName := ⟨RX11, "act", "()I"⟩
abbrev cX11_outcome : ByteArray := prog_1_method_34_code
def yX11_outcome : MethodName := ⟨RX11, "outcome", "(I)I"⟩
abbrev cX11_counter : ByteArray := prog_1_method_35_code
def yX11_counter : MethodName := ⟨RX11, "counter", "(I)J"⟩
abbrev cX11_slip : ByteArray := prog_1_method_36_code
def yX11_slip : MethodName := ⟨RX11, "slip", "(I)J"⟩
abbrev cX11_mark : ByteArray := prog_1_method_37_code
def yX11_mark : MethodName := ⟨RX11, "mark", "(III)I"⟩
abbrev cX11_anew : ByteArray := prog_1_method_38_code
def yX11_anew : MethodName := ⟨RX11, "anew", "(I)I"⟩
abbrev cX11_hut : ByteArray := prog_1_method_39_code
def yX11_hut : MethodName := ⟨RX11, "hut", "(III)J"⟩
abbrev cX11_chip : ByteArray := prog_1_method_40_code
def yX11_chip : MethodName := ⟨RX11, "chip", "(II)I"⟩
abbrev cX11_read : ByteArray := prog_1_method_41_code
def yX11_read : MethodName := ⟨RX11, "read", "(IIII)I"⟩
abbrev cX11_rules : ByteArray := prog_1_method_42_code
def yX11_rules : MethodName := ⟨RX11, "rules", "(III)I"⟩
abbrev cX11_readOf : ByteArray := prog_1_method_43_code
def yX11_readOf : MethodName := ⟨RX11, "readOf", "(I)I"⟩
abbrev cX11_passes : ByteArray := prog_1_method_44_code
def yX11_passes : MethodName := ⟨RX11, "passes", "(II)I"⟩
abbrev cX11_pass : ByteArray := prog_1_method_45_code
def yX11_pass : MethodName := ⟨RX11, "pass", "(III)J"⟩
abbrev cX11_place : ByteArray := prog_1_method_46_code
def yX11_place : MethodName := ⟨RX11, "place", "(II)I"⟩
abbrev cX11_fit : ByteArray := prog_1_method_47_code
def yX11_fit : MethodName := ⟨RX11, "fit", "(I)I"⟩
abbrev cX11_used : ByteArray := prog_1_method_48_code
def yX11_used : MethodName := ⟨RX11, "used", "(II)J"⟩
abbrev cX11_gun : ByteArray := prog_1_method_49_code
def yX11_gun : MethodName := ⟨RX11, "gun", "(II)I"⟩
abbrev cX11_join : ByteArray := prog_1_method_50_code
def yX11_join : MethodName := ⟨RX11, "join", "(III)I"⟩
abbrev cX11_start : ByteArray := prog_1_method_51_code
def yX11_start : MethodName := ⟨RX11, "start", "(I)J"⟩
abbrev cX11_time : ByteArray := prog_1_method_52_code
def yX11_time : MethodName := ⟨RX11, "time", "(IIII)I"⟩
abbrev cX11_merged : ByteArray := prog_1_method_53_code
def yX11_merged : MethodName := ⟨RX11, "merged", "(II)J"⟩
abbrev cX11_source : ByteArray := prog_1_method_54_code
def yX11_source : MethodName := ⟨RX11, "source", "(II)I"⟩
abbrev cX11_penalty : ByteArray := prog_1_method_55_code
def yX11_penalty : MethodName := ⟨RX11, "penalty", "(III)I"⟩
abbrev cX11_back : ByteArray := prog_1_method_56_code
def yX11_back : MethodName := ⟨RX11, "back", "(I)I"⟩
abbrev cX11_state : ByteArray := prog_1_method_57_code
def yX11_state : MethodName := ⟨RX11, "state", "(I)I"⟩
abbrev cX11_result : ByteArray := prog_1_method_58_code
def yX11_result : MethodName := ⟨RX11, "result", "(I)J"⟩
abbrev cX11_rank : ByteArray := prog_1_method_59_code
def yX11_rank : MethodName := ⟨RX11, "rank", "(I)I"⟩
abbrev cX11_best : ByteArray := prog_1_method_60_code
def yX11_best : MethodName := ⟨RX11, "best", "(II)J"⟩
abbrev cX11_keep : ByteArray := prog_1_method_61_code
def yX11_keep : MethodName := ⟨RX11, "keep", "(J)I"⟩
abbrev cX11_cut : ByteArray := prog_1_method_62_code
def yX11_cut : MethodName := ⟨RX11, "cut", "(I)I"⟩
abbrev cX11_alter : ByteArray := prog_1_method_63_code
def yX11_alter : MethodName := ⟨RX11, "alter", "(III)I"⟩
abbrev cX11_doubled : ByteArray := prog_1_method_64_code
def yX11_doubled : MethodName := ⟨RX11, "doubled", "(II)I"⟩
abbrev cX11_kept : ByteArray := prog_1_method_65_code
def yX11_kept : MethodName := ⟨RX11, "kept", "(I)J"⟩
abbrev cX11_pages : ByteArray := prog_1_method_66_code
def yX11_pages : MethodName := ⟨RX11, "pages", "(I)I"⟩
abbrev cX11_byteOf : ByteArray := prog_1_method_67_code
def yX11_byteOf : MethodName := ⟨RX11, "byteOf", "(II)I"⟩
abbrev cX11_told : ByteArray := prog_1_method_68_code
def yX11_told : MethodName := ⟨RX11, "told", "(I)I"⟩
abbrev cX11_fault : ByteArray := prog_1_method_69_code
def yX11_fault : MethodName := ⟨RX11, "fault", "()I"⟩
abbrev cX11_within : ByteArray := prog_1_method_70_code
def yX11_within : MethodName := ⟨RX11, "within", "(III)Z"⟩
abbrev cX11_isBox : ByteArray := prog_1_method_71_code
def yX11_isBox : MethodName := ⟨RX11, "isBox", "(I)Z"⟩
abbrev cX11_isRowType : ByteArray := prog_1_method_72_code
def yX11_isRowType : MethodName := ⟨RX11, "isRowType", "(I)Z"⟩
abbrev cX11_isAsk : ByteArray := prog_1_method_73_code
def yX11_isAsk : MethodName := ⟨RX11, "isAsk", "(I)Z"⟩
abbrev cX11_isField : ByteArray := prog_1_method_74_code
def yX11_isField : MethodName := ⟨RX11, "isField", "(I)Z"⟩
abbrev cX11_isLink : ByteArray := prog_1_method_75_code
def yX11_isLink : MethodName := ⟨RX11, "isLink", "(I)Z"⟩
abbrev cX11_isMat : ByteArray := prog_1_method_76_code
def yX11_isMat : MethodName := ⟨RX11, "isMat", "(I)Z"⟩
abbrev cX11_isBib : ByteArray := prog_1_method_77_code
def yX11_isBib : MethodName := ⟨RX11, "isBib", "(I)Z"⟩
abbrev cX11_isWave : ByteArray := prog_1_method_78_code
def yX11_isWave : MethodName := ⟨RX11, "isWave", "(I)Z"⟩
abbrev cX11_isClub : ByteArray := prog_1_method_79_code
def yX11_isClub : MethodName := ⟨RX11, "isClub", "(I)Z"⟩
abbrev cX11_isPlace : ByteArray := prog_1_method_80_code
def yX11_isPlace : MethodName := ⟨RX11, "isPlace", "(I)Z"⟩
abbrev cX11_isMoment : ByteArray := prog_1_method_81_code
def yX11_isMoment : MethodName := ⟨RX11, "isMoment", "(I)Z"⟩
abbrev cX11_isMomentOrNone : ByteArray := prog_1_method_82_code
def yX11_isMomentOrNone : MethodName := ⟨RX11, "isMomentOrNone", "(I)Z"⟩
abbrev cX11_isSector : ByteArray := prog_1_method_83_code
def yX11_isSector : MethodName := ⟨RX11, "isSector", "(I)Z"⟩
abbrev cX11_isByteOfPage : ByteArray := prog_1_method_84_code
def yX11_isByteOfPage : MethodName := ⟨RX11, "isByteOfPage", "(I)Z"⟩
abbrev cX11_failure : ByteArray := prog_1_method_85_code
def yX11_failure : MethodName := ⟨RX11, "failure", "()I"⟩
abbrev cX11_failed : ByteArray := prog_1_method_86_code
def yX11_failed : MethodName := ⟨RX11, "failed", "(I)I"⟩
abbrev cX11_lost : ByteArray := prog_1_method_87_code
def yX11_lost : MethodName := ⟨RX11, "lost", "(I)J"⟩
abbrev cX11_castFails : ByteArray := prog_1_method_88_code
def yX11_castFails : MethodName := ⟨RX11, "castFails", "(LRaceHouse$Thing;I)Z"⟩
abbrev cX11_rowWithItem : ByteArray := prog_1_method_89_code
def yX11_rowWithItem : MethodName := ⟨RX11, "rowWithItem", "(LRaceHouse$Thing;II)LRaceHouse$Row;"⟩
abbrev cX11_rackWithSpot : ByteArray := prog_1_method_90_code
def yX11_rackWithSpot : MethodName := ⟨RX11, "rackWithSpot", "(LRaceHouse$Thing;II)LRaceHouse$Rack;"⟩
abbrev cX11_rowOfGrid : ByteArray := prog_1_method_91_code
def yX11_rowOfGrid : MethodName := ⟨RX11, "rowOfGrid", "(LRaceHouse$Thing;II)LRaceHouse$Row;"⟩
abbrev cX11_realRow : ByteArray := prog_1_method_92_code
def yX11_realRow : MethodName := ⟨RX11, "realRow", "(LRaceHouse$Thing;)LRaceHouse$Row;"⟩
abbrev cX11_memberOf : ByteArray := prog_1_method_93_code
def yX11_memberOf : MethodName := ⟨RX11, "memberOf", "(LRaceHouse$Thing;I)LRaceHouse$Member;"⟩
abbrev cX11_entrantIn : ByteArray := prog_1_method_94_code
def yX11_entrantIn : MethodName := ⟨RX11, "entrantIn", "(I)LRaceHouse$Member;"⟩
abbrev cX11_answerOf : ByteArray := prog_1_method_95_code
def yX11_answerOf : MethodName := ⟨RX11, "answerOf", "(LRaceHouse$Thing;I)J"⟩
abbrev cX11_newRow : ByteArray := prog_1_method_96_code
def yX11_newRow : MethodName := ⟨RX11, "newRow", "(II)LRaceHouse$Row;"⟩
abbrev cX11_newGrid : ByteArray := prog_1_method_97_code
def yX11_newGrid : MethodName := ⟨RX11, "newGrid", "(I)LRaceHouse$Rack;"⟩
abbrev cX11_newPen : ByteArray := prog_1_method_98_code
def yX11_newPen : MethodName := ⟨RX11, "newPen", "(II)LRaceHouse$Rack;"⟩
abbrev cX11_newMember : ByteArray := prog_1_method_99_code
def yX11_newMember : MethodName := ⟨RX11, "newMember", "(I)LRaceHouse$Member;"⟩
abbrev cX11_hasRoomForCopy : ByteArray := prog_1_method_100_code
def yX11_hasRoomForCopy : MethodName := ⟨RX11, "hasRoomForCopy", "(LRaceHouse$Thing;Z)Z"⟩
abbrev cX11_copyOf : ByteArray := prog_1_method_101_code
def yX11_copyOf : MethodName := ⟨RX11, "copyOf", "(LRaceHouse$Thing;Z)LRaceHouse$Thing;"⟩
abbrev cX11_copyOfRow : ByteArray := prog_1_method_102_code
def yX11_copyOfRow : MethodName := ⟨RX11, "copyOfRow", "(LRaceHouse$Row;)LRaceHouse$Row;"⟩
abbrev cX11_copyOfMember : ByteArray := prog_1_method_103_code
def yX11_copyOfMember : MethodName := ⟨RX11, "copyOfMember", "(LRaceHouse$Member;)LRaceHouse$Member;"⟩
abbrev cX11_copyOfRack : ByteArray := prog_1_method_104_code
def yX11_copyOfRack : MethodName := ⟨RX11, "copyOfRack", "(LRaceHouse$Rack;Z)LRaceHouse$Rack;"⟩
abbrev cX11_storeIn : ByteArray := prog_1_method_105_code
def yX11_storeIn : MethodName := ⟨RX11, "storeIn", "(LRaceHouse$Rack;ILRaceHouse$Thing;)I"⟩
abbrev cX11_reaches : ByteArray := prog_1_method_106_code
def yX11_reaches : MethodName := ⟨RX11, "reaches", "(III)Z"⟩
abbrev cX11_shiftItems : ByteArray := prog_1_method_107_code
def yX11_shiftItems : MethodName := ⟨RX11, "shiftItems", "(LRaceHouse$Row;ILRaceHouse$Row;II)I"⟩
abbrev cX11_shiftSpots : ByteArray := prog_1_method_108_code
def yX11_shiftSpots : MethodName := ⟨RX11, "shiftSpots", "(LRaceHouse$Rack;ILRaceHouse$Rack;II)I"⟩
abbrev cX11_areLike : ByteArray := prog_1_method_109_code
def yX11_areLike : MethodName := ⟨RX11, "areLike", "(LRaceHouse$Thing;LRaceHouse$Thing;)Z"⟩
abbrev cX11_cutTo : ByteArray := prog_1_method_110_code
def yX11_cutTo : MethodName := ⟨RX11, "cutTo", "(IJ)J"⟩
abbrev cX11_timesFraction : ByteArray := prog_1_method_111_code
def yX11_timesFraction : MethodName := ⟨RX11, "timesFraction", "(III)J"⟩
def RX12 : String := "RaceHouseModel"
def TX12 : u_T := fun k => match k with
  | 0 => ("RaceHouseModel", "thrown", "I", false)
  | 1 => ("RaceHouseModel", "lastFault", "I", false)
  | 2 => ("RaceHouseModel", "box", "[I", true)
  | 3 => ("RaceHouseModel", "rows", "I", false)
  | 4 => ("RaceHouseModel", "rowType", "[I", true)
  | 5 => ("RaceHouseModel", "rowLong", "[I", true)
  | 6 => ("RaceHouseModel", "item", "[J", true)
  | 7 => ("RaceHouseModel", "grids", "I", false)
  | 8 => ("RaceHouseModel", "gridLong", "[I", true)
  | 9 => ("RaceHouseModel", "gridRow", "[I", true)
  | 10 => ("RaceHouseModel", "members", "I", false)
  | 11 => ("RaceHouseModel", "type", "[I", true)
  | 12 => ("RaceHouseModel", "field", "[J", true)
  | 13 => ("RaceHouseModel", "link", "[I", true)
  | 14 => ("RaceHouseModel", "born", "[I", true)
  | 15 => ("RaceHouseModel", "pens", "I", false)
  | 16 => ("RaceHouseModel", "penType", "[I", true)
  | 17 => ("RaceHouseModel", "penLong", "[I", true)
  | 18 => ("RaceHouseModel", "penSpot", "[I", true)
  | 19 => ("RaceHouseModel", "cellAt", "I", false)
  | 20 => ("RaceHouseModel", "went", "I", false)
  | 21 => ("RaceHouseModel", "carried", "[J", true)
  | 22 => ("RaceHouseModel", "isMet", "[Z", true)
  | 23 => ("RaceHouseModel", "inOrder", "[D", true)
  | 24 => ("RaceHouseModel", "tape", "[I", true)
  | 25 => ("RaceHouseModel", "taped", "I", false)
  | 26 => ("RaceHouseModel", "counter", "[I", true)
  | 27 => ("RaceHouseModel", "slip", "[I", true)
  | 28 => ("RaceHouseModel", "slips", "I", false)
  | 29 => ("RaceHouseModel", "counterWas", "[I", true)
  | 30 => ("RaceHouseModel", "slipWas", "[I", true)
  | 31 => ("RaceHouseModel", "outcome", "[I", true)
  | 32 => ("RaceHouseModel", "steps", "I", false)
  | 33 => ("RaceHouseModel", "op", "[I", true)
  | 34 => ("RaceHouseModel", "one", "[I", true)
  | 35 => ("RaceHouseModel", "two", "[I", true)
  | 36 => ("RaceHouseModel", "end", "[I", true)
  | 37 => ("RaceHouseModel", "at", "I", false)
  | 38 => ("RaceHouseModel", "wrong", "I", false)
  | 39 => ("RaceHouseModel", "number", "I", false)
  | 40 => ("RaceHouseModel", "open", "[I", true)
  | 41 => ("RaceHouseModel", "opened", "I", false)
  | 42 => ("RaceHouseModel", "way", "[I", true)
  | 43 => ("RaceHouseModel", "times", "[I", true)
  | 44 => ("RaceHouseModel", "pendingFault", "[I", true)
  | 45 => ("RaceHouseModel", "pendingAnswer", "[I", true)
  | 46 => ("RaceHouseModel", "ways", "I", false)
  | 47 => ("RaceHouseModel", "held", "[I", true)
  | 48 => ("RaceHouseModel", "lent", "[I", true)
  | 49 => ("RaceHouseModel", "lents", "I", false)
  | 50 => ("RaceHouseModel", "fault0", "I", false)
  | 51 => ("RaceHouseModel", "answer0", "I", false)
  | 52 => ("RaceHouseModel", "spent", "Z", false)
  | 53 => ("RaceHouseModel", "begun", "I", false)
  | 54 => ("RaceHouseModel", "pushed", "I", false)
  | 55 => ("RaceHouseModel", "wakings", "I", false)
  | 56 => ("RaceHouseModel", "deepest", "I", false)
  | 57 => ("RaceHouseModel", "lines", "[I", true)
  | 58 => ("RaceHouseModel", "marks", "[I", true)
  | 59 => ("RaceHouseModel", "markLocal", "[I", true)
  | 60 => ("RaceHouseModel", "markHut", "[I", true)
  | 61 => ("RaceHouseModel", "unread", "I", false)
  | 62 => ("RaceHouseModel", "chipOf", "[I", true)
  | 63 => ("RaceHouseModel", "reads", "I", false)
  | 64 => ("RaceHouseModel", "readMat", "[I", true)
  | 65 => ("RaceHouseModel", "readLine", "[I", true)
  | 66 => ("RaceHouseModel", "readChip", "[I", true)
  | 67 => ("RaceHouseModel", "readLocal", "[I", true)
  | 68 => ("RaceHouseModel", "readStrength", "[I", true)
  | 69 => ("RaceHouseModel", "gap0", "I", false)
  | 70 => ("RaceHouseModel", "leastStrength", "I", false)
  | 71 => ("RaceHouseModel", "passRule", "I", false)
  | 72 => ("RaceHouseModel", "sorted", "[I", true)
  | 73 => ("RaceHouseModel", "sortedTime", "[J", true)
  | 74 => ("RaceHouseModel", "passTime", "[J", true)
  | 75 => ("RaceHouseModel", "passMany", "I", false)
  | 76 => ("RaceHouseModel", "places", "I", false)
  | 77 => ("RaceHouseModel", "placeMat", "[I", true)
  | 78 => ("RaceHouseModel", "placeLeast", "[I", true)
  | 79 => ("RaceHouseModel", "gun", "[I", true)
  | 80 => ("RaceHouseModel", "waveOf", "[I", true)
  | 81 => ("RaceHouseModel", "clubOf", "[I", true)
  | 82 => ("RaceHouseModel", "timeAt", "[I", true)
  | 83 => ("RaceHouseModel", "handMany", "[I", true)
  | 84 => ("RaceHouseModel", "handTime", "[I", true)
  | 85 => ("RaceHouseModel", "penalties", "I", false)
  | 86 => ("RaceHouseModel", "penaltyBib", "[I", true)
  | 87 => ("RaceHouseModel", "penaltyArticle", "[I", true)
  | 88 => ("RaceHouseModel", "penaltyMs", "[I", true)
  | 89 => ("RaceHouseModel", "isBack", "[Z", true)
  | 90 => ("RaceHouseModel", "key", "[J", true)
  | 91 => ("RaceHouseModel", "timeBy", "[J", true)
  | 92 => ("RaceHouseModel", "keys", "[I", true)
  | 93 => ("RaceHouseModel", "reach", "[I", true)
  | 94 => ("RaceHouseModel", "usedTime", "[J", true)
  | 95 => ("RaceHouseModel", "usedMany", "I", false)
  | 96 => ("RaceHouseModel", "isOut", "Z", false)
  | 97 => ("RaceHouseModel", "told34", "I", false)
  | 98 => ("RaceHouseModel", "added", "J", false)
  | 99 => ("RaceHouseModel", "clubResult", "[J", true)
  | 100 => ("RaceHouseModel", "sector", "[I", true)
  | _ => ("RaceHouseModel", "power", "I", false)
def tyX12 : Nat → FieldType := fun k => match k with
  | 0 => .int
  | 1 => .int
  | 2 => .array .int
  | 3 => .int
  | 4 => .array .int
  | 5 => .array .int
  | 6 => .array .long
  | 7 => .int
  | 8 => .array .int
  | 9 => .array .int
  | 10 => .int
  | 11 => .array .int
  | 12 => .array .long
  | 13 => .array .int
  | 14 => .array .int
  | 15 => .int
  | 16 => .array .int
  | 17 => .array .int
  | 18 => .array .int
  | 19 => .int
  | 20 => .int
  | 21 => .array .long
  | 22 => .array .boolean
  | 23 => .array .double
  | 24 => .array .int
  | 25 => .int
  | 26 => .array .int
  | 27 => .array .int
  | 28 => .int
  | 29 => .array .int
  | 30 => .array .int
  | 31 => .array .int
  | 32 => .int
  | 33 => .array .int
  | 34 => .array .int
  | 35 => .array .int
  | 36 => .array .int
  | 37 => .int
  | 38 => .int
  | 39 => .int
  | 40 => .array .int
  | 41 => .int
  | 42 => .array .int
  | 43 => .array .int
  | 44 => .array .int
  | 45 => .array .int
  | 46 => .int
  | 47 => .array .int
  | 48 => .array .int
  | 49 => .int
  | 50 => .int
  | 51 => .int
  | 52 => .boolean
  | 53 => .int
  | 54 => .int
  | 55 => .int
  | 56 => .int
  | 57 => .array .int
  | 58 => .array .int
  | 59 => .array .int
  | 60 => .array .int
  | 61 => .int
  | 62 => .array .int
  | 63 => .int
  | 64 => .array .int
  | 65 => .array .int
  | 66 => .array .int
  | 67 => .array .int
  | 68 => .array .int
  | 69 => .int
  | 70 => .int
  | 71 => .int
  | 72 => .array .int
  | 73 => .array .long
  | 74 => .array .long
  | 75 => .int
  | 76 => .int
  | 77 => .array .int
  | 78 => .array .int
  | 79 => .array .int
  | 80 => .array .int
  | 81 => .array .int
  | 82 => .array .int
  | 83 => .array .int
  | 84 => .array .int
  | 85 => .int
  | 86 => .array .int
  | 87 => .array .int
  | 88 => .array .int
  | 89 => .array .boolean
  | 90 => .array .long
  | 91 => .array .long
  | 92 => .array .int
  | 93 => .array .int
  | 94 => .array .long
  | 95 => .int
  | 96 => .boolean
  | 97 => .int
  | 98 => .long
  | 99 => .array .long
  | 100 => .array .int
  | _ => .int
abbrev wsX120 : List Cond := u_ws RX12 TX12 102
theorem nmX12 : ∀ a, a < 102 → ∀ b, b < 102 → a ≠ b → (TX12 a).2.1 ≠ (TX12 b).2.1 := by decide +kernel
theorem tyX12_ok : ∀ k, k < 102 → parseFieldDescriptor (TX12 k).2.2.1 = some (tyX12 k) := by decide +kernel
abbrev cX12_init : ByteArray := prog_14_method_2_code
def yX12_init : MethodName := ⟨RX12, "<init>", "()V"⟩
abbrev cX12_in : ByteArray := prog_14_method_3_code
def yX12_in : MethodName := ⟨RX12, "in", "(JJJ)Z"⟩
abbrev cX12_fails : ByteArray := prog_14_method_4_code
def yX12_fails : MethodName := ⟨RX12, "fails", "(I)I"⟩
abbrev cX12_lost : ByteArray := prog_14_method_5_code
def yX12_lost : MethodName := ⟨RX12, "lost", "(I)J"⟩
abbrev cX12_real : ByteArray := prog_14_method_6_code
def yX12_real : MethodName := ⟨RX12, "real", "(J)D"⟩
abbrev cX12_bits : ByteArray := prog_14_method_7_code
def yX12_bits : MethodName := ⟨RX12, "bits", "(D)J"⟩
abbrev cX12_isBox : ByteArray := prog_14_method_8_code
def yX12_isBox : MethodName := ⟨RX12, "isBox", "(I)Z"⟩
abbrev cX12_isRow : ByteArray := prog_14_method_9_code
def yX12_isRow : MethodName := ⟨RX12, "isRow", "(I)Z"⟩
abbrev cX12_isGrid : ByteArray := prog_14_method_10_code
def yX12_isGrid : MethodName := ⟨RX12, "isGrid", "(I)Z"⟩
abbrev cX12_isMember : ByteArray := prog_14_method_11_code
def yX12_isMember : MethodName := ⟨RX12, "isMember", "(I)Z"⟩
abbrev cX12_under : ByteArray := prog_14_method_12_code
def yX12_under : MethodName := ⟨RX12, "under", "(II)Z"⟩
abbrev cX12_isOf : ByteArray := prog_14_method_13_code
def yX12_isOf : MethodName := ⟨RX12, "isOf", "(II)Z"⟩
abbrev cX12_cast : ByteArray := prog_14_method_14_code
def yX12_cast : MethodName := ⟨RX12, "cast", "(II)I"⟩
abbrev cX12_newRow : ByteArray := prog_14_method_15_code
def yX12_newRow : MethodName := ⟨RX12, "newRow", "(II)I"⟩
abbrev cX12_put0 : ByteArray := prog_14_method_16_code
def yX12_put0 : MethodName := ⟨RX12, "put0", "(IJ)J"⟩
abbrev cX12_row : ByteArray := prog_14_method_17_code
def yX12_row : MethodName := ⟨RX12, "row", "(III)I"⟩
abbrev cX12_against : ByteArray := prog_14_method_18_code
def yX12_against : MethodName := ⟨RX12, "against", "(III)I"⟩
abbrev cX12_put : ByteArray := prog_14_method_19_code
def yX12_put : MethodName := ⟨RX12, "put", "(IIIJ)I"⟩
abbrev cX12_get : ByteArray := prog_14_method_20_code
def yX12_get : MethodName := ⟨RX12, "get", "(III)J"⟩
abbrev cX12_longOf : ByteArray := prog_14_method_21_code
def yX12_longOf : MethodName := ⟨RX12, "longOf", "(I)I"⟩
abbrev cX12_size : ByteArray := prog_14_method_22_code
def yX12_size : MethodName := ⟨RX12, "size", "(II)I"⟩
abbrev cX12_grid : ByteArray := prog_14_method_23_code
def yX12_grid : MethodName := ⟨RX12, "grid", "(III)I"⟩
abbrev cX12_splitAgainst : ByteArray := prog_14_method_24_code
def yX12_splitAgainst : MethodName := ⟨RX12, "splitAgainst", "(III)I"⟩
abbrev cX12_split : ByteArray := prog_14_method_25_code
def yX12_split : MethodName := ⟨RX12, "split", "(III)J"⟩
abbrev cX12_setSplit : ByteArray := prog_14_method_26_code
def yX12_setSplit : MethodName := ⟨RX12, "setSplit", "(IIII)I"⟩
abbrev cX12_stepSplit : ByteArray := prog_14_method_27_code
def yX12_stepSplit : MethodName := ⟨RX12, "stepSplit", "(IIIZ)J"⟩
abbrev cX12_give : ByteArray := prog_14_method_28_code
def yX12_give : MethodName := ⟨RX12, "give", "(III)I"⟩
abbrev cX12_take : ByteArray := prog_14_method_29_code
def yX12_take : MethodName := ⟨RX12, "take", "(III)I"⟩
abbrev cX12_hold : ByteArray := prog_14_method_30_code
def yX12_hold : MethodName := ⟨RX12, "hold", "(II)I"⟩
abbrev cX12_is : ByteArray := prog_14_method_31_code
def yX12_is : MethodName := ⟨RX12, "is", "(II)I"⟩
abbrev cX12_areLikeRows : ByteArray := prog_14_method_32_code
def yX12_areLikeRows : MethodName := ⟨RX12, "areLikeRows", "(II)Z"⟩
abbrev cX12_areLikeGrids : ByteArray := prog_14_method_33_code
def yX12_areLikeGrids : MethodName := ⟨RX12, "areLikeGrids", "(II)Z"⟩
abbrev cX12_areLikeMembers : ByteArray := prog_14_method_34_code
def yX12_areLikeMembers : MethodName := ⟨RX12, "areLikeMembers", "(II)Z"⟩
abbrev cX12_areLikePens : ByteArray := prog_14_method_35_code
def yX12_areLikePens : MethodName := ⟨RX12, "areLikePens", "(II)Z"⟩
abbrev cX12_alike : ByteArray := prog_14_method_36_code
def yX12_alike : MethodName := ⟨RX12, "alike", "(II)I"⟩
abbrev cX12_copyOfRow : ByteArray := prog_14_method_37_code
def yX12_copyOfRow : MethodName := ⟨RX12, "copyOfRow", "(I)I"⟩
abbrev cX12_copyOfGrid : ByteArray := prog_14_method_38_code
def yX12_copyOfGrid : MethodName := ⟨RX12, "copyOfGrid", "(IZ)I"⟩
abbrev cX12_copyOfMember : ByteArray := prog_14_method_39_code
def yX12_copyOfMember : MethodName := ⟨RX12, "copyOfMember", "(I)I"⟩
abbrev cX12_copyOfPen : ByteArray := prog_14_method_40_code
def yX12_copyOfPen : MethodName := ⟨RX12, "copyOfPen", "(I)I"⟩
abbrev cX12_hasNoRoom : ByteArray := prog_14_method_41_code
def yX12_hasNoRoom : MethodName := ⟨RX12, "hasNoRoom", "(IZ)Z"⟩
abbrev cX12_copy : ByteArray := prog_14_method_42_code
def yX12_copy : MethodName := ⟨RX12, "copy", "(IIZ)I"⟩
abbrev cX12_partOf : ByteArray := prog_14_method_43_code
def yX12_partOf : MethodName := ⟨RX12, "partOf", "(II)I"⟩
abbrev cX12_takes : ByteArray := prog_14_method_44_code
def yX12_takes : MethodName := ⟨RX12, "takes", "(II)Z"⟩
abbrev cX12_lays : ByteArray := prog_14_method_45_code
def yX12_lays : MethodName := ⟨RX12, "lays", "(III)V"⟩
abbrev cX12_shift : ByteArray := prog_14_method_46_code
def yX12_shift : MethodName := ⟨RX12, "shift", "(IIIII)I"⟩
abbrev cX12_newMember : ByteArray := prog_14_method_47_code
def yX12_newMember : MethodName := ⟨RX12, "newMember", "(I)I"⟩
abbrev cX12_turns : ByteArray := prog_14_method_48_code
def yX12_turns : MethodName := ⟨RX12, "turns", "(III)I"⟩
abbrev cX12_reach : ByteArray := prog_14_method_49_code
def yX12_reach : MethodName := ⟨RX12, "reach", "(III)I"⟩
abbrev cX12_glance : ByteArray := prog_14_method_50_code
def yX12_glance : MethodName := ⟨RX12, "glance", "(II)I"⟩
abbrev cX12_load : ByteArray := prog_14_method_51_code
def yX12_load : MethodName := ⟨RX12, "load", "(III)I"⟩
abbrev cX12_duty : ByteArray := prog_14_method_52_code
def yX12_duty : MethodName := ⟨RX12, "duty", "(I)I"⟩
abbrev cX12_member : ByteArray := prog_14_method_53_code
def yX12_member : MethodName := ⟨RX12, "member", "(II)I"⟩
abbrev cX12_saidBy : ByteArray := prog_14_method_54_code
def yX12_saidBy : MethodName := ⟨RX12, "saidBy", "(II)J"⟩
abbrev cX12_says : ByteArray := prog_14_method_55_code
def yX12_says : MethodName := ⟨RX12, "says", "(II)J"⟩
abbrev cX12_kindOf : ByteArray := prog_14_method_56_code
def yX12_kindOf : MethodName := ⟨RX12, "kindOf", "(I)I"⟩
abbrev cX12_set : ByteArray := prog_14_method_57_code
def yX12_set : MethodName := ⟨RX12, "set", "(IIJ)I"⟩
abbrev cX12_field : ByteArray := prog_14_method_58_code
def yX12_field : MethodName := ⟨RX12, "field", "(II)J"⟩
abbrev cX12_step : ByteArray := prog_14_method_59_code
def yX12_step : MethodName := ⟨RX12, "step", "(III)J"⟩
abbrev cX12_link : ByteArray := prog_14_method_60_code
def yX12_link : MethodName := ⟨RX12, "link", "(III)I"⟩
abbrev cX12_team : ByteArray := prog_14_method_61_code
def yX12_team : MethodName := ⟨RX12, "team", "(I)I"⟩
abbrev cX12_pen : ByteArray := prog_14_method_62_code
def yX12_pen : MethodName := ⟨RX12, "pen", "(III)I"⟩
abbrev cX12_spotAgainst : ByteArray := prog_14_method_63_code
def yX12_spotAgainst : MethodName := ⟨RX12, "spotAgainst", "(II)I"⟩
abbrev cX12_lead : ByteArray := prog_14_method_64_code
def yX12_lead : MethodName := ⟨RX12, "lead", "(III)I"⟩
abbrev cX12_out : ByteArray := prog_14_method_65_code
def yX12_out : MethodName := ⟨RX12, "out", "(III)I"⟩
abbrev cX12_asked : ByteArray := prog_14_method_66_code
def yX12_asked : MethodName := ⟨RX12, "asked", "(III)J"⟩
abbrev cX12_rounded : ByteArray := prog_14_method_67_code
def yX12_rounded : MethodName := ⟨RX12, "rounded", "(JJ)J"⟩
abbrev cX12_whole : ByteArray := prog_14_method_68_code
def yX12_whole : MethodName := ⟨RX12, "whole", "(IJJ)J"⟩
abbrev cX12_isEndless : ByteArray := prog_14_method_69_code
def yX12_isEndless : MethodName := ⟨RX12, "isEndless", "(D)Z"⟩
abbrev cX12_realAt : ByteArray := prog_14_method_70_code
def yX12_realAt : MethodName := ⟨RX12, "realAt", "(II)D"⟩
abbrev cX12_realAgainst : ByteArray := prog_14_method_71_code
def yX12_realAgainst : MethodName := ⟨RX12, "realAgainst", "(I)I"⟩
abbrev cX12_gap : ByteArray := prog_14_method_72_code
def yX12_gap : MethodName := ⟨RX12, "gap", "(II)J"⟩
abbrev cX12_holds : ByteArray := prog_14_method_73_code
def yX12_holds : MethodName := ⟨RX12, "holds", "(IDD)Z"⟩
abbrev cX12_plain : ByteArray := prog_14_method_74_code
def yX12_plain : MethodName := ⟨RX12, "plain", "(J)D"⟩
abbrev cX12_test : ByteArray := prog_14_method_75_code
def yX12_test : MethodName := ⟨RX12, "test", "(IJJI)I"⟩
abbrev cX12_ranked : ByteArray := prog_14_method_76_code
def yX12_ranked : MethodName := ⟨RX12, "ranked", "(II)I"⟩
abbrev cX12_feed : ByteArray := prog_14_method_77_code
def yX12_feed : MethodName := ⟨RX12, "feed", "(JI)I"⟩
abbrev cX12_here : ByteArray := prog_14_method_78_code
def yX12_here : MethodName := ⟨RX12, "here", "()I"⟩
abbrev cX12_cannot : ByteArray := prog_14_method_79_code
def yX12_cannot : MethodName := ⟨RX12, "cannot", "()V"⟩
abbrev cX12_digit : ByteArray := prog_14_method_80_code
def yX12_digit : MethodName := ⟨RX12, "digit", "(I)V"⟩
abbrev cX12_digits : ByteArray := prog_14_method_81_code
def yX12_digits : MethodName := ⟨RX12, "digits", "(ZI)V"⟩
abbrev cX12_opens : ByteArray := prog_14_method_82_code
def yX12_opens : MethodName := ⟨RX12, "opens", "(I)V"⟩
abbrev cX12_newEntry : ByteArray := prog_14_method_83_code
def yX12_newEntry : MethodName := ⟨RX12, "newEntry", "(III)I"⟩
abbrev cX12_readStep : ByteArray := prog_14_method_84_code
def yX12_readStep : MethodName := ⟨RX12, "readStep", "(I)V"⟩
abbrev cX12_isStep : ByteArray := prog_14_method_85_code
def yX12_isStep : MethodName := ⟨RX12, "isStep", "(I)Z"⟩
abbrev cX12_readPlan : ByteArray := prog_14_method_86_code
def yX12_readPlan : MethodName := ⟨RX12, "readPlan", "()V"⟩
abbrev cX12_givesBack : ByteArray := prog_14_method_87_code
def yX12_givesBack : MethodName := ⟨RX12, "givesBack", "(I)Z"⟩
abbrev cX12_does : ByteArray := prog_14_method_88_code
def yX12_does : MethodName := ⟨RX12, "does", "(I)I"⟩
abbrev cX12_enters : ByteArray := prog_14_method_89_code
def yX12_enters : MethodName := ⟨RX12, "enters", "(II)V"⟩
abbrev cX12_behind : ByteArray := prog_14_method_90_code
def yX12_behind : MethodName := ⟨RX12, "behind", "(I)I"⟩
abbrev cX12_closer : ByteArray := prog_14_method_91_code
def yX12_closer : MethodName := ⟨RX12, "closer", "(I)I"⟩
abbrev cX12_leaves : ByteArray := prog_14_method_92_code
def yX12_leaves : MethodName := ⟨RX12, "leaves", "()I"⟩
abbrev cX12_closes : ByteArray := prog_14_method_93_code
def yX12_closes : MethodName := ⟨RX12, "closes", "(I)I"⟩
abbrev cX12_blockEnd : ByteArray := prog_14_method_94_code
def yX12_blockEnd : MethodName := ⟨RX12, "blockEnd", "()I"⟩
abbrev cX12_runs : ByteArray := prog_14_method_95_code
def yX12_runs : MethodName := ⟨RX12, "runs", "()V"⟩
abbrev cX12_begins : ByteArray := prog_14_method_96_code
def yX12_begins : MethodName := ⟨RX12, "begins", "(I)I"⟩
abbrev cX12_act : ByteArray := prog_14_method_97_code
def yX12_act : MethodName := ⟨RX12, "act", "()I"⟩
abbrev cX12_outcome : ByteArray := prog_14_method_98_code
def yX12_outcome : MethodName := ⟨RX12, "outcome", "(I)I"⟩
abbrev cX12_counter : ByteArray := prog_14_method_99_code
def yX12_counter : MethodName := ⟨RX12, "counter", "(I)J"⟩
abbrev cX12_slip : ByteArray := prog_14_method_100_code
def yX12_slip : MethodName := ⟨RX12, "slip", "(I)J"⟩
abbrev cX12_isMat : ByteArray := prog_14_method_101_code
def yX12_isMat : MethodName := ⟨RX12, "isMat", "(I)Z"⟩
abbrev cX12_mark : ByteArray := prog_14_method_102_code
def yX12_mark : MethodName := ⟨RX12, "mark", "(III)I"⟩
abbrev cX12_anew : ByteArray := prog_14_method_103_code
def yX12_anew : MethodName := ⟨RX12, "anew", "(I)I"⟩
abbrev cX12_hutOf : ByteArray := prog_14_method_104_code
def yX12_hutOf : MethodName := ⟨RX12, "hutOf", "(III)J"⟩
abbrev cX12_hut : ByteArray := prog_14_method_105_code
def yX12_hut : MethodName := ⟨RX12, "hut", "(III)J"⟩
abbrev cX12_chip : ByteArray := prog_14_method_106_code
def yX12_chip : MethodName := ⟨RX12, "chip", "(II)I"⟩
abbrev cX12_read : ByteArray := prog_14_method_107_code
def yX12_read : MethodName := ⟨RX12, "read", "(IIII)I"⟩
abbrev cX12_rules : ByteArray := prog_14_method_108_code
def yX12_rules : MethodName := ⟨RX12, "rules", "(III)I"⟩
abbrev cX12_timeOfRead : ByteArray := prog_14_method_109_code
def yX12_timeOfRead : MethodName := ⟨RX12, "timeOfRead", "(I)J"⟩
abbrev cX12_readOf : ByteArray := prog_14_method_110_code
def yX12_readOf : MethodName := ⟨RX12, "readOf", "(I)I"⟩
abbrev cX12_findPasses : ByteArray := prog_14_method_111_code
def yX12_findPasses : MethodName := ⟨RX12, "findPasses", "(II)V"⟩
abbrev cX12_isBib : ByteArray := prog_14_method_112_code
def yX12_isBib : MethodName := ⟨RX12, "isBib", "(I)Z"⟩
abbrev cX12_passes : ByteArray := prog_14_method_113_code
def yX12_passes : MethodName := ⟨RX12, "passes", "(II)I"⟩
abbrev cX12_pass : ByteArray := prog_14_method_114_code
def yX12_pass : MethodName := ⟨RX12, "pass", "(III)J"⟩
abbrev cX12_place : ByteArray := prog_14_method_115_code
def yX12_place : MethodName := ⟨RX12, "place", "(II)I"⟩
abbrev cX12_findFit : ByteArray := prog_14_method_116_code
def yX12_findFit : MethodName := ⟨RX12, "findFit", "(I)V"⟩
abbrev cX12_fit : ByteArray := prog_14_method_117_code
def yX12_fit : MethodName := ⟨RX12, "fit", "(I)I"⟩
abbrev cX12_isPlace : ByteArray := prog_14_method_118_code
def yX12_isPlace : MethodName := ⟨RX12, "isPlace", "(I)Z"⟩
abbrev cX12_used : ByteArray := prog_14_method_119_code
def yX12_used : MethodName := ⟨RX12, "used", "(II)J"⟩
abbrev cX12_gun : ByteArray := prog_14_method_120_code
def yX12_gun : MethodName := ⟨RX12, "gun", "(II)I"⟩
abbrev cX12_join : ByteArray := prog_14_method_121_code
def yX12_join : MethodName := ⟨RX12, "join", "(III)I"⟩
abbrev cX12_startOf : ByteArray := prog_14_method_122_code
def yX12_startOf : MethodName := ⟨RX12, "startOf", "(I)J"⟩
abbrev cX12_start : ByteArray := prog_14_method_123_code
def yX12_start : MethodName := ⟨RX12, "start", "(I)J"⟩
abbrev cX12_time : ByteArray := prog_14_method_124_code
def yX12_time : MethodName := ⟨RX12, "time", "(IIII)I"⟩
abbrev cX12_sourceOf : ByteArray := prog_14_method_125_code
def yX12_sourceOf : MethodName := ⟨RX12, "sourceOf", "(II)I"⟩
abbrev cX12_mergedOf : ByteArray := prog_14_method_126_code
def yX12_mergedOf : MethodName := ⟨RX12, "mergedOf", "(II)J"⟩
abbrev cX12_merged : ByteArray := prog_14_method_127_code
def yX12_merged : MethodName := ⟨RX12, "merged", "(II)J"⟩
abbrev cX12_source : ByteArray := prog_14_method_128_code
def yX12_source : MethodName := ⟨RX12, "source", "(II)I"⟩
abbrev cX12_penalty : ByteArray := prog_14_method_129_code
def yX12_penalty : MethodName := ⟨RX12, "penalty", "(III)I"⟩
abbrev cX12_back : ByteArray := prog_14_method_130_code
def yX12_back : MethodName := ⟨RX12, "back", "(I)I"⟩
abbrev cX12_judge : ByteArray := prog_14_method_131_code
def yX12_judge : MethodName := ⟨RX12, "judge", "(I)V"⟩
abbrev cX12_stateOf : ByteArray := prog_14_method_132_code
def yX12_stateOf : MethodName := ⟨RX12, "stateOf", "(I)I"⟩
abbrev cX12_resultOf : ByteArray := prog_14_method_133_code
def yX12_resultOf : MethodName := ⟨RX12, "resultOf", "(I)J"⟩
abbrev cX12_state : ByteArray := prog_14_method_134_code
def yX12_state : MethodName := ⟨RX12, "state", "(I)I"⟩
abbrev cX12_result : ByteArray := prog_14_method_135_code
def yX12_result : MethodName := ⟨RX12, "result", "(I)J"⟩
abbrev cX12_rank : ByteArray := prog_14_method_136_code
def yX12_rank : MethodName := ⟨RX12, "rank", "(I)I"⟩
abbrev cX12_best : ByteArray := prog_14_method_137_code
def yX12_best : MethodName := ⟨RX12, "best", "(II)J"⟩
abbrev cX12_turned : ByteArray := prog_14_method_138_code
def yX12_turned : MethodName := ⟨RX12, "turned", "(I)I"⟩
abbrev cX12_sumOf : ByteArray := prog_14_method_139_code
def yX12_sumOf : MethodName := ⟨RX12, "sumOf", "(I)I"⟩
abbrev cX12_numberOf : ByteArray := prog_14_method_140_code
def yX12_numberOf : MethodName := ⟨RX12, "numberOf", "(II)I"⟩
abbrev cX12_longOf0 : ByteArray := prog_14_method_141_code
def yX12_longOf0 : MethodName := ⟨RX12, "longOf0", "(I)J"⟩
abbrev cX12_isWhole : ByteArray := prog_14_method_142_code
def yX12_isWhole : MethodName := ⟨RX12, "isWhole", "(I)Z"⟩
abbrev cX12_isFree : ByteArray := prog_14_method_143_code
def yX12_isFree : MethodName := ⟨RX12, "isFree", "(I)Z"⟩
abbrev cX12_keep : ByteArray := prog_14_method_144_code
def yX12_keep : MethodName := ⟨RX12, "keep", "(J)I"⟩
abbrev cX12_cut : ByteArray := prog_14_method_145_code
def yX12_cut : MethodName := ⟨RX12, "cut", "(I)I"⟩
abbrev cX12_isSector : ByteArray := prog_14_method_146_code
def yX12_isSector : MethodName := ⟨RX12, "isSector", "(I)Z"⟩
abbrev cX12_alter : ByteArray := prog_14_method_147_code
def yX12_alter : MethodName := ⟨RX12, "alter", "(III)I"⟩
abbrev cX12_doubled : ByteArray := prog_14_method_148_code
def yX12_doubled : MethodName := ⟨RX12, "doubled", "(II)I"⟩
abbrev cX12_nextKept : ByteArray := prog_14_method_149_code
def yX12_nextKept : MethodName := ⟨RX12, "nextKept", "(I)I"⟩
abbrev cX12_kept : ByteArray := prog_14_method_150_code
def yX12_kept : MethodName := ⟨RX12, "kept", "(I)J"⟩
abbrev cX12_pages : ByteArray := prog_14_method_151_code
def yX12_pages : MethodName := ⟨RX12, "pages", "(I)I"⟩
abbrev cX12_byteOf : ByteArray := prog_14_method_152_code
def yX12_byteOf : MethodName := ⟨RX12, "byteOf", "(II)I"⟩
abbrev cX12_told : ByteArray := prog_14_method_153_code
def yX12_told : MethodName := ⟨RX12, "told", "(I)I"⟩
abbrev cX12_fault : ByteArray := prog_14_method_154_code
def yX12_fault : MethodName := ⟨RX12, "fault", "()I"⟩
def RJxe99ae : String := "java/lang/Double"
def TJxe99ae : u_T := fun k => match k with
  | _ => ("", "", "", false)
def tyJxe99ae : Nat → FieldType := fun k => match k with
  | _ => .int
abbrev wsJxe99ae0 : List Cond := u_ws RJxe99ae TJxe99ae 0
theorem nmJxe99ae : ∀ a, a < 0 → ∀ b, b < 0 → a ≠ b → (TJxe99ae a).2.1 ≠ (TJxe99ae b).2.1 := by decide +kernel
theorem tyJxe99ae_ok : ∀ k, k < 0 → parseFieldDescriptor (TJxe99ae k).2.2.1 = some (tyJxe99ae k) := by decide +kernel
abbrev cJxe99ae_isNaN_b9ae7 : ByteArray := prog_15_method_6_code
def yJxe99ae_isNaN_b9ae7 : MethodName := ⟨RJxe99ae, "isNaN", "(D)Z"⟩
abbrev cJxe99ae_doubleToLongBits_ccdee : ByteArray := prog_15_method_23_code
def yJxe99ae_doubleToLongBits_ccdee : MethodName := ⟨RJxe99ae, "doubleToLongBits", "(D)J"⟩
def RJ6 : String := "java/lang/Integer"
def TJ6 : u_T := fun k => match k with
  | _ => ("", "", "", false)
def tyJ6 : Nat → FieldType := fun k => match k with
  | _ => .int
abbrev wsJ60 : List Cond := u_ws RJ6 TJ6 0
theorem nmJ6 : ∀ a, a < 0 → ∀ b, b < 0 → a ≠ b → (TJ6 a).2.1 ≠ (TJ6 b).2.1 := by decide +kernel
theorem tyJ6_ok : ∀ k, k < 0 → parseFieldDescriptor (TJ6 k).2.2.1 = some (tyJ6 k) := by decide +kernel
abbrev cJ6_numberOfLeadingZeros_0f7a4 : ByteArray := prog_16_method_47_code
def yJ6_numberOfLeadingZeros_0f7a4 : MethodName := ⟨RJ6, "numberOfLeadingZeros", "(I)I"⟩
abbrev cJ6_rotateLeft_7cf53 : ByteArray := prog_16_method_50_code
def yJ6_rotateLeft_7cf53 : MethodName := ⟨RJ6, "rotateLeft", "(II)I"⟩
def RJ13 : String := "java/lang/Long"
def TJ13 : u_T := fun k => match k with
  | _ => ("", "", "", false)
def tyJ13 : Nat → FieldType := fun k => match k with
  | _ => .int
abbrev wsJ130 : List Cond := u_ws RJ13 TJ13 0
theorem nmJ13 : ∀ a, a < 0 → ∀ b, b < 0 → a ≠ b → (TJ13 a).2.1 ≠ (TJ13 b).2.1 := by decide +kernel
theorem tyJ13_ok : ∀ k, k < 0 → parseFieldDescriptor (TJ13 k).2.2.1 = some (tyJ13 k) := by decide +kernel
abbrev cJ13_compare_74951 : ByteArray := prog_17_method_42_code
def yJ13_compare_74951 : MethodName := ⟨RJ13, "compare", "(JJ)I"⟩
abbrev cJ13_numberOfLeadingZeros_95d88 : ByteArray := prog_17_method_48_code
def yJ13_numberOfLeadingZeros_95d88 : MethodName := ⟨RJ13, "numberOfLeadingZeros", "(J)I"⟩
def RJ9 : String := "java/lang/Math"
def TJ9 : u_T := fun k => match k with
  | _ => ("", "", "", false)
def tyJ9 : Nat → FieldType := fun k => match k with
  | _ => .int
abbrev wsJ90 : List Cond := u_ws RJ9 TJ9 0
theorem nmJ9 : ∀ a, a < 0 → ∀ b, b < 0 → a ≠ b → (TJ9 a).2.1 ≠ (TJ9 b).2.1 := by decide +kernel
theorem tyJ9_ok : ∀ k, k < 0 → parseFieldDescriptor (TJ9 k).2.2.1 = some (tyJ9 k) := by decide +kernel
abbrev cJ9_abs_067f4 : ByteArray := prog_18_method_61_code
def yJ9_abs_067f4 : MethodName := ⟨RJ9, "abs", "(J)J"⟩
abbrev cJ9_max_7cf53 : ByteArray := prog_18_method_65_code
def yJ9_max_7cf53 : MethodName := ⟨RJ9, "max", "(II)I"⟩
abbrev cJ9_max_f86c9 : ByteArray := prog_18_method_66_code
def yJ9_max_f86c9 : MethodName := ⟨RJ9, "max", "(JJ)J"⟩
abbrev cJ9_min_7cf53 : ByteArray := prog_18_method_69_code
def yJ9_min_7cf53 : MethodName := ⟨RJ9, "min", "(II)I"⟩
abbrev cJ9_min_f86c9 : ByteArray := prog_18_method_70_code
def yJ9_min_f86c9 : MethodName := ⟨RJ9, "min", "(JJ)J"⟩
def RJ10 : String := "java/lang/System"
def TJ10 : u_T := fun k => match k with
  | _ => ("", "", "", false)
def tyJ10 : Nat → FieldType := fun k => match k with
  | _ => .int
abbrev wsJ100 : List Cond := u_ws RJ10 TJ10 0
theorem nmJ10 : ∀ a, a < 0 → ∀ b, b < 0 → a ≠ b → (TJ10 a).2.1 ≠ (TJ10 b).2.1 := by decide +kernel
theorem tyJ10_ok : ∀ k, k < 0 → parseFieldDescriptor (TJ10 k).2.2.1 = some (tyJ10 k) := by decide +kernel
def RJ7 : String := "java/util/Arrays"
def TJ7 : u_T := fun k => match k with
  | _ => ("", "", "", false)
def tyJ7 : Nat → FieldType := fun k => match k with
  | _ => .int
abbrev wsJ70 : List Cond := u_ws RJ7 TJ7 0
theorem nmJ7 : ∀ a, a < 0 → ∀ b, b < 0 → a ≠ b → (TJ7 a).2.1 ≠ (TJ7 b).2.1 := by decide +kernel
theorem tyJ7_ok : ∀ k, k < 0 → parseFieldDescriptor (TJ7 k).2.2.1 = some (tyJ7 k) := by decide +kernel
abbrev cJ7_fill_53178 : ByteArray := prog_20_method_103_code
def yJ7_fill_53178 : MethodName := ⟨RJ7, "fill", "([II)V"⟩
def RL : String := "RaceHouseLaw"
abbrev cL_law : ByteArray := code
def yL_law : MethodName := ⟨RL, "law", "([I)Z"⟩
abbrev vwCl : List vw_C := [(RX0, TX0, 15), (RX1, TX1, 19), (RX2, TX2, 11), (RX3, TX3, 9), (RX4, TX4, 8), (RX6, TX6, 4), (RX7, TX7, 11), (RX8, TX8, 3), (RX9, TX9, 2), (RX11, TX11, 12), (RX12, TX12, 102)]
/-! the words of lw_tbl that a call hands on -/
def jx_g : List Cond := lw_tbl.filter goodWord
theorem jx_g_of {w : Cond} (h : w ∈ tables_1) (hg : goodWord w = true) : w ∈ jx_g := List.mem_filter.mpr ⟨List.mem_append_right _ h, hg⟩
theorem jx_g_in {w : Cond} (h : w ∈ jx_g) : w ∈ lw_tbl ∧ ((w.onTables && w.keeps) = true ∨ ∃ ty, w = .arrayClass ty) := ⟨(List.mem_filter.mp h).1, good_of_word (List.mem_filter.mp h).2⟩
theorem jx_good {ws : List Cond} (h : ∀ w ∈ ws, w ∈ jx_g) : GoodIn jx_g ws := fun w hw => ⟨h w hw, (jx_g_in (h w hw)).2⟩
/-- a field's type, by its descriptor -/
def jx_fty (d : String) : FieldType := (parseFieldDescriptor d).getD .int
/-- what is known of a class of vwCl -/
def jx_okc (q : vw_C) : Prop := (∀ w ∈ u_ws q.1 q.2.1 q.2.2, w ∈ jx_g) ∧ (∀ k, k < q.2.2 → parseFieldDescriptor (q.2.1 k).2.2.1 = some (jx_fty (q.2.1 k).2.2.1)) ∧ (∀ a, a < q.2.2 → ∀ b, b < q.2.2 → a ≠ b → (q.2.1 a).2.1 ≠ (q.2.1 b).2.1) ∧ Cond.instantiable q.1 q.2.2 ∈ jx_g ∧ Cond.initialized q.1 ∈ jx_g
theorem jx_fty_of {T : u_T} {N : Nat} {ty : Nat → FieldType} (h : ∀ k, k < N → parseFieldDescriptor (T k).2.2.1 = some (ty k)) : ∀ k, k < N → parseFieldDescriptor (T k).2.2.1 = some (jx_fty (T k).2.2.1) := fun k hk => by
  unfold jx_fty
  rw [h k hk]; rfl
theorem jx_ws_of {ws : List Cond} (h1 : ∀ w ∈ ws, w ∈ tables_1) (h2 : ws.all goodWord = true) : ∀ w ∈ ws, w ∈ jx_g := fun w hw => jx_g_of (h1 w hw) (List.all_eq_true.mp h2 w hw)
set_option maxRecDepth 100000 in
theorem jx_okc_0 : jx_okc (RX0, TX0, 15) := ⟨jx_ws_of (ws := u_ws RX0 TX0 15) (by decide +kernel) (by decide +kernel), jx_fty_of tyX0_ok, nmX0, jx_g_of (by decide +kernel) (by decide +kernel), jx_g_of (by decide +kernel) (by decide +kernel)⟩
set_option maxRecDepth 100000 in
theorem jx_okc_1 : jx_okc (RX1, TX1, 19) := ⟨jx_ws_of (ws := u_ws RX1 TX1 19) (by decide +kernel) (by decide +kernel), jx_fty_of tyX1_ok, nmX1, jx_g_of (by decide +kernel) (by decide +kernel), jx_g_of (by decide +kernel) (by decide +kernel)⟩
set_option maxRecDepth 100000 in
theorem jx_okc_2 : jx_okc (RX2, TX2, 11) := ⟨jx_ws_of (ws := u_ws RX2 TX2 11) (by decide +kernel) (by decide +kernel), jx_fty_of tyX2_ok, nmX2, jx_g_of (by decide +kernel) (by decide +kernel), jx_g_of (by decide +kernel) (by decide +kernel)⟩
set_option maxRecDepth 100000 in
theorem jx_okc_3 : jx_okc (RX3, TX3, 9) := ⟨jx_ws_of (ws := u_ws RX3 TX3 9) (by decide +kernel) (by decide +kernel), jx_fty_of tyX3_ok, nmX3, jx_g_of (by decide +kernel) (by decide +kernel), jx_g_of (by decide +kernel) (by decide +kernel)⟩
set_option maxRecDepth 100000 in
theorem jx_okc_4 : jx_okc (RX4, TX4, 8) := ⟨jx_ws_of (ws := u_ws RX4 TX4 8) (by decide +kernel) (by decide +kernel), jx_fty_of tyX4_ok, nmX4, jx_g_of (by decide +kernel) (by decide +kernel), jx_g_of (by decide +kernel) (by decide +kernel)⟩
set_option maxRecDepth 100000 in
theorem jx_okc_5 : jx_okc (RX6, TX6, 4) := ⟨jx_ws_of (ws := u_ws RX6 TX6 4) (by decide +kernel) (by decide +kernel), jx_fty_of tyX6_ok, nmX6, jx_g_of (by decide +kernel) (by decide +kernel), jx_g_of (by decide +kernel) (by decide +kernel)⟩
set_option maxRecDepth 100000 in
theorem jx_okc_6 : jx_okc (RX7, TX7, 11) := ⟨jx_ws_of (ws := u_ws RX7 TX7 11) (by decide +kernel) (by decide +kernel), jx_fty_of tyX7_ok, nmX7, jx_g_of (by decide +kernel) (by decide +kernel), jx_g_of (by decide +kernel) (by decide +kernel)⟩
set_option maxRecDepth 100000 in
theorem jx_okc_7 : jx_okc (RX8, TX8, 3) := ⟨jx_ws_of (ws := u_ws RX8 TX8 3) (by decide +kernel) (by decide +kernel), jx_fty_of tyX8_ok, nmX8, jx_g_of (by decide +kernel) (by decide +kernel), jx_g_of (by decide +kernel) (by decide +kernel)⟩
set_option maxRecDepth 100000 in
theorem jx_okc_8 : jx_okc (RX9, TX9, 2) := ⟨jx_ws_of (ws := u_ws RX9 TX9 2) (by decide +kernel) (by decide +kernel), jx_fty_of tyX9_ok, nmX9, jx_g_of (by decide +kernel) (by decide +kernel), jx_g_of (by decide +kernel) (by decide +kernel)⟩
set_option maxRecDepth 100000 in
theorem jx_okc_9 : jx_okc (RX11, TX11, 12) := ⟨jx_ws_of (ws := u_ws RX11 TX11 12) (by decide +kernel) (by decide +kernel), jx_fty_of tyX11_ok, nmX11, jx_g_of (by decide +kernel) (by decide +kernel), jx_g_of (by decide +kernel) (by decide +kernel)⟩
set_option maxRecDepth 100000 in
theorem jx_okc_10 : jx_okc (RX12, TX12, 102) := ⟨jx_ws_of (ws := u_ws RX12 TX12 102) (by decide +kernel) (by decide +kernel), jx_fty_of tyX12_ok, nmX12, jx_g_of (by decide +kernel) (by decide +kernel), jx_g_of (by decide +kernel) (by decide +kernel)⟩
theorem jx_cls {ci : Nat} {q : vw_C} (h : vwCl[ci]? = some q) : jx_okc q := by
  match ci, h with
  | 0, h => cases h; exact jx_okc_0
  | 1, h => cases h; exact jx_okc_1
  | 2, h => cases h; exact jx_okc_2
  | 3, h => cases h; exact jx_okc_3
  | 4, h => cases h; exact jx_okc_4
  | 5, h => cases h; exact jx_okc_5
  | 6, h => cases h; exact jx_okc_6
  | 7, h => cases h; exact jx_okc_7
  | 8, h => cases h; exact jx_okc_8
  | 9, h => cases h; exact jx_okc_9
  | 10, h => cases h; exact jx_okc_10
  | k + 11, h => simp [vwCl] at h
end
section
/-! THE MACHINE AS A FUNCTION. A heap is a list of cells (arrays: component type and contents; objects: the number of their class in vwCl and their fields); places 0, 1, 2 are rows of ints that nobody writes. A method's frame is run over it by a function; what it says holds of the machine (parts 04 to 06). -/
abbrev jx_C : Type := (FieldType × List Value) ⊕ (Nat × List Value)
abbrev jx_L : Type := List (Option Value)
/-- a method: its name, its code, how many locals it has, what it answers -/
abbrev jx_M : Type := MethodName × ByteArray × Nat × Option FieldType
/-- values over the machine's addresses -/
def jx_v (g : Nat → Nat) : Value → Value
  | .ref a => .ref (g a)
  | .int n => .int n
  | .long n => .long n
  | .float n => .float n
  | .double n => .double n
  | .null => .null
  | .retAddr n => .retAddr n
theorem jx_v_cat (g : Nat → Nat) (v : Value) : (jx_v g v).category = v.category := by cases v <;> rfl
theorem jx_v_cats (g : Nat → Nat) (st : List Value) : ((st.map (jx_v g)).map fun v => v.category).sum = (st.map fun v => v.category).sum := by
  induction st with
  | nil => rfl
  | cons v r ih => simp only [List.map_cons, List.sum_cons, jx_v_cat, ih]
/-- where a jump goes -/
def jx_j (pc : Nat) (off : Int) : Option Nat := if 0 ≤ (pc : Int) + off then some ((pc : Int) + off).toNat else none
theorem jx_j_ok {pc : Nat} {off : Int} {t : Nat} (h : jx_j pc off = some t) : (pc : Int) + off = (t : Int) := by
  unfold jx_j at h
  split at h
  · cases h; omega
  · cases h
/-- how long an instruction is, of those that are run here (switches apart) -/
def jx_len : Instr → Nat
  | .bipush _ | .iload _ | .lload _ | .dload _ | .aload _ | .istore _ | .lstore _ | .dstore _ | .astore _ | .newarray _ | .ldc _ => 2
  | .sipush _ | .iinc _ _ | .ifCond _ _ | .if_icmp _ _ | .if_acmp _ _ | .ifnull _ | .ifnonnull _ | .goto _ | .getfield _ | .putfield _ | .getstatic _ | .ldc_w _ | .ldc2_w _ | .new _ | .anewarray _ | .checkcast _ | .instanceof _ | .invokestatic _ | .invokespecial _ | .invokevirtual _ => 3
  | _ => 1
/-! what lies on top of a stack -/
def jx_1I : List Value → Option (Int32 × List Value)
  | .int n :: r => some (n, r)
  | _ => none
def jx_2I : List Value → Option (Int32 × Int32 × List Value)
  | .int k :: .int n :: r => some (n, k, r)
  | _ => none
def jx_1L : List Value → Option (Int64 × List Value)
  | .long n :: r => some (n, r)
  | _ => none
def jx_2L : List Value → Option (Int64 × Int64 × List Value)
  | .long k :: .long n :: r => some (n, k, r)
  | _ => none
def jx_LI : List Value → Option (Int64 × Int32 × List Value)
  | .int k :: .long n :: r => some (n, k, r)
  | _ => none
def jx_1D : List Value → Option (UInt64 × List Value)
  | .double n :: r => some (n, r)
  | _ => none
def jx_2D : List Value → Option (UInt64 × UInt64 × List Value)
  | .double k :: .double n :: r => some (n, k, r)
  | _ => none
def jx_1F : List Value → Option (UInt32 × List Value)
  | .float n :: r => some (n, r)
  | _ => none
/-- a reference or null -/
def jx_1A : List Value → Option (Value × List Value)
  | .ref a :: r => some (.ref a, r)
  | .null :: r => some (.null, r)
  | _ => none
def jx_1R : List Value → Option (Nat × List Value)
  | .ref a :: r => some (a, r)
  | _ => none
theorem jx_1I_eq {st : List Value} {q : Int32 × List Value} (h : jx_1I st = some q) : st = .int q.1 :: q.2 := by
  unfold jx_1I at h; split at h <;> cases h; rfl
theorem jx_2I_eq {st : List Value} {q : Int32 × Int32 × List Value} (h : jx_2I st = some q) : st = .int q.2.1 :: .int q.1 :: q.2.2 := by
  unfold jx_2I at h; split at h <;> cases h; rfl
theorem jx_1L_eq {st : List Value} {q : Int64 × List Value} (h : jx_1L st = some q) : st = .long q.1 :: q.2 := by
  unfold jx_1L at h; split at h <;> cases h; rfl
theorem jx_2L_eq {st : List Value} {q : Int64 × Int64 × List Value} (h : jx_2L st = some q) : st = .long q.2.1 :: .long q.1 :: q.2.2 := by
  unfold jx_2L at h; split at h <;> cases h; rfl
theorem jx_LI_eq {st : List Value} {q : Int64 × Int32 × List Value} (h : jx_LI st = some q) : st = .int q.2.1 :: .long q.1 :: q.2.2 := by
  unfold jx_LI at h; split at h <;> cases h; rfl
theorem jx_1D_eq {st : List Value} {q : UInt64 × List Value} (h : jx_1D st = some q) : st = .double q.1 :: q.2 := by
  unfold jx_1D at h; split at h <;> cases h; rfl
theorem jx_2D_eq {st : List Value} {q : UInt64 × UInt64 × List Value} (h : jx_2D st = some q) : st = .double q.2.1 :: .double q.1 :: q.2.2 := by
  unfold jx_2D at h; split at h <;> cases h; rfl
theorem jx_1F_eq {st : List Value} {q : UInt32 × List Value} (h : jx_1F st = some q) : st = .float q.1 :: q.2 := by
  unfold jx_1F at h; split at h <;> cases h; rfl
theorem jx_1R_eq {st : List Value} {q : Nat × List Value} (h : jx_1R st = some q) : st = .ref q.1 :: q.2 := by
  unfold jx_1R at h; split at h <;> cases h; rfl
theorem jx_1A_eq {st : List Value} {q : Value × List Value} (h : jx_1A st = some q) : (∃ a, q.1 = .ref a ∧ st = .ref a :: q.2) ∨ (q.1 = .null ∧ st = .null :: q.2) := by
  unfold jx_1A at h; split at h
  · cases h; exact Or.inl ⟨_, rfl, rfl⟩
  · cases h; exact Or.inr ⟨rfl, rfl⟩
  · cases h
/-! instructions that change the stack alone -/
def jx_S (i : Instr) (st : List Value) : Option (List Value) := match i with
  | .iconst k => some (.int (Int32.ofInt k) :: st)
  | .bipush k => some (.int (Int8.ofInt k).toInt32 :: st)
  | .sipush k => some (.int (Int16.ofInt k).toInt32 :: st)
  | .lconst k => some (.long (Int64.ofNat (k : Nat)) :: st)
  | .dconst k => if k = 0 then some (.double FP.dconst0 :: st) else none
  | .aconst_null => some (.null :: st)
  | .iadd => (jx_2I st).map fun q => .int (q.1 + q.2.1) :: q.2.2
  | .isub => (jx_2I st).map fun q => .int (q.1 - q.2.1) :: q.2.2
  | .imul => (jx_2I st).map fun q => .int (q.1 * q.2.1) :: q.2.2
  | .iand => (jx_2I st).map fun q => .int (q.1 &&& q.2.1) :: q.2.2
  | .ior => (jx_2I st).map fun q => .int (q.1 ||| q.2.1) :: q.2.2
  | .ixor => (jx_2I st).map fun q => .int (q.1 ^^^ q.2.1) :: q.2.2
  | .idiv => (jx_2I st).bind fun q => if q.2.1 = 0 then none else some (.int (q.1 / q.2.1) :: q.2.2)
  | .irem => (jx_2I st).bind fun q => if q.2.1 = 0 then none else some (.int (q.1 - q.1 / q.2.1 * q.2.1) :: q.2.2)
  | .ineg => (jx_1I st).map fun q => .int (-q.1) :: q.2
  | .ishl => (jx_2I st).map fun q => .int (q.1 <<< (q.2.1 &&& 31)) :: q.2.2
  | .ishr => (jx_2I st).map fun q => .int (q.1 >>> (q.2.1 &&& 31)) :: q.2.2
  | .iushr => (jx_2I st).map fun q => .int (q.1.toUInt32 >>> (q.2.1.toUInt32 &&& Int32.toUInt32 31)).toInt32 :: q.2.2
  | .ladd => (jx_2L st).map fun q => .long (q.1 + q.2.1) :: q.2.2
  | .lsub => (jx_2L st).map fun q => .long (q.1 - q.2.1) :: q.2.2
  | .lmul => (jx_2L st).map fun q => .long (q.1 * q.2.1) :: q.2.2
  | .land => (jx_2L st).map fun q => .long (q.1 &&& q.2.1) :: q.2.2
  | .lor => (jx_2L st).map fun q => .long (q.1 ||| q.2.1) :: q.2.2
  | .lxor => (jx_2L st).map fun q => .long (q.1 ^^^ q.2.1) :: q.2.2
  | .ldiv => (jx_2L st).bind fun q => if q.2.1 = 0 then none else some (.long (q.1 / q.2.1) :: q.2.2)
  | .lrem => (jx_2L st).bind fun q => if q.2.1 = 0 then none else some (.long (q.1 - q.1 / q.2.1 * q.2.1) :: q.2.2)
  | .lneg => (jx_1L st).map fun q => .long (-q.1) :: q.2
  | .lshl => (jx_LI st).map fun q => .long (q.1 <<< (q.2.1.toInt64 &&& 63)) :: q.2.2
  | .lshr => (jx_LI st).map fun q => .long (q.1 >>> (q.2.1.toInt64 &&& 63)) :: q.2.2
  | .lushr => (jx_LI st).map fun q => .long (q.1.toUInt64 >>> (q.2.1.toInt64.toUInt64 &&& Int64.toUInt64 63)).toInt64 :: q.2.2
  | .i2l => (jx_1I st).map fun q => .long q.1.toInt64 :: q.2
  | .l2i => (jx_1L st).map fun q => .int q.1.toInt32 :: q.2
  | .i2b => (jx_1I st).map fun q => .int q.1.toInt8.toInt32 :: q.2
  | .i2s => (jx_1I st).map fun q => .int q.1.toInt16.toInt32 :: q.2
  | .i2c => (jx_1I st).map fun q => .int (q.1.toUInt32 % 65536).toInt32 :: q.2
  | .lcmp => (jx_2L st).map fun q => .int (lg_cmp q.1 q.2.1) :: q.2.2
  | .i2d => (jx_1I st).map fun q => .double (FP.i2d q.1) :: q.2
  | .d2l => (jx_1D st).map fun q => .long (FP.d2l q.1) :: q.2
  | .d2f => (jx_1D st).bind fun q => if FP.d2f q.1 &&& 0x7fffffff ≤ 0x7f800000 then some (.float (FP.d2f q.1) :: q.2) else none
  | .f2d => (jx_1F st).bind fun q => if FP.f2d q.1 &&& 0x7fffffffffffffff ≤ 0x7ff0000000000000 then some (.double (FP.f2d q.1) :: q.2) else none
  | .dadd => (jx_2D st).bind fun q => if FP.dadd q.1 q.2.1 &&& 0x7fffffffffffffff ≤ 0x7ff0000000000000 then some (.double (FP.dadd q.1 q.2.1) :: q.2.2) else none
  | .dsub => (jx_2D st).bind fun q => if FP.dsub q.1 q.2.1 &&& 0x7fffffffffffffff ≤ 0x7ff0000000000000 then some (.double (FP.dsub q.1 q.2.1) :: q.2.2) else none
  | .ddiv => (jx_2D st).bind fun q => if FP.ddiv q.1 q.2.1 &&& 0x7fffffffffffffff ≤ 0x7ff0000000000000 then some (.double (FP.ddiv q.1 q.2.1) :: q.2.2) else none
  | .dcmp o => (jx_2D st).map fun q => .int (Op.cmpValue (FP.dcmp q.1 q.2.1) o) :: q.2.2
  | .dup => match st with
    | v :: r => if v.category = 1 then some (v :: v :: r) else none
    | [] => none
  | .pop => match st with
    | v :: r => if v.category = 1 then some r else none
    | [] => none
  | .dup_x1 => match st with
    | v :: w :: r => if v.category = 1 ∧ w.category = 1 then some (v :: w :: v :: r) else none
    | _ => none
  | .dup2 => match st with
    | v :: w :: r => if v.category = 2 then some (v :: v :: w :: r) else if w.category = 1 then some (v :: w :: v :: w :: r) else none
    | [v] => if v.category = 2 then some [v, v] else none
    | [] => none
  | _ => none
section JXS
variable {p : Program} {l : Launch} {e : Env} {R : Room} {s : State} {m : MethodId} {args : Array Value} {below : List Frame} {meth : Method} {c : Code} {H : Heap} {locs : List Loc} {cells slots : Nat} {Q : State → Prop} {cc : ByteArray} {pc : Nat} {ls : Array Slot} {g : Nat → Nat}
theorem jx_S_ok (hx : p.tables.exec = Jvm.exec) (hb : c.code = cc) {i : Instr} {st st' : List Value} (hd : decode cc pc = .ok (i, jx_len i)) (h : jx_S i st = some st')
    (k : W p l e R s m args below meth c H locs cells slots Q (F0 m (pc + jx_len i) ls (st'.map (jx_v g)))) : W p l e R s m args below meth c H locs cells slots Q (F0 m pc ls (st.map (jx_v g))) := by
  cases i with
  | iconst n => cases h; exact lv_iconst hx hb hd rfl k
  | bipush n => cases h; exact lv_bipush hx hb hd rfl k
  | sipush n => cases h; exact lv_sipush hx hb hd rfl k
  | lconst n => cases h; exact lv_lconst hx hb hd rfl k
  | dconst n =>
    simp only [jx_S] at h
    split at h
    · rename_i hn
      subst hn
      cases h; exact lv_dconst0 hx hb hd k
    · cases h
  | aconst_null => cases h; exact lv_null hx hb hd k
  | iadd =>
    obtain ⟨q, hq, he⟩ := Option.map_eq_some_iff.mp (show Option.map _ _ = _ from h)
    subst he; rw [jx_2I_eq hq]; exact lv_iadd hx hb hd k
  | isub =>
    obtain ⟨q, hq, he⟩ := Option.map_eq_some_iff.mp (show Option.map _ _ = _ from h)
    subst he; rw [jx_2I_eq hq]; exact lv_isub hx hb hd k
  | imul =>
    obtain ⟨q, hq, he⟩ := Option.map_eq_some_iff.mp (show Option.map _ _ = _ from h)
    subst he; rw [jx_2I_eq hq]; exact lv_imul hx hb hd k
  | iand =>
    obtain ⟨q, hq, he⟩ := Option.map_eq_some_iff.mp (show Option.map _ _ = _ from h)
    subst he; rw [jx_2I_eq hq]; exact lv_iand hx hb hd k
  | ior =>
    obtain ⟨q, hq, he⟩ := Option.map_eq_some_iff.mp (show Option.map _ _ = _ from h)
    subst he; rw [jx_2I_eq hq]; exact lv_ior hx hb hd k
  | ixor =>
    obtain ⟨q, hq, he⟩ := Option.map_eq_some_iff.mp (show Option.map _ _ = _ from h)
    subst he; rw [jx_2I_eq hq]; exact lv_ixor hx hb hd k
  | idiv =>
    obtain ⟨q, hq, he⟩ := Option.bind_eq_some_iff.mp (show Option.bind _ _ = _ from h)
    split at he
    · cases he
    · rename_i hne
      cases he; rw [jx_2I_eq hq]; exact lv_idiv hx hb hd hne k
  | irem =>
    obtain ⟨q, hq, he⟩ := Option.bind_eq_some_iff.mp (show Option.bind _ _ = _ from h)
    split at he
    · cases he
    · rename_i hne
      cases he; rw [jx_2I_eq hq]; exact lv_irem hx hb hd hne k
  | ineg =>
    obtain ⟨q, hq, he⟩ := Option.map_eq_some_iff.mp (show Option.map _ _ = _ from h)
    subst he; rw [jx_1I_eq hq]; exact lv_ineg hx hb hd k
  | ishl =>
    obtain ⟨q, hq, he⟩ := Option.map_eq_some_iff.mp (show Option.map _ _ = _ from h)
    subst he; rw [jx_2I_eq hq]; exact lv_ishl hx hb hd k
  | ishr =>
    obtain ⟨q, hq, he⟩ := Option.map_eq_some_iff.mp (show Option.map _ _ = _ from h)
    subst he; rw [jx_2I_eq hq]; exact lv_ishr hx hb hd k
  | iushr =>
    obtain ⟨q, hq, he⟩ := Option.map_eq_some_iff.mp (show Option.map _ _ = _ from h)
    subst he; rw [jx_2I_eq hq]; exact lv_iushr hx hb hd rfl k
  | ladd =>
    obtain ⟨q, hq, he⟩ := Option.map_eq_some_iff.mp (show Option.map _ _ = _ from h)
    subst he; rw [jx_2L_eq hq]; exact lv_ladd hx hb hd k
  | lsub =>
    obtain ⟨q, hq, he⟩ := Option.map_eq_some_iff.mp (show Option.map _ _ = _ from h)
    subst he; rw [jx_2L_eq hq]; exact lv_lsub hx hb hd k
  | lmul =>
    obtain ⟨q, hq, he⟩ := Option.map_eq_some_iff.mp (show Option.map _ _ = _ from h)
    subst he; rw [jx_2L_eq hq]; exact lv_lmul hx hb hd k
  | land =>
    obtain ⟨q, hq, he⟩ := Option.map_eq_some_iff.mp (show Option.map _ _ = _ from h)
    subst he; rw [jx_2L_eq hq]; exact lv_land hx hb hd k
  | lor =>
    obtain ⟨q, hq, he⟩ := Option.map_eq_some_iff.mp (show Option.map _ _ = _ from h)
    subst he; rw [jx_2L_eq hq]; exact lv_lor hx hb hd k
  | lxor =>
    obtain ⟨q, hq, he⟩ := Option.map_eq_some_iff.mp (show Option.map _ _ = _ from h)
    subst he; rw [jx_2L_eq hq]; exact lv_lxor hx hb hd k
  | ldiv =>
    obtain ⟨q, hq, he⟩ := Option.bind_eq_some_iff.mp (show Option.bind _ _ = _ from h)
    split at he
    · cases he
    · rename_i hne
      cases he; rw [jx_2L_eq hq]; exact lv_ldiv hx hb hd hne k
  | lrem =>
    obtain ⟨q, hq, he⟩ := Option.bind_eq_some_iff.mp (show Option.bind _ _ = _ from h)
    split at he
    · cases he
    · rename_i hne
      cases he; rw [jx_2L_eq hq]; exact lv_lrem hx hb hd hne k
  | lneg =>
    obtain ⟨q, hq, he⟩ := Option.map_eq_some_iff.mp (show Option.map _ _ = _ from h)
    subst he; rw [jx_1L_eq hq]; exact lv_lneg hx hb hd k
  | lshl =>
    obtain ⟨q, hq, he⟩ := Option.map_eq_some_iff.mp (show Option.map _ _ = _ from h)
    subst he; rw [jx_LI_eq hq]; exact lv_lshl hx hb hd rfl k
  | lshr =>
    obtain ⟨q, hq, he⟩ := Option.map_eq_some_iff.mp (show Option.map _ _ = _ from h)
    subst he; rw [jx_LI_eq hq]; exact lv_lshr hx hb hd rfl k
  | lushr =>
    obtain ⟨q, hq, he⟩ := Option.map_eq_some_iff.mp (show Option.map _ _ = _ from h)
    subst he; rw [jx_LI_eq hq]; exact lv_lushr hx hb hd rfl k
  | i2l =>
    obtain ⟨q, hq, he⟩ := Option.map_eq_some_iff.mp (show Option.map _ _ = _ from h)
    subst he; rw [jx_1I_eq hq]; exact lv_i2l hx hb hd rfl k
  | l2i =>
    obtain ⟨q, hq, he⟩ := Option.map_eq_some_iff.mp (show Option.map _ _ = _ from h)
    subst he; rw [jx_1L_eq hq]; exact lv_l2i hx hb hd rfl k
  | i2b =>
    obtain ⟨q, hq, he⟩ := Option.map_eq_some_iff.mp (show Option.map _ _ = _ from h)
    subst he; rw [jx_1I_eq hq]; exact lv_i2b hx hb hd rfl k
  | i2s =>
    obtain ⟨q, hq, he⟩ := Option.map_eq_some_iff.mp (show Option.map _ _ = _ from h)
    subst he; rw [jx_1I_eq hq]; exact lv_i2s hx hb hd rfl k
  | i2c =>
    obtain ⟨q, hq, he⟩ := Option.map_eq_some_iff.mp (show Option.map _ _ = _ from h)
    subst he; rw [jx_1I_eq hq]; exact lv_i2c hx hb hd rfl k
  | lcmp =>
    obtain ⟨q, hq, he⟩ := Option.map_eq_some_iff.mp (show Option.map _ _ = _ from h)
    subst he; rw [jx_2L_eq hq]; exact W.lcmp hx hb hd k
  | i2d =>
    obtain ⟨q, hq, he⟩ := Option.map_eq_some_iff.mp (show Option.map _ _ = _ from h)
    subst he; rw [jx_1I_eq hq]; exact lv_i2d hx hb hd k
  | d2l =>
    obtain ⟨q, hq, he⟩ := Option.map_eq_some_iff.mp (show Option.map _ _ = _ from h)
    subst he; rw [jx_1D_eq hq]; exact lv_d2l hx hb hd k
  | d2f =>
    obtain ⟨q, hq, he⟩ := Option.bind_eq_some_iff.mp (show Option.bind _ _ = _ from h)
    split at he
    · rename_i hne
      cases he; rw [jx_1D_eq hq]; exact lv_d2f hx hb hd hne k
    · cases he
  | f2d =>
    obtain ⟨q, hq, he⟩ := Option.bind_eq_some_iff.mp (show Option.bind _ _ = _ from h)
    split at he
    · rename_i hne
      cases he; rw [jx_1F_eq hq]; exact lv_f2d hx hb hd hne k
    · cases he
  | dadd =>
    obtain ⟨q, hq, he⟩ := Option.bind_eq_some_iff.mp (show Option.bind _ _ = _ from h)
    split at he
    · rename_i hne
      cases he; rw [jx_2D_eq hq]; exact lv_dadd hx hb hd hne k
    · cases he
  | dsub =>
    obtain ⟨q, hq, he⟩ := Option.bind_eq_some_iff.mp (show Option.bind _ _ = _ from h)
    split at he
    · rename_i hne
      cases he; rw [jx_2D_eq hq]; exact lv_dsub hx hb hd hne k
    · cases he
  | ddiv =>
    obtain ⟨q, hq, he⟩ := Option.bind_eq_some_iff.mp (show Option.bind _ _ = _ from h)
    split at he
    · rename_i hne
      cases he; rw [jx_2D_eq hq]; exact lv_ddiv hx hb hd hne k
    · cases he
  | dcmp o =>
    obtain ⟨q, hq, he⟩ := Option.map_eq_some_iff.mp (show Option.map _ _ = _ from h)
    subst he; rw [jx_2D_eq hq]; exact lv_dcmp hx hb hd k
  | dup =>
    simp only [jx_S] at h
    split at h
    · split at h
      · rename_i hc
        cases h; exact lv_dup hx hb hd (by rw [jx_v_cat]; exact hc) k
      · cases h
    · cases h
  | pop =>
    simp only [jx_S] at h
    split at h
    · split at h
      · rename_i hc
        cases h; exact lv_pop hx hb hd (by rw [jx_v_cat]; exact hc) k
      · cases h
    · cases h
  | dup_x1 =>
    simp only [jx_S] at h
    split at h
    · split at h
      · rename_i hc
        cases h; exact lv_dup_x1 hx hb hd (by rw [jx_v_cat]; exact hc.1) (by rw [jx_v_cat]; exact hc.2) k
      · cases h
    · cases h
  | dup2 =>
    simp only [jx_S] at h
    split at h
    · rename_i v w r
      split at h
      · rename_i hc
        cases h; exact lv_dup2_2 hx hb hd (by rw [jx_v_cat]; exact hc) k
      · rename_i hv
        split at h
        · rename_i hw
          cases h; exact lv_dup2_11 hx hb hd (by rw [jx_v_cat]; rcases lv_cat v with h1 | h1 <;> omega) (by rw [jx_v_cat]; exact hw) k
        · cases h
    · split at h
      · rename_i hc
        cases h; exact lv_dup2_2 hx hb hd (by rw [jx_v_cat]; exact hc) k
      · cases h
    · cases h
  | _ => exact Option.noConfusion (show (none : Option (List Value)) = some st' from h)
end JXS
end
section
/-! LOCALS: a list, a place that holds nothing known is none -/
def jx_ld (l : jx_L) (i : Nat) : Option Value := match l[i]? with
  | some (some v) => some v
  | _ => none
/-- a store into the second half of a long: that long is gone -/
def jx_cl (l : jx_L) (i : Nat) : jx_L := match i with
  | 0 => l
  | j + 1 => match jx_ld l j with
    | some v => if v.category = 2 then l.set j none else l
    | none => l
def jx_s1 (n : Nat) (l : jx_L) (i : Nat) (v : Value) : Option jx_L := if i < n then some ((jx_cl l i).set i (some v)) else none
def jx_s2 (n : Nat) (l : jx_L) (i : Nat) (v : Value) : Option jx_L := if i + 1 < n then some (((jx_cl l i).set i (some v)).set (i + 1) none) else none
/-- the known places, with the machine's addresses -/
def jx_p (g : Nat → Nat) (l : jx_L) : List (Nat × Value) := (List.range l.length).filterMap fun i => (jx_ld l i).map fun v => (i, jx_v g v)
theorem jx_ld_iff {l : jx_L} {i : Nat} {v : Value} : jx_ld l i = some v ↔ l[i]? = some (some v) := by
  unfold jx_ld
  split
  · rename_i w h
    rw [h]; simp
  · rename_i h
    constructor
    · intro q; cases q
    · intro q; exact absurd q (h v)
theorem jx_p_mem {g : Nat → Nat} {l : jx_L} {q : Nat × Value} : q ∈ jx_p g l ↔ ∃ v, jx_ld l q.1 = some v ∧ q.2 = jx_v g v := by
  unfold jx_p
  rw [List.mem_filterMap]
  constructor
  · rintro ⟨i, -, h⟩
    obtain ⟨v, hv, he⟩ := Option.map_eq_some_iff.mp h
    subst he
    exact ⟨v, hv, rfl⟩
  · rintro ⟨v, hv, he⟩
    refine ⟨q.1, ?_, ?_⟩
    · rw [List.mem_range]
      exact (List.getElem?_eq_some_iff.mp (jx_ld_iff.mp hv)).1
    · rw [hv]
      show some (q.1, jx_v g v) = some q
      rw [← he]
/-- what of a list is known still holds of fewer -/
theorem jx_has_sub {ls : Array Slot} {n : Nat} {a b : List (Nat × Value)} (h : lv_has ls n a) (hs : ∀ q ∈ b, q ∈ a) : lv_has ls n b := ⟨h.1, h.2.1, fun q hq => h.2.2 q (hs q hq)⟩
theorem jx_at {g : Nat → Nat} {ls : Array Slot} {n : Nat} {l : jx_L} (h : lv_has ls n (jx_p g l)) {i : Nat} {v : Value} (hv : jx_ld l i = some v) : ls[i]? = some (.val (jx_v g v)) := h.2.2 (i, jx_v g v) (jx_p_mem.mpr ⟨v, hv, rfl⟩)
theorem jx_cl_ld {l : jx_L} {i j : Nat} {v : Value} (h : jx_ld (jx_cl l i) j = some v) : jx_ld l j = some v ∧ (j + 1 = i → v.category ≠ 2) := by
  unfold jx_cl at h
  split at h
  · exact ⟨h, fun q => by omega⟩
  · rename_i k
    split at h
    · rename_i w hw
      split at h
      · rename_i hc
        rw [jx_ld_iff] at h
        by_cases hj : j = k
        · subst hj
          rw [List.getElem?_set_self (List.getElem?_eq_some_iff.mp (jx_ld_iff.mp hw)).1] at h
          cases h
        · rw [List.getElem?_set_ne (Ne.symm hj)] at h
          exact ⟨jx_ld_iff.mpr h, fun q => by omega⟩
      · rename_i hc
        refine ⟨h, fun q => ?_⟩
        have hj : j = k := by omega
        subst hj
        rw [hw] at h; cases h
        exact hc
    · rename_i hw
      refine ⟨h, fun q => ?_⟩
      have hj : j = k := by omega
      subst hj
      rw [hw] at h; cases h
/-- behind a store of one slot -/
theorem jx_s1_has {g : Nat → Nat} {ls : Array Slot} {n : Nat} {l l' : jx_L} {i : Nat} {v : Value} (hs : jx_s1 n l i v = some l')
    (h : lv_has ls n ((i, jx_v g v) :: (jx_p g l).filter (fun q => !(q.1 == i) && !(q.1 + 1 == i && q.2.category == 2)))) : lv_has ls n (jx_p g l') := by
  unfold jx_s1 at hs
  split at hs
  · cases hs
    refine jx_has_sub h fun q hq => ?_
    obtain ⟨w, hw, he⟩ := jx_p_mem.mp hq
    obtain ⟨j, z⟩ := q
    dsimp only at hw he
    by_cases hj : j = i
    · subst hj
      have hlt : j < (jx_cl l j).length := by
        have := (List.getElem?_eq_some_iff.mp (jx_ld_iff.mp hw)).1
        simpa using this
      rw [jx_ld_iff, List.getElem?_set_self hlt] at hw
      cases hw
      rw [he]; exact List.mem_cons_self
    · rw [jx_ld_iff, List.getElem?_set_ne (Ne.symm hj), ← jx_ld_iff] at hw
      obtain ⟨h1, h2⟩ := jx_cl_ld hw
      refine List.mem_cons_of_mem _ (List.mem_filter.mpr ⟨jx_p_mem.mpr ⟨w, h1, he⟩, ?_⟩)
      have h3 : (j == i) = false := by simpa using hj
      simp only [h3, Bool.not_false, Bool.true_and, Bool.not_eq_true', Bool.and_eq_false_iff, beq_eq_false_iff_ne]
      by_cases h4 : j + 1 = i
      · right; rw [he, jx_v_cat]; exact h2 h4
      · left; exact h4
  · cases hs
/-- behind a store of two slots -/
theorem jx_s2_has {g : Nat → Nat} {ls : Array Slot} {n : Nat} {l l' : jx_L} {i : Nat} {v : Value} (hs : jx_s2 n l i v = some l')
    (h : lv_has ls n ((i, jx_v g v) :: (jx_p g l).filter (fun q => !(q.1 == i) && (!(q.1 == i + 1) && !(q.1 + 1 == i && q.2.category == 2))))) : lv_has ls n (jx_p g l') := by
  unfold jx_s2 at hs
  split at hs
  · cases hs
    refine jx_has_sub h fun q hq => ?_
    obtain ⟨w, hw, he⟩ := jx_p_mem.mp hq
    obtain ⟨j, z⟩ := q
    dsimp only at hw he
    by_cases hj1 : j = i + 1
    · subst hj1
      have hlt : i + 1 < ((jx_cl l i).set i (some v)).length := by
        have := (List.getElem?_eq_some_iff.mp (jx_ld_iff.mp hw)).1
        simpa using this
      rw [jx_ld_iff, List.getElem?_set_self hlt] at hw
      cases hw
    · rw [jx_ld_iff, List.getElem?_set_ne (Ne.symm hj1)] at hw
      by_cases hj : j = i
      · subst hj
        have hlt : j < (jx_cl l j).length := by
          have := (List.getElem?_eq_some_iff.mp hw).1
          simpa using this
        rw [List.getElem?_set_self hlt] at hw
        cases hw
        rw [he]; exact List.mem_cons_self
      · rw [List.getElem?_set_ne (Ne.symm hj), ← jx_ld_iff] at hw
        obtain ⟨h1, h2⟩ := jx_cl_ld hw
        refine List.mem_cons_of_mem _ (List.mem_filter.mpr ⟨jx_p_mem.mpr ⟨w, h1, he⟩, ?_⟩)
        have h3 : (j == i) = false := by simpa using hj
        have h5 : (j == i + 1) = false := by simpa using hj1
        simp only [h3, h5, Bool.not_false, Bool.true_and, Bool.not_eq_true', Bool.and_eq_false_iff, beq_eq_false_iff_ne]
        by_cases h4 : j + 1 = i
        · right; rw [he, jx_v_cat]; exact h2 h4
        · left; exact h4
  · cases hs
theorem jx_s1_lt {n : Nat} {l l' : jx_L} {i : Nat} {v : Value} (hs : jx_s1 n l i v = some l') : i < n := by
  unfold jx_s1 at hs; split at hs
  · assumption
  · cases hs
theorem jx_s2_lt {n : Nat} {l l' : jx_L} {i : Nat} {v : Value} (hs : jx_s2 n l i v = some l') : i + 1 < n := by
  unfold jx_s2 at hs; split at hs
  · assumption
  · cases hs
def jx_ldI (l : jx_L) (i : Nat) : Option Int32 := match jx_ld l i with
  | some (.int n) => some n
  | _ => none
def jx_ldL (l : jx_L) (i : Nat) : Option Int64 := match jx_ld l i with
  | some (.long n) => some n
  | _ => none
def jx_ldD (l : jx_L) (i : Nat) : Option UInt64 := match jx_ld l i with
  | some (.double n) => some n
  | _ => none
/-- a reference (its place) or null (none) -/
def jx_ldA (l : jx_L) (i : Nat) : Option (Option Nat) := match jx_ld l i with
  | some (.ref a) => some (some a)
  | some .null => some none
  | _ => none
theorem jx_ldI_eq {l : jx_L} {i : Nat} {n : Int32} (h : jx_ldI l i = some n) : jx_ld l i = some (.int n) := by
  unfold jx_ldI at h; split at h
  · rename_i hw; cases h; exact hw
  · cases h
theorem jx_ldL_eq {l : jx_L} {i : Nat} {n : Int64} (h : jx_ldL l i = some n) : jx_ld l i = some (.long n) := by
  unfold jx_ldL at h; split at h
  · rename_i hw; cases h; exact hw
  · cases h
theorem jx_ldD_eq {l : jx_L} {i : Nat} {n : UInt64} (h : jx_ldD l i = some n) : jx_ld l i = some (.double n) := by
  unfold jx_ldD at h; split at h
  · rename_i hw; cases h; exact hw
  · cases h
def jx_rf : Option Nat → Value
  | some a => .ref a
  | none => .null
theorem jx_ldA_eq {l : jx_L} {i : Nat} {o : Option Nat} (h : jx_ldA l i = some o) : jx_ld l i = some (jx_rf o) := by
  unfold jx_ldA at h; split at h
  · rename_i hw; cases h; exact hw
  · rename_i hw; cases h; exact hw
  · cases h
/-- a reference or null on top -/
def jx_1O : List Value → Option (Option Nat × List Value)
  | .ref a :: r => some (some a, r)
  | .null :: r => some (none, r)
  | _ => none
theorem jx_1O_eq {st : List Value} {q : Option Nat × List Value} (h : jx_1O st = some q) : st = jx_rf q.1 :: q.2 := by
  unfold jx_1O at h; split at h <;> cases h <;> rfl
/-! instructions on locals -/
def jx_Lo (n : Nat) (i : Instr) (l : jx_L) (st : List Value) : Option (jx_L × List Value) := match i with
  | .iload k => (jx_ldI l k).map fun v => (l, .int v :: st)
  | .iload_n k => (jx_ldI l (k : Nat)).map fun v => (l, .int v :: st)
  | .lload k => (jx_ldL l k).map fun v => (l, .long v :: st)
  | .lload_n k => (jx_ldL l (k : Nat)).map fun v => (l, .long v :: st)
  | .dload k => (jx_ldD l k).map fun v => (l, .double v :: st)
  | .dload_n k => (jx_ldD l (k : Nat)).map fun v => (l, .double v :: st)
  | .aload k => (jx_ldA l k).map fun v => (l, jx_rf v :: st)
  | .aload_n k => (jx_ldA l (k : Nat)).map fun v => (l, jx_rf v :: st)
  | .istore k => (jx_1I st).bind fun q => (jx_s1 n l k (.int q.1)).map fun l' => (l', q.2)
  | .istore_n k => (jx_1I st).bind fun q => (jx_s1 n l (k : Nat) (.int q.1)).map fun l' => (l', q.2)
  | .lstore k => (jx_1L st).bind fun q => (jx_s2 n l k (.long q.1)).map fun l' => (l', q.2)
  | .lstore_n k => (jx_1L st).bind fun q => (jx_s2 n l (k : Nat) (.long q.1)).map fun l' => (l', q.2)
  | .dstore k => (jx_1D st).bind fun q => (jx_s2 n l k (.double q.1)).map fun l' => (l', q.2)
  | .dstore_n k => (jx_1D st).bind fun q => (jx_s2 n l (k : Nat) (.double q.1)).map fun l' => (l', q.2)
  | .astore k => (jx_1O st).bind fun q => (jx_s1 n l k (jx_rf q.1)).map fun l' => (l', q.2)
  | .astore_n k => (jx_1O st).bind fun q => (jx_s1 n l (k : Nat) (jx_rf q.1)).map fun l' => (l', q.2)
  | .iinc k d => (jx_ldI l k).bind fun v => (jx_s1 n l k (.int (v + Int32.ofInt d))).map fun l' => (l', st)
  | _ => none
/-! jumps -/
def jx_J (pc : Nat) (i : Instr) (st : List Value) : Option (Nat × List Value) := match i with
  | .goto off => (jx_j pc off).map fun t => (t, st)
  | .ifCond .eq off => (jx_1I st).bind fun q => (jx_j pc off).map fun t => (if q.1 = 0 then t else pc + 3, q.2)
  | .ifCond .ne off => (jx_1I st).bind fun q => (jx_j pc off).map fun t => (if ¬ q.1 = 0 then t else pc + 3, q.2)
  | .ifCond .lt off => (jx_1I st).bind fun q => (jx_j pc off).map fun t => (if q.1 < 0 then t else pc + 3, q.2)
  | .ifCond .ge off => (jx_1I st).bind fun q => (jx_j pc off).map fun t => (if 0 ≤ q.1 then t else pc + 3, q.2)
  | .ifCond .gt off => (jx_1I st).bind fun q => (jx_j pc off).map fun t => (if 0 < q.1 then t else pc + 3, q.2)
  | .ifCond .le off => (jx_1I st).bind fun q => (jx_j pc off).map fun t => (if q.1 ≤ 0 then t else pc + 3, q.2)
  | .if_icmp .eq off => (jx_2I st).bind fun q => (jx_j pc off).map fun t => (if q.1 = q.2.1 then t else pc + 3, q.2.2)
  | .if_icmp .ne off => (jx_2I st).bind fun q => (jx_j pc off).map fun t => (if ¬ q.1 = q.2.1 then t else pc + 3, q.2.2)
  | .if_icmp .lt off => (jx_2I st).bind fun q => (jx_j pc off).map fun t => (if q.1 < q.2.1 then t else pc + 3, q.2.2)
  | .if_icmp .ge off => (jx_2I st).bind fun q => (jx_j pc off).map fun t => (if q.2.1 ≤ q.1 then t else pc + 3, q.2.2)
  | .if_icmp .gt off => (jx_2I st).bind fun q => (jx_j pc off).map fun t => (if q.2.1 < q.1 then t else pc + 3, q.2.2)
  | .if_icmp .le off => (jx_2I st).bind fun q => (jx_j pc off).map fun t => (if q.1 ≤ q.2.1 then t else pc + 3, q.2.2)
  | .ifnull off => (jx_1O st).bind fun q => (jx_j pc off).map fun t => (if q.1 = none then t else pc + 3, q.2)
  | .ifnonnull off => (jx_1O st).bind fun q => (jx_j pc off).map fun t => (if q.1 = none then pc + 3 else t, q.2)
  | _ => none
/-- switches: they may be of any length -/
def jx_W (pc : Nat) (i : Instr) (st : List Value) : Option (Nat × List Value) := match i with
  | .tableswitch dflt lo hi offs => (jx_1I st).bind fun q => (jx_j pc (if q.1.toInt < lo ∨ hi < q.1.toInt then dflt else (offs[(q.1.toInt - lo).toNat]?).getD dflt)).bind fun t => if q.1.toInt < lo ∨ hi < q.1.toInt ∨ (q.1.toInt - lo).toNat < offs.size then some (t, q.2) else none
  | .lookupswitch dflt ps => (jx_1I st).bind fun q => (jx_j pc (Op.lookupswitch.offset ps.toList dflt q.1.toInt)).bind fun t => if (ps.toList.zip (ps.toList.drop 1)).all (fun (a, next) => a.1 < next.1) = true then some (t, q.2) else none
  | _ => none
section JXL
variable {p : Program} {l : Launch} {e : Env} {R : Room} {s : State} {m : MethodId} {args : Array Value} {below : List Frame} {meth : Method} {c : Code} {H : Heap} {locs : List Loc} {cells slots : Nat} {Q : State → Prop} {cc : ByteArray} {pc : Nat} {ls : Array Slot} {g : Nat → Nat}
theorem jx_Lo_ok (hx : p.tables.exec = Jvm.exec) (hb : c.code = cc) {i : Instr} {n : Nat} {lo lo' : jx_L} {st st' : List Value} (hd : decode cc pc = .ok (i, jx_len i)) (h : jx_Lo n i lo st = some (lo', st')) (hl : lv_has ls n (jx_p g lo))
    (k : ∀ ls' : Array Slot, lv_has ls' n (jx_p g lo') → W p l e R s m args below meth c H locs cells slots Q (F0 m (pc + jx_len i) ls' (st'.map (jx_v g)))) : W p l e R s m args below meth c H locs cells slots Q (F0 m pc ls (st.map (jx_v g))) := by
  cases i with
  | iload j =>
    obtain ⟨v, hv, he⟩ := Option.map_eq_some_iff.mp (show Option.map _ _ = _ from h)
    cases he
    exact lv_iload hx hb hd (jx_at hl (jx_ldI_eq hv)) (k ls hl)
  | iload_n j =>
    obtain ⟨v, hv, he⟩ := Option.map_eq_some_iff.mp (show Option.map _ _ = _ from h)
    cases he
    exact lv_iload_n hx hb hd rfl (jx_at hl (jx_ldI_eq hv)) (k ls hl)
  | lload j =>
    obtain ⟨v, hv, he⟩ := Option.map_eq_some_iff.mp (show Option.map _ _ = _ from h)
    cases he
    exact lv_lload hx hb hd (jx_at hl (jx_ldL_eq hv)) (k ls hl)
  | lload_n j =>
    obtain ⟨v, hv, he⟩ := Option.map_eq_some_iff.mp (show Option.map _ _ = _ from h)
    cases he
    exact lv_lload_n hx hb hd rfl (jx_at hl (jx_ldL_eq hv)) (k ls hl)
  | dload j =>
    obtain ⟨v, hv, he⟩ := Option.map_eq_some_iff.mp (show Option.map _ _ = _ from h)
    cases he
    exact lv_dload hx hb hd (jx_at hl (jx_ldD_eq hv)) (k ls hl)
  | dload_n j =>
    obtain ⟨v, hv, he⟩ := Option.map_eq_some_iff.mp (show Option.map _ _ = _ from h)
    cases he
    exact lv_dload_n hx hb hd rfl (jx_at hl (jx_ldD_eq hv)) (k ls hl)
  | aload j =>
    obtain ⟨v, hv, he⟩ := Option.map_eq_some_iff.mp (show Option.map _ _ = _ from h)
    cases he
    have ha := jx_at hl (jx_ldA_eq hv)
    cases v with
    | some a => exact lv_aload hx hb hd ha (k ls hl)
    | none => exact lv_aloadN hx hb hd ha (k ls hl)
  | aload_n j =>
    obtain ⟨v, hv, he⟩ := Option.map_eq_some_iff.mp (show Option.map _ _ = _ from h)
    cases he
    have ha := jx_at hl (jx_ldA_eq hv)
    cases v with
    | some a => exact lv_aload_n hx hb hd rfl ha (k ls hl)
    | none => exact lv_aload_nN hx hb hd rfl ha (k ls hl)
  | istore j =>
    obtain ⟨q, hq, h1⟩ := Option.bind_eq_some_iff.mp (show Option.bind _ _ = _ from h)
    obtain ⟨l2, h2, he⟩ := Option.map_eq_some_iff.mp h1
    cases he
    rw [jx_1I_eq hq]
    exact lv_istore hx hb hd hl (jx_s1_lt h2) rfl (fun ls' h3 => k ls' (jx_s1_has h2 h3))
  | istore_n j =>
    obtain ⟨q, hq, h1⟩ := Option.bind_eq_some_iff.mp (show Option.bind _ _ = _ from h)
    obtain ⟨l2, h2, he⟩ := Option.map_eq_some_iff.mp h1
    cases he
    rw [jx_1I_eq hq]
    exact lv_istore_n hx hb hd rfl hl (jx_s1_lt h2) rfl (fun ls' h3 => k ls' (jx_s1_has h2 h3))
  | lstore j =>
    obtain ⟨q, hq, h1⟩ := Option.bind_eq_some_iff.mp (show Option.bind _ _ = _ from h)
    obtain ⟨l2, h2, he⟩ := Option.map_eq_some_iff.mp h1
    cases he
    rw [jx_1L_eq hq]
    exact lv_lstore hx hb hd hl (jx_s2_lt h2) rfl (fun ls' h3 => k ls' (jx_s2_has h2 h3))
  | lstore_n j =>
    obtain ⟨q, hq, h1⟩ := Option.bind_eq_some_iff.mp (show Option.bind _ _ = _ from h)
    obtain ⟨l2, h2, he⟩ := Option.map_eq_some_iff.mp h1
    cases he
    rw [jx_1L_eq hq]
    exact lv_lstore_n hx hb hd rfl hl (jx_s2_lt h2) rfl (fun ls' h3 => k ls' (jx_s2_has h2 h3))
  | dstore j =>
    obtain ⟨q, hq, h1⟩ := Option.bind_eq_some_iff.mp (show Option.bind _ _ = _ from h)
    obtain ⟨l2, h2, he⟩ := Option.map_eq_some_iff.mp h1
    cases he
    rw [jx_1D_eq hq]
    exact lv_dstore hx hb hd hl (jx_s2_lt h2) rfl (fun ls' h3 => k ls' (jx_s2_has h2 h3))
  | dstore_n j =>
    obtain ⟨q, hq, h1⟩ := Option.bind_eq_some_iff.mp (show Option.bind _ _ = _ from h)
    obtain ⟨l2, h2, he⟩ := Option.map_eq_some_iff.mp h1
    cases he
    rw [jx_1D_eq hq]
    exact lv_dstore_n hx hb hd rfl hl (jx_s2_lt h2) rfl (fun ls' h3 => k ls' (jx_s2_has h2 h3))
  | astore j =>
    obtain ⟨q, hq, h1⟩ := Option.bind_eq_some_iff.mp (show Option.bind _ _ = _ from h)
    obtain ⟨l2, h2, he⟩ := Option.map_eq_some_iff.mp h1
    cases he
    rw [jx_1O_eq hq]
    obtain ⟨o, r⟩ := q
    cases o with
    | some a => exact lv_astore hx hb hd hl (jx_s1_lt h2) rfl (fun ls' h3 => k ls' (jx_s1_has h2 h3))
    | none => exact lv_astoreN hx hb hd hl (jx_s1_lt h2) rfl (fun ls' h3 => k ls' (jx_s1_has h2 h3))
  | astore_n j =>
    obtain ⟨q, hq, h1⟩ := Option.bind_eq_some_iff.mp (show Option.bind _ _ = _ from h)
    obtain ⟨l2, h2, he⟩ := Option.map_eq_some_iff.mp h1
    cases he
    rw [jx_1O_eq hq]
    obtain ⟨o, r⟩ := q
    cases o with
    | some a => exact lv_astore_n hx hb hd rfl hl (jx_s1_lt h2) rfl (fun ls' h3 => k ls' (jx_s1_has h2 h3))
    | none => exact lv_astore_nN hx hb hd rfl hl (jx_s1_lt h2) rfl (fun ls' h3 => k ls' (jx_s1_has h2 h3))
  | iinc j d =>
    obtain ⟨v, hv, h1⟩ := Option.bind_eq_some_iff.mp (show Option.bind _ _ = _ from h)
    obtain ⟨l2, h2, he⟩ := Option.map_eq_some_iff.mp h1
    cases he
    obtain ⟨z, hz⟩ := List.getElem?_of_mem (jx_p_mem (g := g) (q := (j, .int v)).mpr ⟨.int v, jx_ldI_eq hv, rfl⟩)
    exact lv_iinc hx hb hd hl hz rfl (jx_s1_lt h2) rfl (fun ls' h3 => k ls' (jx_s1_has h2 h3))
  | _ => exact Option.noConfusion (show (none : Option (jx_L × List Value)) = some (lo', st') from h)
theorem jx_J_ok (hx : p.tables.exec = Jvm.exec) (hb : c.code = cc) {i : Instr} {t : Nat} {st st' : List Value} (hd : decode cc pc = .ok (i, jx_len i)) (h : jx_J pc i st = some (t, st'))
    (k : W p l e R s m args below meth c H locs cells slots Q (F0 m t ls (st'.map (jx_v g)))) : W p l e R s m args below meth c H locs cells slots Q (F0 m pc ls (st.map (jx_v g))) := by
  cases i with
  | goto off =>
    obtain ⟨v, hv, he⟩ := Option.map_eq_some_iff.mp (show Option.map _ _ = _ from h)
    cases he
    exact lv_goto hx hb hd (jx_j_ok hv) k
  | ifCond cd off =>
    cases cd with
    | eq =>
      obtain ⟨q, hq, h1⟩ := Option.bind_eq_some_iff.mp (show Option.bind _ _ = _ from h)
      obtain ⟨t2, h2, he⟩ := Option.map_eq_some_iff.mp h1
      cases he
      rw [jx_1I_eq hq]
      exact lv_if_eq hx hb hd (jx_j_ok h2) (fun hc => by rw [if_pos hc] at k; exact k) (fun hc => by rw [if_neg hc] at k; exact k)
    | ne =>
      obtain ⟨q, hq, h1⟩ := Option.bind_eq_some_iff.mp (show Option.bind _ _ = _ from h)
      obtain ⟨t2, h2, he⟩ := Option.map_eq_some_iff.mp h1
      cases he
      rw [jx_1I_eq hq]
      exact lv_if_ne hx hb hd (jx_j_ok h2) (fun hc => by rw [if_pos hc] at k; exact k) (fun hc => by rw [if_neg (fun z => z hc)] at k; exact k)
    | lt =>
      obtain ⟨q, hq, h1⟩ := Option.bind_eq_some_iff.mp (show Option.bind _ _ = _ from h)
      obtain ⟨t2, h2, he⟩ := Option.map_eq_some_iff.mp h1
      cases he
      rw [jx_1I_eq hq]
      exact lv_if_lt hx hb hd (jx_j_ok h2) (fun hc => by rw [if_pos hc] at k; exact k) (fun hc => by rw [if_neg hc] at k; exact k)
    | ge =>
      obtain ⟨q, hq, h1⟩ := Option.bind_eq_some_iff.mp (show Option.bind _ _ = _ from h)
      obtain ⟨t2, h2, he⟩ := Option.map_eq_some_iff.mp h1
      cases he
      rw [jx_1I_eq hq]
      exact lv_if_ge hx hb hd (jx_j_ok h2) (fun hc => by rw [if_pos hc] at k; exact k) (fun hc => by rw [if_neg hc] at k; exact k)
    | gt =>
      obtain ⟨q, hq, h1⟩ := Option.bind_eq_some_iff.mp (show Option.bind _ _ = _ from h)
      obtain ⟨t2, h2, he⟩ := Option.map_eq_some_iff.mp h1
      cases he
      rw [jx_1I_eq hq]
      exact lv_if_gt hx hb hd (jx_j_ok h2) (fun hc => by rw [if_pos hc] at k; exact k) (fun hc => by rw [if_neg hc] at k; exact k)
    | le =>
      obtain ⟨q, hq, h1⟩ := Option.bind_eq_some_iff.mp (show Option.bind _ _ = _ from h)
      obtain ⟨t2, h2, he⟩ := Option.map_eq_some_iff.mp h1
      cases he
      rw [jx_1I_eq hq]
      exact lv_if_le hx hb hd (jx_j_ok h2) (fun hc => by rw [if_pos hc] at k; exact k) (fun hc => by rw [if_neg hc] at k; exact k)
  | if_icmp cd off =>
    cases cd with
    | eq =>
      obtain ⟨q, hq, h1⟩ := Option.bind_eq_some_iff.mp (show Option.bind _ _ = _ from h)
      obtain ⟨t2, h2, he⟩ := Option.map_eq_some_iff.mp h1
      cases he
      rw [jx_2I_eq hq]
      exact lv_icmp_eq hx hb hd (jx_j_ok h2) (fun hc => by rw [if_pos hc] at k; exact k) (fun hc => by rw [if_neg hc] at k; exact k)
    | ne =>
      obtain ⟨q, hq, h1⟩ := Option.bind_eq_some_iff.mp (show Option.bind _ _ = _ from h)
      obtain ⟨t2, h2, he⟩ := Option.map_eq_some_iff.mp h1
      cases he
      rw [jx_2I_eq hq]
      exact lv_icmp_ne hx hb hd (jx_j_ok h2) (fun hc => by rw [if_pos hc] at k; exact k) (fun hc => by rw [if_neg (fun z => z hc)] at k; exact k)
    | lt =>
      obtain ⟨q, hq, h1⟩ := Option.bind_eq_some_iff.mp (show Option.bind _ _ = _ from h)
      obtain ⟨t2, h2, he⟩ := Option.map_eq_some_iff.mp h1
      cases he
      rw [jx_2I_eq hq]
      exact lv_icmp_lt hx hb hd (jx_j_ok h2) (fun hc => by rw [if_pos hc] at k; exact k) (fun hc => by rw [if_neg hc] at k; exact k)
    | ge =>
      obtain ⟨q, hq, h1⟩ := Option.bind_eq_some_iff.mp (show Option.bind _ _ = _ from h)
      obtain ⟨t2, h2, he⟩ := Option.map_eq_some_iff.mp h1
      cases he
      rw [jx_2I_eq hq]
      exact lv_icmp_ge hx hb hd (jx_j_ok h2) (fun hc => by rw [if_pos hc] at k; exact k) (fun hc => by rw [if_neg hc] at k; exact k)
    | gt =>
      obtain ⟨q, hq, h1⟩ := Option.bind_eq_some_iff.mp (show Option.bind _ _ = _ from h)
      obtain ⟨t2, h2, he⟩ := Option.map_eq_some_iff.mp h1
      cases he
      rw [jx_2I_eq hq]
      exact lv_icmp_gt hx hb hd (jx_j_ok h2) (fun hc => by rw [if_pos hc] at k; exact k) (fun hc => by rw [if_neg hc] at k; exact k)
    | le =>
      obtain ⟨q, hq, h1⟩ := Option.bind_eq_some_iff.mp (show Option.bind _ _ = _ from h)
      obtain ⟨t2, h2, he⟩ := Option.map_eq_some_iff.mp h1
      cases he
      rw [jx_2I_eq hq]
      exact lv_icmp_le hx hb hd (jx_j_ok h2) (fun hc => by rw [if_pos hc] at k; exact k) (fun hc => by rw [if_neg hc] at k; exact k)
  | ifnull off =>
    obtain ⟨q, hq, h1⟩ := Option.bind_eq_some_iff.mp (show Option.bind _ _ = _ from h)
    obtain ⟨t2, h2, he⟩ := Option.map_eq_some_iff.mp h1
    cases he
    rw [jx_1O_eq hq]
    obtain ⟨o, r⟩ := q
    cases o with
    | some a => exact lv_ifnull hx hb hd k
    | none => exact lv_ifnullN hx hb hd (jx_j_ok h2) k
  | ifnonnull off =>
    obtain ⟨q, hq, h1⟩ := Option.bind_eq_some_iff.mp (show Option.bind _ _ = _ from h)
    obtain ⟨t2, h2, he⟩ := Option.map_eq_some_iff.mp h1
    cases he
    rw [jx_1O_eq hq]
    obtain ⟨o, r⟩ := q
    cases o with
    | some a => exact lv_ifnonnull hx hb hd (jx_j_ok h2) k
    | none => exact lv_ifnonnullN hx hb hd k
  | _ => exact Option.noConfusion (show (none : Option (Nat × List Value)) = some (t, st') from h)
theorem jx_W_ok (hx : p.tables.exec = Jvm.exec) (hb : c.code = cc) {i : Instr} {len t : Nat} {st st' : List Value} (hd : decode cc pc = .ok (i, len)) (h : jx_W pc i st = some (t, st'))
    (k : W p l e R s m args below meth c H locs cells slots Q (F0 m t ls (st'.map (jx_v g)))) : W p l e R s m args below meth c H locs cells slots Q (F0 m pc ls (st.map (jx_v g))) := by
  cases i with
  | tableswitch dflt lo hi offs =>
    obtain ⟨q, hq, h1⟩ := Option.bind_eq_some_iff.mp (show Option.bind _ _ = _ from h)
    obtain ⟨t2, h2, h3⟩ := Option.bind_eq_some_iff.mp h1
    split at h3
    · rename_i hc
      cases h3
      rw [jx_1I_eq hq]
      by_cases ho : q.1.toInt < lo ∨ hi < q.1.toInt
      · rw [if_pos ho] at h2
        exact lv_tableOut hx hb hd ho (jx_j_ok h2) k
      · rw [if_neg ho] at h2
        have h4 : (q.1.toInt - lo).toNat < offs.size := by
          rcases hc with hc | hc | hc
          · exact absurd (Or.inl hc) ho
          · exact absurd (Or.inr hc) ho
          · exact hc
        have h5 : offs[(q.1.toInt - lo).toNat]? = some offs[(q.1.toInt - lo).toNat] := Array.getElem?_eq_getElem h4
        rw [h5] at h2
        exact lv_tableIn hx hb hd (fun z => ho (Or.inl z)) (fun z => ho (Or.inr z)) h5 (jx_j_ok h2) k
    · cases h3
  | lookupswitch dflt ps =>
    obtain ⟨q, hq, h1⟩ := Option.bind_eq_some_iff.mp (show Option.bind _ _ = _ from h)
    obtain ⟨t2, h2, h3⟩ := Option.bind_eq_some_iff.mp h1
    split at h3
    · rename_i hc
      cases h3
      rw [jx_1I_eq hq]
      exact lv_lookup hx hb hd hc rfl (jx_j_ok h2) k
    · cases h3
  | _ => exact Option.noConfusion (show (none : Option (Nat × List Value)) = some (t, st') from h)
end JXL
end
section
/-! THE HEAP: cells side by side from an address on -/
/-- the address of a place: 0, 1, 2 are given rows; the others lie side by side from base on -/
def jx_ad (t : Nat → Nat) (base : Nat) (k : Nat) : Nat := if k < 3 then t k else base + (k - 3)
def jx_iv : Value → Int32
  | .int n => n
  | _ => 0
def jx_lv : Value → Int64
  | .long n => n
  | _ => 0
def jx_dv : Value → UInt64
  | .double n => n
  | _ => 0
def jx_rv (g : Nat → Nat) : Value → Option Nat
  | .ref a => some (g a)
  | _ => none
/-- an array's contents, as the kit has them -/
def jx_co (g : Nat → Nat) (ty : FieldType) (vs : List Value) : vp_A := match ty with
  | .long => (vs.length, .inr (.inl fun i => jx_lv (vs.getD i .null)))
  | .double => (vs.length, .inr (.inr (.inr (.inl fun i => jx_dv (vs.getD i .null)))))
  | .object _ => (vs.length, .inr (.inr (.inr (.inr fun i => jx_rv g (vs.getD i .null)))))
  | _ => (vs.length, .inl fun i => jx_iv (vs.getD i .null))
def jx_e (g : Nat → Nat) (dA : FieldType → ClassId) : jx_C → va_E
  | .inl c => .inl (dA c.1, jx_co g c.1 c.2)
  | .inr o => .inr (o.1, o.2.map (jx_v g))
def jx_w (g : Nat → Nat) (dA : FieldType → ClassId) : Nat → List jx_C → va_W
  | _, [] => []
  | a, c :: r => (a, jx_e g dA c) :: jx_w g dA (a + 1) r
theorem jx_w_get {g : Nat → Nat} {dA : FieldType → ClassId} : ∀ {h : List jx_C} {a k : Nat} {c : jx_C}, h[k]? = some c → (jx_w g dA a h)[k]? = some (a + k, jx_e g dA c)
  | [], a, k, c, h => by simp at h
  | d :: r, a, 0, c, h => by simp at h; subst h; rfl
  | d :: r, a, k + 1, c, h => by
    rw [List.getElem?_cons_succ] at h
    show (jx_w g dA (a + 1) r)[k]? = _
    rw [jx_w_get h]
    congr 2
    omega
theorem jx_w_inv {g : Nat → Nat} {dA : FieldType → ClassId} : ∀ {h : List jx_C} {a k : Nat} {q : Nat × va_E}, (jx_w g dA a h)[k]? = some q → ∃ c, h[k]? = some c ∧ q = (a + k, jx_e g dA c)
  | [], a, k, q, h => by simp [jx_w] at h
  | d :: r, a, 0, q, h => by
    simp [jx_w] at h
    exact ⟨d, rfl, by rw [← h]; rfl⟩
  | d :: r, a, k + 1, q, h => by
    have h1 : (jx_w g dA (a + 1) r)[k]? = some q := h
    obtain ⟨c, h2, h3⟩ := jx_w_inv h1
    exact ⟨c, by rw [List.getElem?_cons_succ]; exact h2, by rw [h3]; congr 1; omega⟩
theorem jx_w_len {g : Nat → Nat} {dA : FieldType → ClassId} : ∀ (h : List jx_C) (a : Nat), (jx_w g dA a h).length = h.length
  | [], _ => rfl
  | _ :: r, a => by simp [jx_w, jx_w_len r (a + 1)]
theorem jx_w_set {g : Nat → Nat} {dA : FieldType → ClassId} : ∀ (h : List jx_C) (a k : Nat) (c : jx_C), jx_w g dA a (h.set k c) = (jx_w g dA a h).set k (a + k, jx_e g dA c)
  | [], a, k, c => rfl
  | d :: r, a, 0, c => rfl
  | d :: r, a, k + 1, c => by
    show (a, jx_e g dA d) :: jx_w g dA (a + 1) (r.set k c) = (a, jx_e g dA d) :: (jx_w g dA (a + 1) r).set k (a + (k + 1), jx_e g dA c)
    rw [jx_w_set r (a + 1) k c]
    congr 3
    omega
theorem jx_w_app {g : Nat → Nat} {dA : FieldType → ClassId} : ∀ (h : List jx_C) (a : Nat) (c : jx_C), jx_w g dA a (h ++ [c]) = jx_w g dA a h ++ [(a + h.length, jx_e g dA c)]
  | [], a, c => rfl
  | d :: r, a, c => by
    show (a, jx_e g dA d) :: jx_w g dA (a + 1) (r ++ [c]) = (a, jx_e g dA d) :: (jx_w g dA (a + 1) r ++ [(a + (r.length + 1), jx_e g dA c)])
    rw [jx_w_app r (a + 1) c]
    congr 4
    omega
theorem jx_w_D (g : Nat → Nat) (dA : FieldType → ClassId) (a : Nat) (h : List jx_C) : va_D (fun q => a ≤ q) (jx_w g dA a h) := by
  refine ⟨fun i j p q hi hj e => ?_, fun k q hk => ?_⟩
  · obtain ⟨c, -, h1⟩ := jx_w_inv hi
    obtain ⟨d, -, h2⟩ := jx_w_inv hj
    rw [h1, h2] at e
    have e' : a + i = a + j := e
    omega
  · obtain ⟨c, -, h1⟩ := jx_w_inv hk
    rw [h1]
    exact Nat.le_add_right a k
/-- how many fields and elements there are -/
def jx_c1 : jx_C → Nat
  | .inl c => c.2.length
  | .inr o => o.2.length
def jx_sz (h : List jx_C) : Nat := (h.map jx_c1).sum
theorem jx_sz_app (h : List jx_C) (c : jx_C) : jx_sz (h ++ [c]) = jx_sz h + jx_c1 c := by simp [jx_sz]
theorem jx_sz_set : ∀ (h : List jx_C) (k : Nat) (c d : jx_C), h[k]? = some d → jx_c1 c = jx_c1 d → jx_sz (h.set k c) = jx_sz h
  | [], k, c, d, hk, _ => by simp at hk
  | z :: r, 0, c, d, hk, e => by
    simp at hk; subst hk
    simp [jx_sz, e]
  | z :: r, k + 1, c, d, hk, e => by
    rw [List.getElem?_cons_succ] at hk
    have := jx_sz_set r k c d hk e
    simp only [jx_sz, List.set_cons_succ, List.map_cons, List.sum_cons] at this ⊢
    omega
/-- the class ids of the array classes that are used -/
def jx_tys (dA : FieldType → ClassId) : List (ClassId × FieldType) := [(dA .int, .int), (dA .long, .long), (dA .char, .char), (dA .boolean, .boolean), (dA .double, .double), (dA (.object "RaceHouse$Thing"), .object "RaceHouse$Thing")]
def jx_nm : List (String × Nat × MethodName × String) := tables_1.filterMap fun w => match w with
  | .methodLinkNest a i y h => some (a, i, y, h)
  | _ => none
def jx_nk : List (String × String) := tables_1.filterMap fun w => match w with
  | .castable a b => some (a, b)
  | _ => none
def jx_nc : List (String × String) := [("RaceHouse", "RaceHouse$Row"), ("RaceHouse$Acts", "RaceHouse$Row"), ("RaceHouse$Plan", "RaceHouse$Row"), ("RaceHouse$Clocks", "RaceHouse$Row"), ("RaceHouse$Course", "RaceHouse$Row"), ("RaceHouse$Fit", "RaceHouse$Row"), ("RaceHouse$Pages", "RaceHouse$Row"), ("RaceHouseModel", "RaceHouse$Row"), ("RaceHouse$Rack", "RaceHouse$Row"), ("RaceHouse$Member", "RaceHouse$Row"), ("RaceHouse", "RaceHouse$Rack"), ("RaceHouse$Acts", "RaceHouse$Rack"), ("RaceHouse$Plan", "RaceHouse$Rack"), ("RaceHouse$Clocks", "RaceHouse$Rack"), ("RaceHouse$Course", "RaceHouse$Rack"), ("RaceHouse$Fit", "RaceHouse$Rack"), ("RaceHouse$Pages", "RaceHouse$Rack"), ("RaceHouseModel", "RaceHouse$Rack"), ("RaceHouse$Row", "RaceHouse$Rack"), ("RaceHouse$Member", "RaceHouse$Rack"), ("RaceHouse", "RaceHouse$Member"), ("RaceHouse$Acts", "RaceHouse$Member"), ("RaceHouse$Plan", "RaceHouse$Member"), ("RaceHouse$Clocks", "RaceHouse$Member"), ("RaceHouse$Course", "RaceHouse$Member"), ("RaceHouse$Fit", "RaceHouse$Member"), ("RaceHouse$Pages", "RaceHouse$Member"), ("RaceHouseModel", "RaceHouse$Member"), ("RaceHouse$Row", "RaceHouse$Member"), ("RaceHouse$Rack", "RaceHouse$Member")]
/-- what the tables and the outer rows are at a method's start -/
def jx_K (D : va_G) (dA : FieldType → ClassId) (t : Nat → Nat) (base : Nat) (o : List (List Value)) (s : State) : Prop :=
  va_K D vwCl (jx_tys dA) s ∧ (∀ q ∈ jx_nm, va_Nw (.methodLinkNest q.1 q.2.1 q.2.2.1 q.2.2.2) s) ∧ (∀ q ∈ jx_nk, va_Nw (.castable q.1 q.2) s) ∧ (∀ q ∈ jx_nc, va_Nc q.1 q.2 s) ∧ va_AO "RaceHouse$Thing" s ∧
  (∀ (k : Nat) (vs : List Value), o[k]? = some vs → va_T .int (t k) vs.length (fun j => vs.getD j .null) (fun q => base ≤ q) s s.heap) ∧
  va_Z "RaceHouse" "FIELD_TYPES" "[I" (.ref (t 1)) (fun q => base ≤ q) s s.heap ∧ va_Z "RaceHouse" "ASK_TYPES" "[I" (.ref (t 2)) (fun q => base ≤ q) s s.heap ∧ o.length = 3
theorem jx_K.moved {D : va_G} {dA : FieldType → ClassId} {t : Nat → Nat} {base : Nat} {o : List (List Value)} {s U : State} (h : jx_K D dA t base o s) (hW : s.WarmedH U.vm) (hS : ∀ a : Nat, a < s.heap.size → ¬ base ≤ a → U.heap[a]? = s.heap[a]?) : jx_K D dA t base o U := by
  obtain ⟨h1, h2, h3, h4, h5, h6, h7, h8, h9⟩ := h
  exact ⟨h1.moved hW.alike, fun q hq => (h2 q hq).warmM hW, fun q hq => (h3 q hq).warmC hW, fun q hq => (h4 q hq).moved hW.alike, h5.moved hW.alike, fun k vs hk => ((h6 k vs hk).kept hS).moved hW.alike, (h7.kept hS).moved hW.alike, (h8.kept hS).moved hW.alike, h9⟩
/-- the heap of the machine holds the list's cells (those behind the three outer rows) -/
def jx_P (D : va_G) (dA : FieldType → ClassId) (t : Nat → Nat) (base : Nat) (h : List jx_C) (H : Heap) : Prop := va_P D vwCl (jx_w (jx_ad t base) dA base (h.drop 3)) H
/-- the three outer rows stand in front -/
def jx_o3 (o : List (List Value)) (h : List jx_C) : Prop := ∀ k, k < 3 → ∃ vs, o[k]? = some vs ∧ h[k]? = some (.inl (.int, vs))
theorem jx_o3.set {o : List (List Value)} {h : List jx_C} (q : jx_o3 o h) {a : Nat} (ha : 3 ≤ a) (c : jx_C) : jx_o3 o (h.set a c) := fun k hk => by
  obtain ⟨vs, h1, h2⟩ := q k hk
  exact ⟨vs, h1, by rw [List.getElem?_set_ne (by omega)]; exact h2⟩
theorem jx_o3.app {o : List (List Value)} {h : List jx_C} (q : jx_o3 o h) (c : jx_C) : jx_o3 o (h ++ [c]) := fun k hk => by
  obtain ⟨vs, h1, h2⟩ := q k hk
  exact ⟨vs, h1, by rw [List.getElem?_append_left (List.getElem?_eq_some_iff.mp h2).1]; exact h2⟩
theorem jx_o3.len {o : List (List Value)} {h : List jx_C} (q : jx_o3 o h) : 3 ≤ h.length := by
  obtain ⟨vs, -, h2⟩ := q 2 (by omega)
  exact (List.getElem?_eq_some_iff.mp h2).1
/-- an object's place lies behind the outer rows -/
theorem jx_o3.big {o : List (List Value)} {h : List jx_C} (q : jx_o3 o h) {a : Nat} {x : Nat × List Value} (ha : h[a]? = some (.inr x)) : 3 ≤ a := by
  rcases Nat.lt_or_ge a 3 with h1 | h1
  · obtain ⟨vs, -, h2⟩ := q a h1
    rw [h2] at ha; cases ha
  · exact h1
theorem jx_ad_big {t : Nat → Nat} {base a : Nat} (h : 3 ≤ a) : jx_ad t base a = base + (a - 3) := by
  unfold jx_ad; rw [if_neg (by omega)]
/-- a cell at its address -/
theorem jx_cell {g : Nat → Nat} {t : Nat → Nat} {base : Nat} {dA : FieldType → ClassId} {h : List jx_C} {a : Nat} {c : jx_C} (ha : h[a]? = some c) (h3 : 3 ≤ a) : (jx_w g dA base (h.drop 3))[a - 3]? = some (jx_ad t base a, jx_e g dA c) := by
  rw [jx_ad_big h3]
  refine jx_w_get ?_
  rw [List.getElem?_drop, show 3 + (a - 3) = a by omega]
  exact ha
theorem jx_drop_set (h : List jx_C) {a : Nat} (h3 : 3 ≤ a) (c : jx_C) : (h.set a c).drop 3 = (h.drop 3).set (a - 3) c := by
  rw [List.drop_set, if_neg (by omega)]
theorem jx_drop_app {h : List jx_C} (h3 : 3 ≤ h.length) (c : jx_C) : (h ++ [c]).drop 3 = h.drop 3 ++ [c] := List.drop_append_of_le_length h3
/-- behind a write -/
theorem jx_P.put {D : va_G} {dA : FieldType → ClassId} {t : Nat → Nat} {base : Nat} {h : List jx_C} {H1 : Heap} {a : Nat} {c : jx_C} (h3 : 3 ≤ a) (hP : va_P D vwCl ((jx_w (jx_ad t base) dA base (h.drop 3)).set (a - 3) (jx_ad t base a, jx_e (jx_ad t base) dA c)) H1) : jx_P D dA t base (h.set a c) H1 := by
  unfold jx_P
  rw [jx_drop_set h h3, jx_w_set, ← jx_ad_big (t := t) h3]
  exact hP
theorem jx_getD_set {vs : List Value} {i : Nat} (hi : i < vs.length) (w : Value) (j : Nat) : (vs.set i w).getD j .null = if j = i then w else vs.getD j .null := by
  by_cases hj : j = i
  · subst hj
    rw [if_pos rfl, List.getD_eq_getElem?_getD, List.getElem?_set_self hi]; rfl
  · rw [if_neg hj, List.getD_eq_getElem?_getD, List.getElem?_set_ne (Ne.symm hj), ← List.getD_eq_getElem?_getD]
theorem jx_getD_at {vs : List Value} {i : Nat} {w : Value} (h : vs[i]? = some w) : vs.getD i .null = w := by
  rw [List.getD_eq_getElem?_getD, h]; rfl
section JXT
variable {p : Program} {l : Launch} {e : Env} {R : Room} {s : State} {m : MethodId} {args : Array Value} {below : List Frame} {meth : Method} {c : Code} {H : Heap} {locs : List Loc} {cells slots : Nat} {Q : State → Prop} {pc : Nat} {ls : Array Slot}
theorem jx_top {v w : Value} {rest : List Value} (e1 : v = w) (k : W p l e R s m args below meth c H locs cells slots Q (F0 m pc ls (w :: rest))) : W p l e R s m args below meth c H locs cells slots Q (F0 m pc ls (v :: rest)) := by rw [e1]; exact k
theorem jx_size {f : JFrame} (k : H.size ≤ s.heap.size + cells → W p l e R s m args below meth c H locs cells slots Q f) : W p l e R s m args below meth c H locs cells slots Q f := fun T hT X => k (by rw [← hT]; exact X.heapSize) T hT X
end JXT
end
section
/-! INSTRUCTIONS ON THE HEAP -/
def jx_wl (own : String) (idx : Nat) : Option (String × String × String) := jx_g.findSome? fun w => match w with
  | .fieldLink a j r n d => if a = own ∧ j = idx then some (r, n, d) else none
  | _ => none
def jx_cn (own : String) (idx : Nat) : Option String := jx_g.findSome? fun w => match w with
  | .classLink a j r => if a = own ∧ j = idx then some r else none
  | _ => none
def jx_kI (own : String) (idx : Nat) : Option Int32 := jx_g.findSome? fun w => match w with
  | .constant a j v => if a = own ∧ j = idx then some v else none
  | _ => none
def jx_kL (own : String) (idx : Nat) : Option Int64 := jx_g.findSome? fun w => match w with
  | .constantLong a j v => if a = own ∧ j = idx then some v else none
  | _ => none
def jx_kD (own : String) (idx : Nat) : Option UInt64 := jx_g.findSome? fun w => match w with
  | .constantDouble a j v => if a = own ∧ j = idx then some v else none
  | _ => none
theorem jx_wl_ok {own : String} {idx : Nat} {q : String × String × String} (h : jx_wl own idx = some q) : Cond.fieldLink own idx q.1 q.2.1 q.2.2 ∈ jx_g := by
  obtain ⟨w, hw, hf⟩ := List.exists_of_findSome?_eq_some h
  split at hf
  · split at hf
    · rename_i hc
      cases hf
      rw [← hc.1, ← hc.2]; exact hw
    · cases hf
  · cases hf
theorem jx_cn_ok {own : String} {idx : Nat} {q : String} (h : jx_cn own idx = some q) : Cond.classLink own idx q ∈ jx_g := by
  obtain ⟨w, hw, hf⟩ := List.exists_of_findSome?_eq_some h
  split at hf
  · split at hf
    · rename_i hc
      cases hf
      rw [← hc.1, ← hc.2]; exact hw
    · cases hf
  · cases hf
theorem jx_kI_ok {own : String} {idx : Nat} {q : Int32} (h : jx_kI own idx = some q) : Cond.constant own idx q ∈ jx_g := by
  obtain ⟨w, hw, hf⟩ := List.exists_of_findSome?_eq_some h
  split at hf
  · split at hf
    · rename_i hc
      cases hf
      rw [← hc.1, ← hc.2]; exact hw
    · cases hf
  · cases hf
theorem jx_kL_ok {own : String} {idx : Nat} {q : Int64} (h : jx_kL own idx = some q) : Cond.constantLong own idx q ∈ jx_g := by
  obtain ⟨w, hw, hf⟩ := List.exists_of_findSome?_eq_some h
  split at hf
  · split at hf
    · rename_i hc
      cases hf
      rw [← hc.1, ← hc.2]; exact hw
    · cases hf
  · cases hf
theorem jx_kD_ok {own : String} {idx : Nat} {q : UInt64} (h : jx_kD own idx = some q) : Cond.constantDouble own idx q ∈ jx_g := by
  obtain ⟨w, hw, hf⟩ := List.exists_of_findSome?_eq_some h
  split at hf
  · split at hf
    · rename_i hc
      cases hf
      rw [← hc.1, ← hc.2]; exact hw
    · cases hf
  · cases hf
/-- the slot of a field in the objects of class ci -/
def jx_k (ci : Nat) (q : String × String × String) : Option Nat := (vwCl[ci]?).bind fun c => (List.range c.2.2).find? fun k => decide ((c.2.1 k).2.1 = q.2.1 ∧ (c.2.1 k).2.2.1 = q.2.2 ∧ ((c.2.1 k).1 = q.1 ∨ Cond.sameField q.1 (c.2.1 k).1 q.2.1 q.2.2 ∈ jx_g))
theorem jx_k_ok {ci k : Nat} {q : String × String × String} (h : jx_k ci q = some k) : ∃ c, vwCl[ci]? = some c ∧ k < c.2.2 ∧ (c.2.1 k).2.1 = q.2.1 ∧ (c.2.1 k).2.2.1 = q.2.2 ∧ ((c.2.1 k).1 = q.1 ∨ Cond.sameField q.1 (c.2.1 k).1 q.2.1 q.2.2 ∈ jx_g) := by
  obtain ⟨c, hc, h1⟩ := Option.bind_eq_some_iff.mp h
  have h2 := List.find?_some h1
  have h3 := List.mem_of_find?_eq_some h1
  rw [decide_eq_true_eq] at h2
  exact ⟨c, hc, List.mem_range.mp h3, h2⟩
def jx_fk (own : String) (idx ci : Nat) : Option Nat := (jx_wl own idx).bind fun q => jx_k ci q
def jx_ob (h : List jx_C) (a : Nat) : Option (Nat × List Value) := match h[a]? with
  | some (.inr o) => some o
  | _ => none
def jx_ar (h : List jx_C) (a : Nat) : Option (FieldType × List Value) := match h[a]? with
  | some (.inl o) => some o
  | _ => none
theorem jx_ob_eq {h : List jx_C} {a : Nat} {o : Nat × List Value} (q : jx_ob h a = some o) : h[a]? = some (.inr o) := by
  unfold jx_ob at q; split at q
  · rename_i z; cases q; exact z
  · cases q
theorem jx_ar_eq {h : List jx_C} {a : Nat} {o : FieldType × List Value} (q : jx_ar h a = some o) : h[a]? = some (.inl o) := by
  unfold jx_ar at q; split at q
  · rename_i z; cases q; exact z
  · cases q
/-- may a method put v into field k of an object of class ci? -/
def jx_may (y : MethodName) (ci k : Nat) (v : Value) : Bool := match vwCl[ci]? with
  | some c => decide (narrow (jx_fty (c.2.1 k).2.2.1) v = v) && fits (jx_fty (c.2.1 k).2.2.1) v && ((c.2.1 k).2.2.2 == false || (decide (y.name = "<init>") && decide ((c.2.1 k).1 = y.cls)))
  | none => false
def jx_IR : List Value → Option (Int32 × Nat × List Value)
  | .int j :: .ref a :: r => some (j, a, r)
  | _ => none
theorem jx_IR_eq {st : List Value} {q : Int32 × Nat × List Value} (h : jx_IR st = some q) : st = .int q.1 :: .ref q.2.1 :: q.2.2 := by
  unfold jx_IR at h; split at h <;> cases h; rfl
/-- a value, an index, an array -/
def jx_VIR : List Value → Option (Value × Int32 × Nat × List Value)
  | v :: .int j :: .ref a :: r => some (v, j, a, r)
  | _ => none
theorem jx_VIR_eq {st : List Value} {q : Value × Int32 × Nat × List Value} (h : jx_VIR st = some q) : st = q.1 :: .int q.2.1 :: .ref q.2.2.1 :: q.2.2.2 := by
  unfold jx_VIR at h; split at h <;> cases h; rfl
def jx_VR : List Value → Option (Value × Nat × List Value)
  | v :: .ref a :: r => some (v, a, r)
  | _ => none
theorem jx_VR_eq {st : List Value} {q : Value × Nat × List Value} (h : jx_VR st = some q) : st = q.1 :: .ref q.2.1 :: q.2.2 := by
  unfold jx_VR at h; split at h <;> cases h; rfl
/-- an element of an array of a type, at an index that is within -/
def jx_el (h : List jx_C) (ty : FieldType) (a : Nat) (j : Int32) : Option Value := (jx_ar h a).bind fun c => if c.1 = ty ∧ ¬ j < 0 then c.2[j.toNatClampNeg]? else none
theorem jx_el_ok {h : List jx_C} {ty : FieldType} {a : Nat} {j : Int32} {v : Value} (q : jx_el h ty a j = some v) : ∃ vs, h[a]? = some (.inl (ty, vs)) ∧ vp_in j vs.length ∧ vs[j.toNatClampNeg]? = some v := by
  obtain ⟨⟨ty', vs⟩, hc, h1⟩ := Option.bind_eq_some_iff.mp q
  split at h1
  · rename_i hh
    obtain ⟨rfl, h2⟩ := hh
    have hlt : j.toNatClampNeg < vs.length := (List.getElem?_eq_some_iff.mp h1).1
    exact ⟨vs, jx_ar_eq hc, fun z => z.elim h2 (fun z => by omega), h1⟩
  · cases h1
/-- an array with another element -/
def jx_up (h : List jx_C) (ty : FieldType) (a : Nat) (j : Int32) (v : Value) : Option (List jx_C) := (jx_ar h a).bind fun c => if c.1 = ty ∧ ¬ j < 0 ∧ j.toNatClampNeg < c.2.length ∧ 3 ≤ a then some (h.set a (.inl (c.1, c.2.set j.toNatClampNeg v))) else none
theorem jx_up_ok {h h' : List jx_C} {ty : FieldType} {a : Nat} {j : Int32} {v : Value} (q : jx_up h ty a j v = some h') : ∃ vs, h[a]? = some (.inl (ty, vs)) ∧ vp_in j vs.length ∧ j.toNatClampNeg < vs.length ∧ 3 ≤ a ∧ h' = h.set a (.inl (ty, vs.set j.toNatClampNeg v)) := by
  obtain ⟨⟨ty', vs⟩, hc, h1⟩ := Option.bind_eq_some_iff.mp q
  split at h1
  · rename_i hh
    obtain ⟨rfl, h2, h3, h4⟩ := hh
    cases h1
    dsimp only at h3
    exact ⟨vs, jx_ar_eq hc, fun z => z.elim h2 (fun z => by omega), h3, h4, rfl⟩
  · cases h1
def jx_ty? : ArrayType → Option FieldType
  | .int => some .int
  | .long => some .long
  | .char => some .char
  | .boolean => some .boolean
  | .double => some .double
  | _ => none
def jx_ci (C : String) : Option Nat := vwCl.findIdx? fun c => c.1 == C
/-- instructions on the heap: the stack and the heap behind them -/
def jx_B (y : MethodName) (i : Instr) (st : List Value) (h : List jx_C) : Option (List Value × List jx_C) := match i with
  | .getfield idx => (jx_1R st).bind fun q => (jx_ob h q.1).bind fun o => (jx_fk y.cls idx o.1).bind fun k => (o.2[k]?).map fun v => (v :: q.2, h)
  | .putfield idx => (jx_VR st).bind fun q => (jx_ob h q.2.1).bind fun o => (jx_fk y.cls idx o.1).bind fun k => if jx_may y o.1 k q.1 = true ∧ k < o.2.length then some (q.2.2, h.set q.2.1 (.inr (o.1, o.2.set k q.1))) else none
  | .iaload => (jx_IR st).bind fun q => (jx_el h .int q.2.1 q.1).bind fun v => match v with
    | .int n => some (.int n :: q.2.2, h)
    | _ => none
  | .laload => (jx_IR st).bind fun q => (jx_el h .long q.2.1 q.1).bind fun v => match v with
    | .long n => if 3 ≤ q.2.1 then some (.long n :: q.2.2, h) else none
    | _ => none
  | .caload => (jx_IR st).bind fun q => (jx_el h .char q.2.1 q.1).bind fun v => match v with
    | .int n => if 3 ≤ q.2.1 then some (.int n :: q.2.2, h) else none
    | _ => none
  | .baload => (jx_IR st).bind fun q => (jx_el h .boolean q.2.1 q.1).bind fun v => match v with
    | .int n => if 3 ≤ q.2.1 then some (.int n :: q.2.2, h) else none
    | _ => none
  | .daload => (jx_IR st).bind fun q => (jx_el h .double q.2.1 q.1).bind fun v => match v with
    | .double n => if 3 ≤ q.2.1 then some (.double n :: q.2.2, h) else none
    | _ => none
  | .aaload => (jx_IR st).bind fun q => (jx_el h (.object "RaceHouse$Thing") q.2.1 q.1).bind fun v => match v with
    | .ref n => if 3 ≤ q.2.1 then some (.ref n :: q.2.2, h) else none
    | .null => if 3 ≤ q.2.1 then some (.null :: q.2.2, h) else none
    | _ => none
  | .iastore => (jx_VIR st).bind fun q => match q.1 with
    | .int n => (jx_up h .int q.2.2.1 q.2.1 (.int n)).map fun h' => (q.2.2.2, h')
    | _ => none
  | .lastore => (jx_VIR st).bind fun q => match q.1 with
    | .long n => (jx_up h .long q.2.2.1 q.2.1 (.long n)).map fun h' => (q.2.2.2, h')
    | _ => none
  | .castore => (jx_VIR st).bind fun q => match q.1 with
    | .int n => (jx_up h .char q.2.2.1 q.2.1 (.int (vp_nar .char n))).map fun h' => (q.2.2.2, h')
    | _ => none
  | .bastore => (jx_VIR st).bind fun q => match q.1 with
    | .int n => (jx_up h .boolean q.2.2.1 q.2.1 (.int (vp_nar .boolean n))).map fun h' => (q.2.2.2, h')
    | _ => none
  | .dastore => (jx_VIR st).bind fun q => match q.1 with
    | .double n => (jx_up h .double q.2.2.1 q.2.1 (.double n)).map fun h' => (q.2.2.2, h')
    | _ => none
  | .aastore => (jx_VIR st).bind fun q => match q.1 with
    | .null => (jx_up h (.object "RaceHouse$Thing") q.2.2.1 q.2.1 .null).map fun h' => (q.2.2.2, h')
    | .ref v => (jx_ob h v).bind fun o => (vwCl[o.1]?).bind fun cl => if (cl.1, "RaceHouse$Thing") ∈ jx_nk then (jx_up h (.object "RaceHouse$Thing") q.2.2.1 q.2.1 (.ref v)).map fun h' => (q.2.2.2, h') else none
    | _ => none
  | .arraylength => (jx_1R st).bind fun q => (jx_ar h q.1).bind fun c => if 3 ≤ q.1 ∨ c.1 = .int then if c.1 ∈ ([.int, .long, .char, .boolean, .double, .object "RaceHouse$Thing"] : List FieldType) then some (.int (Int32.ofNat c.2.length) :: q.2, h) else none else none
  | .new idx => (jx_cn y.cls idx).bind fun C => (jx_ci C).bind fun ci => (vwCl[ci]?).bind fun c => if c.1 = C then some (.ref h.length :: st, h ++ [.inr (ci, (List.range c.2.2).map fun k => defaultValue (jx_fty (c.2.1 k).2.2.1))]) else none
  | .newarray at_ => (jx_1I st).bind fun q => (jx_ty? at_).bind fun ty => if ¬ q.1 < 0 ∧ q.1.toNatClampNeg ≤ 60000 then some (.ref h.length :: q.2, h ++ [.inl (ty, List.replicate q.1.toNatClampNeg (defaultValue ty))]) else none
  | .anewarray idx => (jx_1I st).bind fun q => (jx_cn y.cls idx).bind fun C => if C = "RaceHouse$Thing" ∧ ¬ q.1 < 0 ∧ q.1.toNatClampNeg ≤ 60000 then some (.ref h.length :: q.2, h ++ [.inl (.object "RaceHouse$Thing", List.replicate q.1.toNatClampNeg .null)]) else none
  | .checkcast idx => (jx_1O st).bind fun q => match q.1 with
    | none => some (.null :: q.2, h)
    | some a => (jx_ob h a).bind fun o => (vwCl[o.1]?).bind fun c => (jx_cn y.cls idx).bind fun C => if (c.1, C) ∈ jx_nk then some (.ref a :: q.2, h) else none
  | .instanceof idx => (jx_1O st).bind fun q => match q.1 with
    | none => some (.int 0 :: q.2, h)
    | some a => (jx_ob h a).bind fun o => (vwCl[o.1]?).bind fun c => (jx_cn y.cls idx).bind fun C => if (c.1, C) ∈ jx_nk then some (.int 1 :: q.2, h) else if (c.1, C) ∈ jx_nc then some (.int 0 :: q.2, h) else none
  | .getstatic idx => (jx_wl y.cls idx).bind fun q => if q = ("RaceHouse", "FIELD_TYPES", "[I") then some (.ref 1 :: st, h) else if q = ("RaceHouse", "ASK_TYPES", "[I") then some (.ref 2 :: st, h) else none
  | .ldc idx => (jx_kI y.cls idx).map fun v => (.int v :: st, h)
  | .ldc_w idx => (jx_kI y.cls idx).map fun v => (.int v :: st, h)
  | .ldc2_w idx => match jx_kL y.cls idx with
    | some v => some (.long v :: st, h)
    | none => (jx_kD y.cls idx).map fun v => (.double v :: st, h)
  | _ => none
end
section
theorem jx_nar {g : Nat → Nat} {ty : FieldType} {v : Value} (h : narrow ty v = v) : narrow ty (jx_v g v) = jx_v g v := by
  cases v with
  | ref a => cases ty <;> rfl
  | _ => exact h
theorem jx_fit {g : Nat → Nat} {ty : FieldType} {v : Value} (h : fits ty v = true) : fits ty (jx_v g v) = true := by
  cases v with
  | ref a => cases ty <;> first | exact h | rfl
  | _ => exact h
theorem jx_dflt (g : Nat → Nat) (ty : FieldType) : jx_v g (defaultValue ty) = defaultValue ty := by cases ty <;> rfl
theorem jx_upI (g : Nat → Nat) (dA : FieldType → ClassId) (ty : FieldType) (ht : ty = .int ∨ ty = .char ∨ ty = .boolean) {vs : List Value} {i : Nat} (hi : i < vs.length) (n : Int32) : jx_e g dA (.inl (ty, vs.set i (.int n))) = .inl (dA ty, vs.length, .inl (upd (fun j => jx_iv (vs.getD j .null)) i n)) := by
  have e : (fun j => jx_iv ((vs.set i (.int n)).getD j .null)) = upd (fun j => jx_iv (vs.getD j .null)) i n := by
    funext j
    rw [jx_getD_set hi]
    unfold upd
    split <;> rfl
  rcases ht with rfl | rfl | rfl
  all_goals
    show Sum.inl (dA _, (vs.set i (.int n)).length, Sum.inl (fun j => jx_iv ((vs.set i (.int n)).getD j .null))) = _
    rw [e, List.length_set]
theorem jx_upL (g : Nat → Nat) (dA : FieldType → ClassId) {vs : List Value} {i : Nat} (hi : i < vs.length) (n : Int64) : jx_e g dA (.inl (.long, vs.set i (.long n))) = .inl (dA .long, vs.length, .inr (.inl (vp_updL (fun j => jx_lv (vs.getD j .null)) i n))) := by
  have e : (fun j => jx_lv ((vs.set i (.long n)).getD j .null)) = vp_updL (fun j => jx_lv (vs.getD j .null)) i n := by
    funext j
    rw [jx_getD_set hi]
    unfold vp_updL
    split <;> rfl
  show Sum.inl (dA _, (vs.set i (.long n)).length, Sum.inr (Sum.inl (fun j => jx_lv ((vs.set i (.long n)).getD j .null)))) = _
  rw [e, List.length_set]
theorem jx_upD (g : Nat → Nat) (dA : FieldType → ClassId) {vs : List Value} {i : Nat} (hi : i < vs.length) (n : UInt64) : jx_e g dA (.inl (.double, vs.set i (.double n))) = .inl (dA .double, vs.length, .inr (.inr (.inr (.inl (vf_upd (fun j => jx_dv (vs.getD j .null)) i n))))) := by
  have e : (fun j => jx_dv ((vs.set i (.double n)).getD j .null)) = vf_upd (fun j => jx_dv (vs.getD j .null)) i n := by
    funext j
    rw [jx_getD_set hi]
    unfold vf_upd
    split <;> rfl
  show Sum.inl (dA _, (vs.set i (.double n)).length, Sum.inr (Sum.inr (Sum.inr (Sum.inl (fun j => jx_dv ((vs.set i (.double n)).getD j .null)))))) = _
  rw [e, List.length_set]
theorem jx_upA (g : Nat → Nat) (dA : FieldType → ClassId) (C : String) {vs : List Value} {i : Nat} (hi : i < vs.length) (v : Value) : jx_e g dA (.inl (.object C, vs.set i v)) = .inl (dA (.object C), vs.length, .inr (.inr (.inr (.inr (va_up (fun j => jx_rv g (vs.getD j .null)) i (jx_rv g v)))))) := by
  have e : (fun j => jx_rv g ((vs.set i v).getD j .null)) = va_up (fun j => jx_rv g (vs.getD j .null)) i (jx_rv g v) := by
    funext j
    rw [jx_getD_set hi]
    unfold va_up
    split <;> rfl
  show Sum.inl (dA _, (vs.set i v).length, Sum.inr (Sum.inr (Sum.inr (Sum.inr (fun j => jx_rv g ((vs.set i v).getD j .null)))))) = _
  rw [e, List.length_set]
theorem jx_rep_getD (n : Nat) (v w : Value) (j : Nat) : (List.replicate n v).getD j w = if j < n then v else w := by
  rw [List.getD_eq_getElem?_getD, List.getElem?_replicate]
  split <;> rfl
/-- a new array's contents -/
theorem jx_newco (g : Nat → Nat) (ty : FieldType) (ht : ty = .int ∨ ty = .long ∨ ty = .char ∨ ty = .boolean ∨ ty = .double) (n : Nat) (cA : ClassId) : vp_cell cA (jx_co g ty (List.replicate n (defaultValue ty))) = arrV cA n (fun _ => defaultValue ty) := by
  have eI : (fun j => Value.int (jx_iv ((List.replicate n (Value.int 0)).getD j .null))) = fun _ => Value.int 0 := by
    funext j; rw [jx_rep_getD]; split <;> rfl
  have eL : (fun j => Value.long (jx_lv ((List.replicate n (Value.long 0)).getD j .null))) = fun _ => Value.long 0 := by
    funext j; rw [jx_rep_getD]; split <;> rfl
  have eD : (fun j => Value.double (jx_dv ((List.replicate n (Value.double 0)).getD j .null))) = fun _ => Value.double 0 := by
    funext j; rw [jx_rep_getD]; split <;> rfl
  rcases ht with rfl | rfl | rfl | rfl | rfl
  · show arrV cA (List.replicate n (Value.int 0)).length (fun j => Value.int (jx_iv ((List.replicate n (Value.int 0)).getD j .null))) = arrV cA n (fun _ => Value.int 0)
    rw [eI, List.length_replicate]
  · show arrV cA (List.replicate n (Value.long 0)).length (fun j => Value.long (jx_lv ((List.replicate n (Value.long 0)).getD j .null))) = arrV cA n (fun _ => Value.long 0)
    rw [eL, List.length_replicate]
  · show arrV cA (List.replicate n (Value.int 0)).length (fun j => Value.int (jx_iv ((List.replicate n (Value.int 0)).getD j .null))) = arrV cA n (fun _ => Value.int 0)
    rw [eI, List.length_replicate]
  · show arrV cA (List.replicate n (Value.int 0)).length (fun j => Value.int (jx_iv ((List.replicate n (Value.int 0)).getD j .null))) = arrV cA n (fun _ => Value.int 0)
    rw [eI, List.length_replicate]
  · show arrV cA (List.replicate n (Value.double 0)).length (fun j => Value.double (jx_dv ((List.replicate n (Value.double 0)).getD j .null))) = arrV cA n (fun _ => Value.double 0)
    rw [eD, List.length_replicate]
/-- what an instruction on the heap does to the list -/
theorem jx_B_heap {y : MethodName} {i : Instr} {st st' : List Value} {h h' : List jx_C} {o : List (List Value)} (ho : jx_o3 o h) (hB : jx_B y i st h = some (st', h')) : h' = h ∨ (∃ a c d, 3 ≤ a ∧ h[a]? = some d ∧ jx_c1 c = jx_c1 d ∧ h' = h.set a c) ∨ ∃ c, h' = h ++ [c] := by
  have up : ∀ {ty : FieldType} {a : Nat} {j : Int32} {v : Value} {h2 : List jx_C}, jx_up h ty a j v = some h2 → ∃ a c d, 3 ≤ a ∧ h[a]? = some d ∧ jx_c1 c = jx_c1 d ∧ h2 = h.set a c := by
    intro ty a j v h2 q
    obtain ⟨vs, h1, -, -, h4, h5⟩ := jx_up_ok q
    exact ⟨a, _, _, h4, h1, by simp [jx_c1], h5⟩
  cases i with
  | getfield idx =>
    obtain ⟨q, hq, h1⟩ := Option.bind_eq_some_iff.mp (show Option.bind _ _ = _ from hB)
    obtain ⟨ob, hob, h2⟩ := Option.bind_eq_some_iff.mp h1
    obtain ⟨k, hk, h3⟩ := Option.bind_eq_some_iff.mp h2
    obtain ⟨v, hv, he⟩ := Option.map_eq_some_iff.mp h3
    cases he; exact Or.inl rfl
  | putfield idx =>
    obtain ⟨q, hq, h1⟩ := Option.bind_eq_some_iff.mp (show Option.bind _ _ = _ from hB)
    obtain ⟨ob, hob, h2⟩ := Option.bind_eq_some_iff.mp h1
    obtain ⟨k, hk, h3⟩ := Option.bind_eq_some_iff.mp h2
    split at h3
    · cases h3
      exact Or.inr (Or.inl ⟨_, _, _, ho.big (jx_ob_eq hob), jx_ob_eq hob, by simp [jx_c1], rfl⟩)
    · cases h3
  | iaload =>
    obtain ⟨q, hq, h1⟩ := Option.bind_eq_some_iff.mp (show Option.bind _ _ = _ from hB)
    obtain ⟨v, hv, h2⟩ := Option.bind_eq_some_iff.mp h1
    split at h2
    · cases h2; exact Or.inl rfl
    · cases h2
  | laload =>
    obtain ⟨q, hq, h1⟩ := Option.bind_eq_some_iff.mp (show Option.bind _ _ = _ from hB)
    obtain ⟨v, hv, h2⟩ := Option.bind_eq_some_iff.mp h1
    split at h2
    · split at h2
      · cases h2; exact Or.inl rfl
      · cases h2
    · cases h2
  | caload =>
    obtain ⟨q, hq, h1⟩ := Option.bind_eq_some_iff.mp (show Option.bind _ _ = _ from hB)
    obtain ⟨v, hv, h2⟩ := Option.bind_eq_some_iff.mp h1
    split at h2
    · split at h2
      · cases h2; exact Or.inl rfl
      · cases h2
    · cases h2
  | baload =>
    obtain ⟨q, hq, h1⟩ := Option.bind_eq_some_iff.mp (show Option.bind _ _ = _ from hB)
    obtain ⟨v, hv, h2⟩ := Option.bind_eq_some_iff.mp h1
    split at h2
    · split at h2
      · cases h2; exact Or.inl rfl
      · cases h2
    · cases h2
  | daload =>
    obtain ⟨q, hq, h1⟩ := Option.bind_eq_some_iff.mp (show Option.bind _ _ = _ from hB)
    obtain ⟨v, hv, h2⟩ := Option.bind_eq_some_iff.mp h1
    split at h2
    · split at h2
      · cases h2; exact Or.inl rfl
      · cases h2
    · cases h2
  | aaload =>
    obtain ⟨q, hq, h1⟩ := Option.bind_eq_some_iff.mp (show Option.bind _ _ = _ from hB)
    obtain ⟨v, hv, h2⟩ := Option.bind_eq_some_iff.mp h1
    split at h2
    · split at h2
      · cases h2; exact Or.inl rfl
      · cases h2
    · split at h2
      · cases h2; exact Or.inl rfl
      · cases h2
    · cases h2
  | iastore =>
    obtain ⟨q, hq, h1⟩ := Option.bind_eq_some_iff.mp (show Option.bind _ _ = _ from hB)
    split at h1
    · obtain ⟨h2, h3, he⟩ := Option.map_eq_some_iff.mp h1
      cases he; exact Or.inr (Or.inl (up h3))
    · cases h1
  | lastore =>
    obtain ⟨q, hq, h1⟩ := Option.bind_eq_some_iff.mp (show Option.bind _ _ = _ from hB)
    split at h1
    · obtain ⟨h2, h3, he⟩ := Option.map_eq_some_iff.mp h1
      cases he; exact Or.inr (Or.inl (up h3))
    · cases h1
  | castore =>
    obtain ⟨q, hq, h1⟩ := Option.bind_eq_some_iff.mp (show Option.bind _ _ = _ from hB)
    split at h1
    · obtain ⟨h2, h3, he⟩ := Option.map_eq_some_iff.mp h1
      cases he; exact Or.inr (Or.inl (up h3))
    · cases h1
  | bastore =>
    obtain ⟨q, hq, h1⟩ := Option.bind_eq_some_iff.mp (show Option.bind _ _ = _ from hB)
    split at h1
    · obtain ⟨h2, h3, he⟩ := Option.map_eq_some_iff.mp h1
      cases he; exact Or.inr (Or.inl (up h3))
    · cases h1
  | dastore =>
    obtain ⟨q, hq, h1⟩ := Option.bind_eq_some_iff.mp (show Option.bind _ _ = _ from hB)
    split at h1
    · obtain ⟨h2, h3, he⟩ := Option.map_eq_some_iff.mp h1
      cases he; exact Or.inr (Or.inl (up h3))
    · cases h1
  | aastore =>
    obtain ⟨q, hq, h1⟩ := Option.bind_eq_some_iff.mp (show Option.bind _ _ = _ from hB)
    split at h1
    · obtain ⟨h2, h3, he⟩ := Option.map_eq_some_iff.mp h1
      cases he; exact Or.inr (Or.inl (up h3))
    · obtain ⟨ob, hob, h4⟩ := Option.bind_eq_some_iff.mp h1
      obtain ⟨cl, hcl, h5⟩ := Option.bind_eq_some_iff.mp h4
      split at h5
      · obtain ⟨h2, h3, he⟩ := Option.map_eq_some_iff.mp h5
        cases he; exact Or.inr (Or.inl (up h3))
      · cases h5
    · cases h1
  | arraylength =>
    obtain ⟨q, hq, h1⟩ := Option.bind_eq_some_iff.mp (show Option.bind _ _ = _ from hB)
    obtain ⟨v, hv, h2⟩ := Option.bind_eq_some_iff.mp h1
    split at h2
    · split at h2
      · cases h2; exact Or.inl rfl
      · cases h2
    · cases h2
  | new idx =>
    obtain ⟨C, hC, h1⟩ := Option.bind_eq_some_iff.mp (show Option.bind _ _ = _ from hB)
    obtain ⟨ci, hci, h2⟩ := Option.bind_eq_some_iff.mp h1
    obtain ⟨cl, hcl, h3⟩ := Option.bind_eq_some_iff.mp h2
    split at h3
    · cases h3; exact Or.inr (Or.inr ⟨_, rfl⟩)
    · cases h3
  | newarray at_ =>
    obtain ⟨q, hq, h1⟩ := Option.bind_eq_some_iff.mp (show Option.bind _ _ = _ from hB)
    obtain ⟨ty, hty, h2⟩ := Option.bind_eq_some_iff.mp h1
    split at h2
    · cases h2; exact Or.inr (Or.inr ⟨_, rfl⟩)
    · cases h2
  | anewarray idx =>
    obtain ⟨q, hq, h1⟩ := Option.bind_eq_some_iff.mp (show Option.bind _ _ = _ from hB)
    obtain ⟨ty, hty, h2⟩ := Option.bind_eq_some_iff.mp h1
    split at h2
    · cases h2; exact Or.inr (Or.inr ⟨_, rfl⟩)
    · cases h2
  | checkcast idx =>
    obtain ⟨q, hq, h1⟩ := Option.bind_eq_some_iff.mp (show Option.bind _ _ = _ from hB)
    split at h1
    · cases h1; exact Or.inl rfl
    · obtain ⟨ob, hob, h4⟩ := Option.bind_eq_some_iff.mp h1
      obtain ⟨cl, hcl, h5⟩ := Option.bind_eq_some_iff.mp h4
      obtain ⟨C, hC, h6⟩ := Option.bind_eq_some_iff.mp h5
      split at h6
      · cases h6; exact Or.inl rfl
      · cases h6
  | instanceof idx =>
    obtain ⟨q, hq, h1⟩ := Option.bind_eq_some_iff.mp (show Option.bind _ _ = _ from hB)
    split at h1
    · cases h1; exact Or.inl rfl
    · obtain ⟨ob, hob, h4⟩ := Option.bind_eq_some_iff.mp h1
      obtain ⟨cl, hcl, h5⟩ := Option.bind_eq_some_iff.mp h4
      obtain ⟨C, hC, h6⟩ := Option.bind_eq_some_iff.mp h5
      split at h6
      · cases h6; exact Or.inl rfl
      · split at h6
        · cases h6; exact Or.inl rfl
        · cases h6
  | getstatic idx =>
    obtain ⟨q, hq, h1⟩ := Option.bind_eq_some_iff.mp (show Option.bind _ _ = _ from hB)
    split at h1
    · cases h1; exact Or.inl rfl
    · split at h1
      · cases h1; exact Or.inl rfl
      · cases h1
  | ldc idx =>
    obtain ⟨v, hv, he⟩ := Option.map_eq_some_iff.mp (show Option.map _ _ = _ from hB)
    cases he; exact Or.inl rfl
  | ldc_w idx =>
    obtain ⟨v, hv, he⟩ := Option.map_eq_some_iff.mp (show Option.map _ _ = _ from hB)
    cases he; exact Or.inl rfl
  | ldc2_w idx =>
    simp only [jx_B] at hB
    split at hB
    · cases hB; exact Or.inl rfl
    · obtain ⟨v, hv, he⟩ := Option.map_eq_some_iff.mp hB
      cases he; exact Or.inl rfl
  | _ => exact Option.noConfusion (show (none : Option (List Value × List jx_C)) = some (st', h') from hB)
theorem jx_B_o3 {y : MethodName} {i : Instr} {st st' : List Value} {h h' : List jx_C} {o : List (List Value)} (ho : jx_o3 o h) (hB : jx_B y i st h = some (st', h')) : jx_o3 o h' := by
  rcases jx_B_heap ho hB with rfl | ⟨a, c, d, h1, -, -, rfl⟩ | ⟨c, rfl⟩
  · exact ho
  · exact ho.set h1 c
  · exact ho.app c
theorem jx_B_mono {y : MethodName} {i : Instr} {st st' : List Value} {h h' : List jx_C} {o : List (List Value)} (ho : jx_o3 o h) (hB : jx_B y i st h = some (st', h')) : h.length ≤ h'.length ∧ jx_sz h ≤ jx_sz h' := by
  rcases jx_B_heap ho hB with rfl | ⟨a, c, d, h1, h2, h3, rfl⟩ | ⟨c, rfl⟩
  · exact ⟨Nat.le_refl _, Nat.le_refl _⟩
  · exact ⟨by simp, by rw [jx_sz_set h a c d h2 h3]; exact Nat.le_refl _⟩
  · exact ⟨by simp, by rw [jx_sz_app]; exact Nat.le_add_right _ _⟩
end
section
theorem jx_ac_i : Cond.arrayClass .int ∈ jx_g := jx_g_of (by decide +kernel) rfl
theorem jx_ac_l : Cond.arrayClass .long ∈ jx_g := jx_g_of (by decide +kernel) rfl
theorem jx_ac_c : Cond.arrayClass .char ∈ jx_g := jx_g_of (by decide +kernel) rfl
theorem jx_ac_z : Cond.arrayClass .boolean ∈ jx_g := jx_g_of (by decide +kernel) rfl
theorem jx_ac_d : Cond.arrayClass .double ∈ jx_g := jx_g_of (by decide +kernel) rfl
section JXB
variable {p : Program} {l : Launch} {e : Env} {R : Room} {s : State} {m : MethodId} {args : Array Value} {below : List Frame} {meth : Method} {c : Code} {H : Heap} {locs : List Loc} {Q : State → Prop} {cc : ByteArray} {pc : Nat} {ls : Array Slot}
variable {D : va_G} {dA : FieldType → ClassId} {t : Nat → Nat} {base : Nat} {o : List (List Value)} {y : MethodName} {h h' : List jx_C} {st st' : List Value} {n0 z0 : Nat}
/-- a new cell lies behind the last one -/
theorem jx_fresh {q : Nat} {H1 : Heap} {x : va_E} (h3 : 3 ≤ h.length) (hP1 : va_P D vwCl (jx_w (jx_ad t base) dA base (h.drop 3) ++ [(q, x)]) H1) (hD1 : va_D (fun z => base ≤ z) (jx_w (jx_ad t base) dA base (h.drop 3) ++ [(q, x)])) (hz : H1.size ≤ base + (h.length - 3) + 1) : q = jx_ad t base h.length := by
  have hl : (jx_w (jx_ad t base) dA base (h.drop 3)).length = h.length - 3 := by rw [jx_w_len]; simp
  have hlast : (jx_w (jx_ad t base) dA base (h.drop 3) ++ [(q, x)])[h.length - 3]? = some (q, x) := by
    rw [List.getElem?_append_right (by omega), hl, Nat.sub_self]; rfl
  have h1 : q < H1.size := (hP1 _ _ hlast).lt
  have h2 : base ≤ q := hD1.2 _ _ hlast
  rw [jx_ad_big h3]
  rcases Nat.lt_or_ge (q - base) (h.length - 3) with h4 | h4
  · exfalso
    have h5 : q - base < (h.drop 3).length := by simp; omega
    have h6 := jx_w_get (g := jx_ad t base) (dA := dA) (a := base) (List.getElem?_eq_getElem h5)
    have h7 : (jx_w (jx_ad t base) dA base (h.drop 3) ++ [(q, x)])[q - base]? = some (base + (q - base), jx_e (jx_ad t base) dA (h.drop 3)[q - base]) := by
      rw [List.getElem?_append_left (by omega)]; exact h6
    have h8 := hD1.1 _ _ _ _ h7 hlast (by show base + (q - base) = q; omega)
    omega
  · omega
/-- behind a new cell -/
theorem jx_P.push {q : Nat} {H1 : Heap} {x : jx_C} (h3 : 3 ≤ h.length) (hq : q = jx_ad t base h.length) (hP1 : va_P D vwCl (jx_w (jx_ad t base) dA base (h.drop 3) ++ [(q, jx_e (jx_ad t base) dA x)]) H1) : jx_P D dA t base (h ++ [x]) H1 := by
  unfold jx_P
  rw [jx_drop_app h3, jx_w_app, show base + (h.drop 3).length = q by rw [hq, jx_ad_big h3]; simp]
  exact hP1
theorem jx_arrId {cA : ClassId} {ty : FieldType} {k : Nat} (hk : (jx_tys dA)[k]? = some (dA ty, ty)) (hn : ∀ C, ty ≠ .object C) (hK : va_K D vwCl (jx_tys dA) s) (hK1 : va_K D vwCl (jx_tys dA ++ [(cA, ty)]) s) : cA = dA ty := by
  have h1 := (hK.2 k _ hk).2
  have h2 := (hK1.2 (jx_tys dA).length (cA, ty) (by rw [List.getElem?_append_right (Nat.le_refl _), Nat.sub_self]; rfl)).2
  cases ty with
  | object C => exact absurd rfl (hn C)
  | _ => exact Option.some.inj ((show s.vm.findClass _ = some _ from h2).symm.trans (show s.vm.findClass _ = some _ from h1))
theorem jx_arrIdO {cA : ClassId} {C : String} {k : Nat} (hk : (jx_tys dA)[k]? = some (dA (.object C), .object C)) (hK : va_K D vwCl (jx_tys dA) s) (hK1 : va_K D vwCl (jx_tys dA ++ [(cA, .object C)]) s) : cA = dA (.object C) := by
  obtain ⟨-, -, -, -, -, h1⟩ := (hK.2 k _ hk).2
  obtain ⟨-, -, -, -, -, h2⟩ := (hK1.2 (jx_tys dA).length (cA, .object C) (by rw [List.getElem?_append_right (Nat.le_refl _), Nat.sub_self]; rfl)).2
  exact Option.some.inj (h2.symm.trans h1)
set_option maxHeartbeats 4000000 in
theorem jx_B_ok (hx : p.tables.exec = Jvm.exec) (hb : c.code = cc) (hown : s.vm.findClass y.cls = some m.cls) (hts : ∀ w ∈ jx_g, w.before args s = true) (hmn : meth.name = y.name) (hK : jx_K D dA t base o s) (hP : jx_P D dA t base h H) (ho : jx_o3 o h) (hS : va_S (fun q => base ≤ q) s.heap H locs) (hbs : base ≤ s.heap.size)
    (hn0 : n0 ≤ h.length) (hz0 : z0 ≤ jx_sz h) (h3n : 3 ≤ n0) (hn3 : s.heap.size = base + (n0 - 3)) {i : Instr} (hd : decode cc pc = .ok (i, jx_len i)) (hB : jx_B y i st h = some (st', h')) (hrc : h'.length - n0 ≤ R.cells) (hrs : jx_sz h' - z0 ≤ R.slots)
    (k : ∀ (H1 : Heap) (locs1 : List Loc), jx_P D dA t base h' H1 → va_S (fun q => base ≤ q) s.heap H1 locs1 → W p l e R s m args below meth c H1 locs1 (h'.length - n0) (jx_sz h' - z0) Q (F0 m (pc + jx_len i) ls (st'.map (jx_v (jx_ad t base))))) :
    W p l e R s m args below meth c H locs (h.length - n0) (jx_sz h - z0) Q (F0 m pc ls (st.map (jx_v (jx_ad t base)))) := by
  have hA : ∀ q, s.heap.size ≤ q → base ≤ q := fun q hq => Nat.le_trans hbs hq
  have h3h : 3 ≤ h.length := ho.len
  have hDw := jx_w_D (jx_ad t base) dA base (h.drop 3)
  have set_cs : ∀ {a : Nat} {cn d : jx_C} {H1 : Heap} {locs1 : List Loc} {f : JFrame}, h[a]? = some d → jx_c1 cn = jx_c1 d → W p l e R s m args below meth c H1 locs1 ((h.set a cn).length - n0) (jx_sz (h.set a cn) - z0) Q f → W p l e R s m args below meth c H1 locs1 (h.length - n0) (jx_sz h - z0) Q f := by
    intro a cn d H1 locs1 f h1 h2 w
    rw [jx_sz_set h a cn d h1 h2, List.length_set] at w
    exact w
  have outer : ∀ {a : Nat} {vs : List Value}, a < 3 → h[a]? = some (.inl (.int, vs)) → jx_ad t base a = t a ∧ va_T .int (t a) vs.length (fun j => vs.getD j .null) (fun q => base ≤ q) s s.heap := by
    intro a vs ha hv
    obtain ⟨ws, h1, h2⟩ := ho a ha
    rw [h2] at hv; cases hv
    exact ⟨by unfold jx_ad; rw [if_pos ha], hK.2.2.2.2.2.1 a _ h1⟩
  cases i with
  | getfield idx =>
    obtain ⟨q, hq, h1⟩ := Option.bind_eq_some_iff.mp (show Option.bind _ _ = _ from hB)
    obtain ⟨ob, hob, h2⟩ := Option.bind_eq_some_iff.mp h1
    obtain ⟨kk, hk, h3⟩ := Option.bind_eq_some_iff.mp h2
    obtain ⟨v, hv, he⟩ := Option.map_eq_some_iff.mp h3
    cases he
    rw [jx_1R_eq hq]
    obtain ⟨w, hw, hk2⟩ := Option.bind_eq_some_iff.mp (show Option.bind _ _ = _ from hk)
    obtain ⟨cq, hc, hlt, e1, e2, e3⟩ := jx_k_ok hk2
    have hcell := jx_cell (g := jx_ad t base) (t := t) (base := base) (dA := dA) (jx_ob_eq hob) (ho.big (jx_ob_eq hob))
    refine va_get (D := D) (ci := ob.1) (v := jx_v (jx_ad t base) v) (C := cq.1) (T := cq.2.1) (N := cq.2.2) (fs := ob.2.map (jx_v (jx_ad t base))) (ref := w.1) hx hb hts (jx_cls hc).1 hown hK.1 hP _ hcell hc kk hlt (by rw [e1, e2]; exact hts _ (jx_wl_ok hw)) (fun z hz => ?_) (by rw [List.getElem?_map, hv]; rfl) hd (k H locs hP hS)
    rw [e1, e2] at hz ⊢
    rcases e3 with e3 | e3
    · rw [← e3]; exact hz
    · exact u_same (hts _ e3) z hz
  | putfield idx =>
    obtain ⟨q, hq, h1⟩ := Option.bind_eq_some_iff.mp (show Option.bind _ _ = _ from hB)
    obtain ⟨ob, hob, h2⟩ := Option.bind_eq_some_iff.mp h1
    obtain ⟨kk, hk, h3⟩ := Option.bind_eq_some_iff.mp h2
    split at h3
    · rename_i hm
      cases h3
      rw [jx_VR_eq hq]
      obtain ⟨w, hw, hk2⟩ := Option.bind_eq_some_iff.mp (show Option.bind _ _ = _ from hk)
      obtain ⟨cq, hc, hlt, e1, e2, e3⟩ := jx_k_ok hk2
      have h3a := ho.big (jx_ob_eq hob)
      have hcell := jx_cell (g := jx_ad t base) (t := t) (base := base) (dA := dA) (jx_ob_eq hob) h3a
      obtain ⟨hm1, hm2⟩ := hm
      unfold jx_may at hm1
      rw [hc] at hm1
      simp only [Bool.and_eq_true, decide_eq_true_eq, Bool.or_eq_true, beq_iff_eq] at hm1
      obtain ⟨⟨m1, m2⟩, m3⟩ := hm1
      have same : ∀ x, s.fieldFound? (cq.2.1 kk).1 (cq.2.1 kk).2.1 (cq.2.1 kk).2.2.1 = some x → s.fieldFound? w.1 (cq.2.1 kk).2.1 (cq.2.1 kk).2.2.1 = some x := by
        intro z hz
        rw [e1, e2] at hz ⊢
        rcases e3 with e3 | e3
        · rw [← e3]; exact hz
        · exact u_same (hts _ e3) z hz
      have fin : ∀ (H1 : Heap) (locs1 : List Loc), va_P D vwCl ((jx_w (jx_ad t base) dA base (h.drop 3)).set (q.2.1 - 3) (jx_ad t base q.2.1, .inr (ob.1, (ob.2.map (jx_v (jx_ad t base))).set kk (jx_v (jx_ad t base) q.1)))) H1 → va_D (fun z => base ≤ z) ((jx_w (jx_ad t base) dA base (h.drop 3)).set (q.2.1 - 3) (jx_ad t base q.2.1, .inr (ob.1, (ob.2.map (jx_v (jx_ad t base))).set kk (jx_v (jx_ad t base) q.1)))) → va_S (fun q => base ≤ q) s.heap H1 locs1 → W p l e R s m args below meth c H1 locs1 (h.length - n0) (jx_sz h - z0) Q (F0 m (pc + 3) ls (q.2.2.map (jx_v (jx_ad t base)))) := by
        intro H1 locs1 hP1 _ hS1
        rw [← List.map_set] at hP1
        exact set_cs (cn := .inr (ob.1, ob.2.set kk q.1)) (jx_ob_eq hob) (by simp [jx_c1]) (k H1 locs1 (jx_P.put h3a hP1) hS1)
      by_cases m0 : (cq.2.1 kk).2.2.2 = false
      · exact va_put (D := D) (ci := ob.1) (v := jx_v (jx_ad t base) q.1) (ty := jx_fty (cq.2.1 kk).2.2.1) (C := cq.1) (T := cq.2.1) (N := cq.2.2) (fs := ob.2.map (jx_v (jx_ad t base))) (ref := w.1) hx hb hts (jx_cls hc).1 (fun z => jx_fty (cq.2.1 z).2.2.1) (jx_cls hc).2.1 (jx_cls hc).2.2.1 hown hK.1 hP hDw hS _ hcell hc kk hlt (by rw [e1, e2]; exact hts _ (jx_wl_ok hw)) same m0 ((jx_cls hc).2.1 kk hlt) (jx_nar m1) (jx_fit m2) (by simpa using hm2) hd fin
      · obtain ⟨m3, m4⟩ := m3.resolve_left m0
        exact va_putF (D := D) (ci := ob.1) (v := jx_v (jx_ad t base) q.1) (ty := jx_fty (cq.2.1 kk).2.2.1) (C := cq.1) (T := cq.2.1) (N := cq.2.2) (fs := ob.2.map (jx_v (jx_ad t base))) (ref := w.1) hx hb hts (jx_cls hc).1 (fun z => jx_fty (cq.2.1 z).2.2.1) (jx_cls hc).2.1 (jx_cls hc).2.2.1 hown hK.1 hP hDw hS _ hcell hc kk hlt (by rw [e1, e2]; exact hts _ (jx_wl_ok hw)) same (by simpa using m0) (hmn.trans m3) m4 ((jx_cls hc).2.1 kk hlt) (jx_nar m1) (jx_fit m2) (by simpa using hm2) hd fin
    · cases h3
  | iaload =>
    obtain ⟨q, hq, h1⟩ := Option.bind_eq_some_iff.mp (show Option.bind _ _ = _ from hB)
    obtain ⟨v, hv, h2⟩ := Option.bind_eq_some_iff.mp h1
    split at h2
    · rename_i n
      cases h2
      rw [jx_IR_eq hq]
      obtain ⟨vs, v1, v2, v3⟩ := jx_el_ok hv
      have hz : jx_iv (vs.getD q.1.toNatClampNeg .null) = n := by rw [jx_getD_at v3]; rfl
      rcases Nat.lt_or_ge q.2.1 3 with h3 | h3
      · obtain ⟨e1, hT⟩ := outer h3 v1
        show W p l e R s m args below meth c H locs _ _ Q (F0 m pc ls (.int q.1 :: .ref (jx_ad t base q.2.1) :: q.2.2.map (jx_v (jx_ad t base))))
        rw [e1]
        exact va_ti hx hb hT hS v2 (v := .int n) (jx_getD_at v3) hd (k H locs hP hS)
      · exact va_iald (f := fun i => jx_iv (vs.getD i .null)) hx hb hK.1 hP (q.2.1 - 3) 0 (jx_cell v1 h3) rfl v2 hd (jx_top (w := .int n) (congrArg Value.int hz) (k H locs hP hS))
    · cases h2
  | laload =>
    obtain ⟨q, hq, h1⟩ := Option.bind_eq_some_iff.mp (show Option.bind _ _ = _ from hB)
    obtain ⟨v, hv, h2⟩ := Option.bind_eq_some_iff.mp h1
    split at h2
    · rename_i n
      split at h2
      · rename_i h3
        cases h2
        rw [jx_IR_eq hq]
        obtain ⟨vs, v1, v2, v3⟩ := jx_el_ok hv
        have hz : jx_lv (vs.getD q.1.toNatClampNeg .null) = n := by rw [jx_getD_at v3]; rfl
        exact va_lald (f := fun i => jx_lv (vs.getD i .null)) hx hb hK.1 hP (q.2.1 - 3) 1 (jx_cell v1 h3) rfl v2 hd (jx_top (w := .long n) (congrArg Value.long hz) (k H locs hP hS))
      · cases h2
    · cases h2
  | caload =>
    obtain ⟨q, hq, h1⟩ := Option.bind_eq_some_iff.mp (show Option.bind _ _ = _ from hB)
    obtain ⟨v, hv, h2⟩ := Option.bind_eq_some_iff.mp h1
    split at h2
    · rename_i n
      split at h2
      · rename_i h3
        cases h2
        rw [jx_IR_eq hq]
        obtain ⟨vs, v1, v2, v3⟩ := jx_el_ok hv
        have hz : jx_iv (vs.getD q.1.toNatClampNeg .null) = n := by rw [jx_getD_at v3]; rfl
        exact va_cald (f := fun i => jx_iv (vs.getD i .null)) hx hb hK.1 hP (q.2.1 - 3) 2 (jx_cell v1 h3) rfl v2 hd (jx_top (w := .int n) (congrArg Value.int hz) (k H locs hP hS))
      · cases h2
    · cases h2
  | baload =>
    obtain ⟨q, hq, h1⟩ := Option.bind_eq_some_iff.mp (show Option.bind _ _ = _ from hB)
    obtain ⟨v, hv, h2⟩ := Option.bind_eq_some_iff.mp h1
    split at h2
    · rename_i n
      split at h2
      · rename_i h3
        cases h2
        rw [jx_IR_eq hq]
        obtain ⟨vs, v1, v2, v3⟩ := jx_el_ok hv
        have hz : jx_iv (vs.getD q.1.toNatClampNeg .null) = n := by rw [jx_getD_at v3]; rfl
        exact va_zald (f := fun i => jx_iv (vs.getD i .null)) hx hb hK.1 hP (q.2.1 - 3) 3 (jx_cell v1 h3) rfl v2 hd (jx_top (w := .int n) (congrArg Value.int hz) (k H locs hP hS))
      · cases h2
    · cases h2
  | daload =>
    obtain ⟨q, hq, h1⟩ := Option.bind_eq_some_iff.mp (show Option.bind _ _ = _ from hB)
    obtain ⟨v, hv, h2⟩ := Option.bind_eq_some_iff.mp h1
    split at h2
    · rename_i n
      split at h2
      · rename_i h3
        cases h2
        rw [jx_IR_eq hq]
        obtain ⟨vs, v1, v2, v3⟩ := jx_el_ok hv
        have hz : jx_dv (vs.getD q.1.toNatClampNeg .null) = n := by rw [jx_getD_at v3]; rfl
        exact va_dald (f := fun i => jx_dv (vs.getD i .null)) hx hb hK.1 hP (q.2.1 - 3) 4 (jx_cell v1 h3) rfl v2 hd (jx_top (w := .double n) (congrArg Value.double hz) (k H locs hP hS))
      · cases h2
    · cases h2
  | aaload =>
    obtain ⟨q, hq, h1⟩ := Option.bind_eq_some_iff.mp (show Option.bind _ _ = _ from hB)
    obtain ⟨v, hv, h2⟩ := Option.bind_eq_some_iff.mp h1
    obtain ⟨vs, v1, v2, v3⟩ := jx_el_ok hv
    split at h2
    · rename_i n
      split at h2
      · rename_i h3
        cases h2
        rw [jx_IR_eq hq]
        have hz : va_rf (jx_rv (jx_ad t base) (vs.getD q.1.toNatClampNeg .null)) = .ref (jx_ad t base n) := by rw [jx_getD_at v3]; rfl
        exact va_aldq (f := fun i => jx_rv (jx_ad t base) (vs.getD i .null)) hx hb hK.1 hP (q.2.1 - 3) 5 (jx_cell v1 h3) rfl v2 hd (jx_top hz (k H locs hP hS))
      · cases h2
    · split at h2
      · rename_i h3
        cases h2
        rw [jx_IR_eq hq]
        have hz : va_rf (jx_rv (jx_ad t base) (vs.getD q.1.toNatClampNeg .null)) = .null := by rw [jx_getD_at v3]; rfl
        exact va_aldq (f := fun i => jx_rv (jx_ad t base) (vs.getD i .null)) hx hb hK.1 hP (q.2.1 - 3) 5 (jx_cell v1 h3) rfl v2 hd (jx_top hz (k H locs hP hS))
      · cases h2
    · cases h2
  | iastore =>
    obtain ⟨q, hq, h1⟩ := Option.bind_eq_some_iff.mp (show Option.bind _ _ = _ from hB)
    split at h1
    · rename_i n hn
      obtain ⟨h2, h3, he⟩ := Option.map_eq_some_iff.mp h1
      cases he
      rw [jx_VIR_eq hq, hn]
      obtain ⟨vs, v1, v2, v3, v4, rfl⟩ := jx_up_ok h3
      exact va_iast (x := n) (f := fun i => jx_iv (vs.getD i .null)) hx hb hK.1 hP hDw hS (q.2.2.1 - 3) 0 (jx_cell v1 v4) rfl v2 hd (fun H1 locs1 hP1 _ hS1 => set_cs v1 (by simp [jx_c1]) (k H1 locs1 (jx_P.put v4 (by rw [jx_upI _ _ _ (Or.inl rfl) v3]; exact hP1)) hS1))
    · cases h1
  | lastore =>
    obtain ⟨q, hq, h1⟩ := Option.bind_eq_some_iff.mp (show Option.bind _ _ = _ from hB)
    split at h1
    · rename_i n hn
      obtain ⟨h2, h3, he⟩ := Option.map_eq_some_iff.mp h1
      cases he
      rw [jx_VIR_eq hq, hn]
      obtain ⟨vs, v1, v2, v3, v4, rfl⟩ := jx_up_ok h3
      exact va_last (x := n) (f := fun i => jx_lv (vs.getD i .null)) hx hb hK.1 hP hDw hS (q.2.2.1 - 3) 1 (jx_cell v1 v4) rfl v2 hd (fun H1 locs1 hP1 _ hS1 => set_cs v1 (by simp [jx_c1]) (k H1 locs1 (jx_P.put v4 (by rw [jx_upL _ _ v3]; exact hP1)) hS1))
    · cases h1
  | castore =>
    obtain ⟨q, hq, h1⟩ := Option.bind_eq_some_iff.mp (show Option.bind _ _ = _ from hB)
    split at h1
    · rename_i n hn
      obtain ⟨h2, h3, he⟩ := Option.map_eq_some_iff.mp h1
      cases he
      rw [jx_VIR_eq hq, hn]
      obtain ⟨vs, v1, v2, v3, v4, rfl⟩ := jx_up_ok h3
      exact va_cast (x := n) (f := fun i => jx_iv (vs.getD i .null)) hx hb hK.1 hP hDw hS (q.2.2.1 - 3) 2 (jx_cell v1 v4) rfl v2 hd (fun H1 locs1 hP1 _ hS1 => set_cs v1 (by simp [jx_c1]) (k H1 locs1 (jx_P.put v4 (by rw [jx_upI _ _ _ (Or.inr (Or.inl rfl)) v3]; exact hP1)) hS1))
    · cases h1
  | bastore =>
    obtain ⟨q, hq, h1⟩ := Option.bind_eq_some_iff.mp (show Option.bind _ _ = _ from hB)
    split at h1
    · rename_i n hn
      obtain ⟨h2, h3, he⟩ := Option.map_eq_some_iff.mp h1
      cases he
      rw [jx_VIR_eq hq, hn]
      obtain ⟨vs, v1, v2, v3, v4, rfl⟩ := jx_up_ok h3
      exact va_zast (x := n) (f := fun i => jx_iv (vs.getD i .null)) hx hb hK.1 hP hDw hS (q.2.2.1 - 3) 3 (jx_cell v1 v4) rfl v2 hd (fun H1 locs1 hP1 _ hS1 => set_cs v1 (by simp [jx_c1]) (k H1 locs1 (jx_P.put v4 (by rw [jx_upI _ _ _ (Or.inr (Or.inr rfl)) v3]; exact hP1)) hS1))
    · cases h1
  | dastore =>
    obtain ⟨q, hq, h1⟩ := Option.bind_eq_some_iff.mp (show Option.bind _ _ = _ from hB)
    split at h1
    · rename_i n hn
      obtain ⟨h2, h3, he⟩ := Option.map_eq_some_iff.mp h1
      cases he
      rw [jx_VIR_eq hq, hn]
      obtain ⟨vs, v1, v2, v3, v4, rfl⟩ := jx_up_ok h3
      exact va_dast (x := n) (f := fun i => jx_dv (vs.getD i .null)) hx hb hK.1 hP hDw hS (q.2.2.1 - 3) 4 (jx_cell v1 v4) rfl v2 hd (fun H1 locs1 hP1 _ hS1 => set_cs v1 (by simp [jx_c1]) (k H1 locs1 (jx_P.put v4 (by rw [jx_upD _ _ v3]; exact hP1)) hS1))
    · cases h1
  | aastore =>
    obtain ⟨q, hq, h1⟩ := Option.bind_eq_some_iff.mp (show Option.bind _ _ = _ from hB)
    split at h1
    · rename_i hn
      obtain ⟨h2, h3, he⟩ := Option.map_eq_some_iff.mp h1
      cases he
      rw [jx_VIR_eq hq, hn]
      obtain ⟨vs, v1, v2, v3, v4, rfl⟩ := jx_up_ok h3
      exact va_astqN (f := fun i => jx_rv (jx_ad t base) (vs.getD i .null)) hx hb hK.1 hP hDw hS (q.2.2.1 - 3) 5 (jx_cell v1 v4) rfl v2 hd (fun H1 locs1 hP1 _ hS1 => set_cs v1 (by simp [jx_c1]) (k H1 locs1 (jx_P.put v4 (by rw [jx_upA _ _ _ v3]; exact hP1)) hS1))
    · rename_i v hn
      obtain ⟨ob, hob, h4⟩ := Option.bind_eq_some_iff.mp h1
      obtain ⟨cl, hcl, h5⟩ := Option.bind_eq_some_iff.mp h4
      split at h5
      · rename_i hk
        obtain ⟨h2, h3, he⟩ := Option.map_eq_some_iff.mp h5
        cases he
        rw [jx_VIR_eq hq, hn]
        obtain ⟨vs, v1, v2, v3, v4, rfl⟩ := jx_up_ok h3
        have hov := jx_cell (g := jx_ad t base) (t := t) (base := base) (dA := dA) (jx_ob_eq hob) (ho.big (jx_ob_eq hob))
        exact va_astqO (f := fun i => jx_rv (jx_ad t base) (vs.getD i .null)) hx hb hK.1 hP hDw hS (q.2.2.1 - 3) 5 (v - 3) ob.1 (jx_cell v1 v4) rfl (hK.2.2.1 _ hk) hov hcl v2 hd (fun H1 locs1 hP1 _ hS1 => set_cs v1 (by simp [jx_c1]) (k H1 locs1 (jx_P.put v4 (by rw [jx_upA _ _ _ v3]; exact hP1)) hS1))
      · cases h5
    · cases h1
  | arraylength =>
    obtain ⟨q, hq, h1⟩ := Option.bind_eq_some_iff.mp (show Option.bind _ _ = _ from hB)
    obtain ⟨⟨ty, vs⟩, hv, h2⟩ := Option.bind_eq_some_iff.mp h1
    have v1 := jx_ar_eq hv
    split at h2
    · rename_i h3
      split at h2
      · rename_i hty
        cases h2
        rw [jx_1R_eq hq]
        rcases Nat.lt_or_ge q.1 3 with h5 | h5
        · have h6 : ty = .int := h3.resolve_left (by omega)
          subst h6
          obtain ⟨e1, hT⟩ := outer h5 v1
          show W p l e R s m args below meth c H locs _ _ Q (F0 m pc ls (.ref (jx_ad t base q.1) :: q.2.map (jx_v (jx_ad t base))))
          rw [e1]
          exact va_tlen hx hb hT hS rfl hd (k H locs hP hS)
        · simp only [List.mem_cons, List.not_mem_nil, or_false] at hty
          rcases hty with rfl | rfl | rfl | rfl | rfl | rfl
          · exact va_alen hx hb hK.1 hP (q.1 - 3) 0 (jx_cell v1 h5) rfl rfl hd (k H locs hP hS)
          · exact va_alen hx hb hK.1 hP (q.1 - 3) 1 (jx_cell v1 h5) rfl rfl hd (k H locs hP hS)
          · exact va_alen hx hb hK.1 hP (q.1 - 3) 2 (jx_cell v1 h5) rfl rfl hd (k H locs hP hS)
          · exact va_alen hx hb hK.1 hP (q.1 - 3) 3 (jx_cell v1 h5) rfl rfl hd (k H locs hP hS)
          · exact va_alen hx hb hK.1 hP (q.1 - 3) 4 (jx_cell v1 h5) rfl rfl hd (k H locs hP hS)
          · exact va_alen hx hb hK.1 hP (q.1 - 3) 5 (jx_cell v1 h5) rfl rfl hd (k H locs hP hS)
      · cases h2
    · cases h2
  | new idx =>
    obtain ⟨C, hC, h1⟩ := Option.bind_eq_some_iff.mp (show Option.bind _ _ = _ from hB)
    obtain ⟨ci, hci, h2⟩ := Option.bind_eq_some_iff.mp h1
    obtain ⟨cl, hcl, h3⟩ := Option.bind_eq_some_iff.mp h2
    split at h3
    · rename_i hcC
      cases h3
      have hok := jx_cls hcl
      have hlen : (h ++ [(.inr (ci, (List.range cl.2.2).map fun k => defaultValue (jx_fty (cl.2.1 k).2.2.1)) : jx_C)]).length - n0 = h.length - n0 + 1 := by rw [List.length_append, List.length_singleton]; omega
      have hslo : jx_sz (h ++ [(.inr (ci, (List.range cl.2.2).map fun k => defaultValue (jx_fty (cl.2.1 k).2.2.1)) : jx_C)]) - z0 = jx_sz h - z0 + cl.2.2 := by rw [jx_sz_app]; simp only [jx_c1, List.length_map, List.length_range]; omega
      refine va_new (D := D) (ci := ci) (fs := ((List.range cl.2.2).map fun k => defaultValue (jx_fty (cl.2.1 k).2.2.1)).map (jx_v (jx_ad t base))) (C := cl.1) (T := cl.2.1) (N := cl.2.2) hx hb hts hok.1 (fun z => jx_fty (cl.2.1 z).2.2.1) hok.2.1 hown (by rw [hcC]; exact hts _ (jx_cn_ok hC)) (hts _ hok.2.2.2.1) (hts _ hok.2.2.2.2) hK.1 hP hDw hS hA hcl (fun j hj => ?_) (by omega) (by omega) hd (fun q H1 hP1 hD1 hS1 => ?_)
      · show defaultValue (jx_fty (cl.2.1 j).2.2.1) = List.getD _ j .null
        rw [List.getD_eq_getElem?_getD, List.getElem?_map, List.getElem?_map, List.getElem?_range hj]
        exact (jx_dflt _ _).symm
      · refine jx_size fun hz => ?_
        have hq := jx_fresh h3h hP1 hD1 (by omega)
        have w := k H1 locs (jx_P.push h3h hq hP1) hS1
        rw [hlen, hslo] at w
        rw [hq]
        exact w
    · cases h3
  | newarray at_ =>
    obtain ⟨q, hq, h1⟩ := Option.bind_eq_some_iff.mp (show Option.bind _ _ = _ from hB)
    obtain ⟨ty, hty, h2⟩ := Option.bind_eq_some_iff.mp h1
    split at h2
    · rename_i hn
      cases h2
      rw [jx_1I_eq hq]
      have hlen : (h ++ [(.inl (ty, List.replicate q.1.toNatClampNeg (defaultValue ty)) : jx_C)]).length - n0 = h.length - n0 + 1 := by rw [List.length_append, List.length_singleton]; omega
      have hslo : jx_sz (h ++ [(.inl (ty, List.replicate q.1.toNatClampNeg (defaultValue ty)) : jx_C)]) - z0 = jx_sz h - z0 + q.1.toNatClampNeg := by rw [jx_sz_app]; simp only [jx_c1, List.length_replicate]; omega
      have hcase : (ty = .int ∨ ty = .long ∨ ty = .char ∨ ty = .boolean ∨ ty = .double) ∧ newarray.typeOf at_ = ty ∧ (∃ j, (jx_tys dA)[j]? = some (dA ty, ty)) ∧ (Cond.arrayClass ty) ∈ jx_g ∧ componentBytes ty ≤ 8 := by
        cases at_ <;> cases hty
        · exact ⟨by simp, rfl, ⟨3, rfl⟩, jx_ac_z, by decide⟩
        · exact ⟨by simp, rfl, ⟨2, rfl⟩, jx_ac_c, by decide⟩
        · exact ⟨by simp, rfl, ⟨4, rfl⟩, jx_ac_d, by decide⟩
        · exact ⟨by simp, rfl, ⟨0, rfl⟩, jx_ac_i, by decide⟩
        · exact ⟨by simp, rfl, ⟨1, rfl⟩, jx_ac_l, by decide⟩
      obtain ⟨c1, c2, ⟨tj, c3⟩, c4, c5⟩ := hcase
      refine va_newa (a0 := jx_co (jx_ad t base) ty (List.replicate q.1.toNatClampNeg (defaultValue ty))) hx hb (by rw [c2]; exact hts _ c4) c2 hK.1 hP hDw hS hA (fun cA => jx_newco _ ty c1 _ cA) hn.1 rfl (Nat.le_trans (Nat.mul_le_mul hn.2 c5) (by decide)) (by omega) (by omega) hd (fun qa cA H1 hK1 hP1 hD1 hS1 => ?_)
      have hcA : cA = dA ty := jx_arrId c3 (fun C hC => by subst hC; simp at c1) hK.1 hK1
      subst hcA
      refine jx_size fun hz => ?_
      have hq2 := jx_fresh h3h hP1 hD1 (by omega)
      have w := k H1 locs (jx_P.push h3h hq2 hP1) hS1
      rw [hlen, hslo] at w
      rw [hq2]
      exact w
    · cases h2
  | anewarray idx =>
    obtain ⟨q, hq, h1⟩ := Option.bind_eq_some_iff.mp (show Option.bind _ _ = _ from hB)
    obtain ⟨C, hC, h2⟩ := Option.bind_eq_some_iff.mp h1
    split at h2
    · rename_i hn
      obtain ⟨rfl, hn1, hn2⟩ := hn
      cases h2
      rw [jx_1I_eq hq]
      have hlen : (h ++ [(.inl (.object "RaceHouse$Thing", List.replicate q.1.toNatClampNeg .null) : jx_C)]).length - n0 = h.length - n0 + 1 := by rw [List.length_append, List.length_singleton]; omega
      have hslo : jx_sz (h ++ [(.inl (.object "RaceHouse$Thing", List.replicate q.1.toNatClampNeg .null) : jx_C)]) - z0 = jx_sz h - z0 + q.1.toNatClampNeg := by rw [jx_sz_app]; simp only [jx_c1, List.length_replicate]; omega
      have e1 : (fun _ : Nat => (none : Option Nat)) = fun i => jx_rv (jx_ad t base) ((List.replicate q.1.toNatClampNeg Value.null).getD i .null) := by
        funext j; rw [jx_rep_getD]; split <;> rfl
      refine va_newq hx hb hown (hts _ (jx_cn_ok hC)) hK.2.2.2.2.1 hK.1 hP hDw hS hA hn1 rfl (Nat.le_trans (Nat.mul_le_mul_right 4 hn2) (by decide)) (by omega) (by omega) hd (fun qa cA H1 hK1 hP1 hD1 hS1 => ?_)
      have hcA : cA = dA (.object "RaceHouse$Thing") := jx_arrIdO (k := 5) rfl hK.1 hK1
      subst hcA
      have e2 : jx_e (jx_ad t base) dA (.inl (.object "RaceHouse$Thing", List.replicate q.1.toNatClampNeg .null)) = .inl (dA (.object "RaceHouse$Thing"), q.1.toNatClampNeg, .inr (.inr (.inr (.inr (fun _ => none))))) := by
        show Sum.inl (dA _, (List.replicate q.1.toNatClampNeg Value.null).length, Sum.inr (Sum.inr (Sum.inr (Sum.inr (fun i => jx_rv (jx_ad t base) ((List.replicate q.1.toNatClampNeg Value.null).getD i .null)))))) = _
        rw [← e1, List.length_replicate]
      rw [← e2] at hP1 hD1
      refine jx_size fun hz => ?_
      have hq2 := jx_fresh h3h hP1 hD1 (by omega)
      have w := k H1 locs (jx_P.push h3h hq2 hP1) hS1
      rw [hlen, hslo] at w
      rw [hq2]
      exact w
    · cases h2
  | checkcast idx =>
    obtain ⟨q, hq, h1⟩ := Option.bind_eq_some_iff.mp (show Option.bind _ _ = _ from hB)
    obtain ⟨ao, r⟩ := q
    cases ao with
    | none =>
      cases h1
      rw [jx_1O_eq hq]
      exact lv_castN hx hb hd (k H locs hP hS)
    | some a =>
      obtain ⟨ob, hob, h4⟩ := Option.bind_eq_some_iff.mp (show Option.bind _ _ = _ from h1)
      obtain ⟨cl, hcl, h5⟩ := Option.bind_eq_some_iff.mp h4
      obtain ⟨C, hC, h6⟩ := Option.bind_eq_some_iff.mp h5
      split at h6
      · rename_i hk
        cases h6
        rw [jx_1O_eq hq]
        have hov := jx_cell (g := jx_ad t base) (t := t) (base := base) (dA := dA) (jx_ob_eq hob) (ho.big (jx_ob_eq hob))
        exact va_castY hx hb hown (hts _ (jx_cn_ok hC)) (hK.2.2.1 _ hk) (va_recv hK.1 hP hcl hov) hd (k H locs hP hS)
      · cases h6
  | instanceof idx =>
    obtain ⟨q, hq, h1⟩ := Option.bind_eq_some_iff.mp (show Option.bind _ _ = _ from hB)
    obtain ⟨ao, r⟩ := q
    cases ao with
    | none =>
      cases h1
      rw [jx_1O_eq hq]
      exact lv_instN hx hb hd (k H locs hP hS)
    | some a =>
      obtain ⟨ob, hob, h4⟩ := Option.bind_eq_some_iff.mp (show Option.bind _ _ = _ from h1)
      obtain ⟨cl, hcl, h5⟩ := Option.bind_eq_some_iff.mp h4
      obtain ⟨C, hC, h6⟩ := Option.bind_eq_some_iff.mp h5
      have hov := jx_cell (g := jx_ad t base) (t := t) (base := base) (dA := dA) (jx_ob_eq hob) (ho.big (jx_ob_eq hob))
      split at h6
      · rename_i hk
        cases h6
        rw [jx_1O_eq hq]
        exact va_instY hx hb hown (hts _ (jx_cn_ok hC)) (hK.2.2.1 _ hk) (va_recv hK.1 hP hcl hov) hd (k H locs hP hS)
      · split at h6
        · rename_i hk
          cases h6
          rw [jx_1O_eq hq]
          exact va_instNo hx hb hown (hts _ (jx_cn_ok hC)) (hK.2.2.2.1 _ hk) (va_recv hK.1 hP hcl hov) hd (k H locs hP hS)
        · cases h6
  | getstatic idx =>
    obtain ⟨q, hq, h1⟩ := Option.bind_eq_some_iff.mp (show Option.bind _ _ = _ from hB)
    split at h1
    · rename_i hqe
      subst hqe
      cases h1
      exact va_gets hx hb hK.2.2.2.2.2.2.1 hS hown (hts _ (jx_wl_ok hq)) (fun _ z => z) hd (k H locs hP hS)
    · split at h1
      · rename_i hqe
        subst hqe
        cases h1
        exact va_gets hx hb hK.2.2.2.2.2.2.2.1 hS hown (hts _ (jx_wl_ok hq)) (fun _ z => z) hd (k H locs hP hS)
      · cases h1
  | ldc idx =>
    obtain ⟨v, hv, he⟩ := Option.map_eq_some_iff.mp (show Option.map _ _ = _ from hB)
    cases he
    exact lv_ldc hx hb hown (hts _ (jx_kI_ok hv)) hd (k H locs hP hS)
  | ldc_w idx =>
    obtain ⟨v, hv, he⟩ := Option.map_eq_some_iff.mp (show Option.map _ _ = _ from hB)
    cases he
    exact lv_ldcw hx hb hown (hts _ (jx_kI_ok hv)) hd (k H locs hP hS)
  | ldc2_w idx =>
    simp only [jx_B] at hB
    split at hB
    · rename_i v hv
      cases hB
      exact lv_ldc2 hx hb hown (hts _ (jx_kL_ok hv)) hd (k H locs hP hS)
    · obtain ⟨v, hv, he⟩ := Option.map_eq_some_iff.mp hB
      cases he
      exact lv_ldc2d hx hb hown (hts _ (jx_kD_ok hv)) hd (k H locs hP hS)
  | _ => exact Option.noConfusion (show (none : Option (List Value × List jx_C)) = some (st', h') from hB)
end JXB
end
section
/-! CALLS, ENDS, AND THE RUN OF A FRAME -/
def jx_ml (own : String) (idx : Nat) : Option MethodName := jx_g.findSome? fun w => match w with
  | .methodLink a j r => if a = own ∧ j = idx then some r else none
  | _ => none
def jx_mx (own : String) (idx : Nat) : Option (MethodName × String) := jx_nm.findSome? fun q => if q.1 = own ∧ q.2.1 = idx then some q.2.2 else none
def jx_find (y : MethodName) : Option jx_M := jx_g.findSome? fun w => match w with
  | .code z b n r => if z = y then some (z, b, n, r) else none
  | _ => none
theorem jx_ml_ok {own : String} {idx : Nat} {q : MethodName} (h : jx_ml own idx = some q) : Cond.methodLink own idx q ∈ jx_g := by
  obtain ⟨w, hw, hf⟩ := List.exists_of_findSome?_eq_some h
  split at hf
  · split at hf
    · rename_i hc
      cases hf
      rw [← hc.1, ← hc.2]; exact hw
    · cases hf
  · cases hf
theorem jx_mx_ok {own : String} {idx : Nat} {q : MethodName × String} (h : jx_mx own idx = some q) : (own, idx, q.1, q.2) ∈ jx_nm := by
  obtain ⟨w, hw, hf⟩ := List.exists_of_findSome?_eq_some h
  split at hf
  · rename_i hc
    cases hf
    rw [← hc.1, ← hc.2]; exact hw
  · cases hf
theorem jx_find_ok {y : MethodName} {M : jx_M} (h : jx_find y = some M) : M.1 = y ∧ Cond.code y M.2.1 M.2.2.1 M.2.2.2 ∈ jx_g := by
  obtain ⟨w, hw, hf⟩ := List.exists_of_findSome?_eq_some h
  split at hf
  · split at hf
    · rename_i hc
      cases hf
      subst hc
      exact ⟨rfl, hw⟩
    · cases hf
  · cases hf
def jx_np (y : MethodName) : Option Nat := (parseMethodDescriptor y.desc).map fun d => d.parameters.length
def jx_okM (M : jx_M) : Prop := plainName M.1.cls = true ∧ M.1.cls ≠ "java/lang/invoke/MethodHandle" ∧ M.1.cls ≠ "java/lang/invoke/VarHandle" ∧ Cond.initialized M.1.cls ∈ jx_g ∧ M.2.2.1 ≤ 23
def jx_cats (st : List Value) : Nat := (st.map fun v => v.category).sum
/-- the locals at a method's start -/
def jx_fl (vs : List Value) : jx_L := vs.flatMap fun v => if v.category = 2 then [some v, none] else [some v]
def jx_ent (n : Nat) (vs : List Value) : jx_L := jx_fl vs ++ List.replicate (n - (jx_fl vs).length) none
def jx_tgt (own : String) (idx : Nat) : Option MethodName := match jx_ml own idx with
  | some y => some y
  | none => (jx_mx own idx).map fun q => q.1
/-- a call: the callee, its arguments, the stack below them -/
def jx_call (own : String) (i : Instr) (st : List Value) (h : List jx_C) : Option (jx_M × List Value × List Value) := match i with
  | .invokestatic idx => (jx_tgt own idx).bind fun y => (jx_find y).bind fun M => (jx_np y).bind fun n => if (plainName M.1.cls = true ∧ M.1.cls ≠ "java/lang/invoke/MethodHandle" ∧ M.1.cls ≠ "java/lang/invoke/VarHandle" ∧ Cond.initialized M.1.cls ∈ jx_g ∧ M.2.2.1 ≤ 23) ∧ Cond.static y ∈ jx_g ∧ n ≤ st.length ∧ jx_cats (st.drop n) ≤ 8 ∧ (jx_fl (st.take n).reverse).length ≤ M.2.2.1 then some (M, (st.take n).reverse, st.drop n) else none
  | .invokespecial idx => (jx_tgt own idx).bind fun y => (jx_find y).bind fun M => (jx_np y).bind fun n => (jx_1R (st.drop n)).bind fun q => if (plainName M.1.cls = true ∧ M.1.cls ≠ "java/lang/invoke/MethodHandle" ∧ M.1.cls ≠ "java/lang/invoke/VarHandle" ∧ Cond.initialized M.1.cls ∈ jx_g ∧ M.2.2.1 ≤ 23) ∧ y.name = "<init>" ∧ Cond.instanceMethod y ∈ jx_g ∧ M.2.2.2 = none ∧ jx_cats q.2 ≤ 8 ∧ (jx_fl (.ref q.1 :: (st.take n).reverse)).length ≤ M.2.2.1 then some (M, .ref q.1 :: (st.take n).reverse, q.2) else none
  | .invokevirtual idx => (jx_ml own idx).bind fun y => (jx_find y).bind fun M => (jx_np y).bind fun n => (jx_1R (st.drop n)).bind fun q => (jx_ob h q.1).bind fun ob => (vwCl[ob.1]?).bind fun cl => if (plainName M.1.cls = true ∧ M.1.cls ≠ "java/lang/invoke/MethodHandle" ∧ M.1.cls ≠ "java/lang/invoke/VarHandle" ∧ Cond.initialized M.1.cls ∈ jx_g ∧ M.2.2.1 ≤ 23) ∧ Cond.instanceMethod y ∈ jx_g ∧ Cond.selects cl.1 y y ∈ jx_g ∧ jx_cats q.2 ≤ 8 ∧ (jx_fl (.ref q.1 :: (st.take n).reverse)).length ≤ M.2.2.1 then some (M, .ref q.1 :: (st.take n).reverse, q.2) else none
  | _ => none
/-- an end: what is answered -/
def jx_ret (ret : Option FieldType) (i : Instr) (st : List Value) : Option (Option Value) := match i with
  | .return_ => match ret, st with
    | none, [] => some none
    | _, _ => none
  | .ireturn => match ret, st with
    | some ty, [.int v] => if narrow ty (.int v) = .int v then some (some (.int v)) else none
    | _, _ => none
  | .lreturn => match ret, st with
    | some .long, [.long v] => some (some (.long v))
    | _, _ => none
  | .dreturn => match ret, st with
    | some .double, [.double v] => some (some (.double v))
    | _, _ => none
  | .areturn => match ret, st with
    | some (.object _), [.ref v] => some (some (.ref v))
    | some (.object _), [.null] => some (some .null)
    | _, _ => none
  | _ => none
/-- references compared: of places behind the outer rows, or null -/
def jx_2O : List Value → Option (Option Nat × Option Nat × List Value)
  | .ref b :: .ref a :: r => some (some a, some b, r)
  | .null :: .ref a :: r => some (some a, none, r)
  | .ref b :: .null :: r => some (none, some b, r)
  | .null :: .null :: r => some (none, none, r)
  | _ => none
theorem jx_2O_eq {st : List Value} {q : Option Nat × Option Nat × List Value} (h : jx_2O st = some q) : st = jx_rf q.2.1 :: jx_rf q.1 :: q.2.2 := by
  unfold jx_2O at h; split at h <;> cases h <;> rfl
def jx_far : Option Nat → Bool
  | none => true
  | some a => decide (3 ≤ a)
def jx_Q (pc : Nat) (i : Instr) (st : List Value) : Option (Nat × List Value) := match i with
  | .if_acmp .eq off => (jx_2O st).bind fun q => (jx_j pc off).bind fun t => if jx_far q.1 = true ∧ jx_far q.2.1 = true then some (if q.1 = q.2.1 then t else pc + 3, q.2.2) else none
  | .if_acmp .ne off => (jx_2O st).bind fun q => (jx_j pc off).bind fun t => if jx_far q.1 = true ∧ jx_far q.2.1 = true then some (if q.1 = q.2.1 then pc + 3 else t, q.2.2) else none
  | _ => none
/-- copied from one list into another -/
def jx_cpl (src dst : List Value) (sp dp n : Nat) : List Value := (List.range dst.length).map fun k => if dp ≤ k ∧ k < dp + n then src.getD (sp + (k - dp)) .null else dst.getD k .null
def jx_cp (h : List jx_C) (ty : FieldType) (a0 : Nat) (sp : Int32) (a : Nat) (dp n : Int32) : Option (List jx_C) := (jx_ar h a0).bind fun c0 => (jx_ar h a).bind fun c1 => if c0.1 = ty ∧ c1.1 = ty ∧ ¬ sp < 0 ∧ ¬ dp < 0 ∧ ¬ n < 0 ∧ sp.toNatClampNeg + n.toNatClampNeg ≤ c0.2.length ∧ dp.toNatClampNeg + n.toNatClampNeg ≤ c1.2.length ∧ 3 ≤ a0 ∧ 3 ≤ a then some (h.set a (.inl (ty, jx_cpl c0.2 c1.2 sp.toNatClampNeg dp.toNatClampNeg n.toNatClampNeg))) else none
def jx_5 : List Value → Option (Int32 × Int32 × Nat × Int32 × Nat × List Value)
  | .int n :: .int dp :: .ref a :: .int sp :: .ref a0 :: r => some (n, dp, a, sp, a0, r)
  | _ => none
theorem jx_5_eq {st : List Value} {q : Int32 × Int32 × Nat × Int32 × Nat × List Value} (h : jx_5 st = some q) : st = .int q.1 :: .int q.2.1 :: .ref q.2.2.1 :: .int q.2.2.2.1 :: .ref q.2.2.2.2.1 :: q.2.2.2.2.2 := by
  unfold jx_5 at h; split at h <;> cases h; rfl
/-- natives, and Object's constructor -/
def jx_N (own : String) (i : Instr) (st : List Value) (h : List jx_C) : Option (List Value × List jx_C) := match i with
  | .invokespecial idx => (jx_ml own idx).bind fun y => (jx_1R st).bind fun q => if y = objectInit ∧ jx_cats q.2 ≤ 8 then some (q.2, h) else none
  | .invokestatic idx => (jx_ml own idx).bind fun y =>
    if y = ⟨"java/lang/Double", "longBitsToDouble", "(J)D"⟩ then (jx_1L st).bind fun q => if vn_snl2d q.1 = false ∧ jx_cats q.2 ≤ 8 then some (.double q.1.toUInt64 :: q.2, h) else none
    else if y = ⟨"java/lang/Double", "doubleToRawLongBits", "(D)J"⟩ then (jx_1D st).bind fun q => if jx_cats q.2 ≤ 8 then some (.long q.1.toInt64 :: q.2, h) else none
    else if y = arraycopyName then (jx_5 st).bind fun q => if jx_cats q.2.2.2.2.2 ≤ 8 then match jx_cp h .int q.2.2.2.2.1 q.2.2.2.1 q.2.2.1 q.2.1 q.1 with
        | some h' => some (q.2.2.2.2.2, h')
        | none => (jx_cp h .long q.2.2.2.2.1 q.2.2.2.1 q.2.2.1 q.2.1 q.1).map fun h' => (q.2.2.2.2.2, h')
      else none
    else none
  | _ => none
/-- an instruction that is neither a call nor an end -/
def jx_step (M : jx_M) (pc : Nat) (i : Instr) (lo : jx_L) (st : List Value) (h : List jx_C) : Option (Nat × jx_L × List Value × List jx_C) := match jx_S i st with
  | some st' => some (pc + jx_len i, lo, st', h)
  | none => match jx_Lo M.2.2.1 i lo st with
    | some q => some (pc + jx_len i, q.1, q.2, h)
    | none => match jx_J pc i st with
      | some q => some (q.1, lo, q.2, h)
      | none => match jx_Q pc i st with
        | some q => some (q.1, lo, q.2, h)
        | none => (jx_B M.1 i st h).map fun q => (pc + jx_len i, lo, q.1, q.2)
/-- the run of a frame, with calls at most d deep: what it answers, and the heap behind it -/
def jx_run : Nat → Nat → jx_M → Nat → jx_L → List Value → List jx_C → Option (Option Value × List jx_C)
  | 0, _, _, _, _, _, _ => none
  | n + 1, d, M, pc, lo, st, h => match decode M.2.1 pc with
    | .error _ => none
    | .ok (i, len) => match jx_W pc i st with
      | some q => jx_run n d M q.1 lo q.2 h
      | none => if len = jx_len i then match jx_step M pc i lo st h with
          | some q => jx_run n d M q.1 q.2.1 q.2.2.1 q.2.2.2
          | none => match jx_ret M.2.2.2 i st with
            | some r => some (r, h)
            | none => match d with
              | 0 => none
              | d' + 1 => match jx_N M.1.cls i st h with
                | some q => jx_run n (d' + 1) M (pc + 3) lo q.1 q.2
                | none => match jx_call M.1.cls i st h with
                  | some q => match jx_run n d' q.1 0 (jx_ent q.1.2.2.1 q.2.1) [] h with
                    | some z => jx_run n (d' + 1) M (pc + 3) lo (z.1.toList ++ q.2.2) z.2
                    | none => none
                  | none => none
        else none
theorem jx_cp_ok {h h' : List jx_C} {ty : FieldType} {a0 a : Nat} {sp dp n : Int32} (q : jx_cp h ty a0 sp a dp n = some h') : ∃ v0 v1, h[a0]? = some (.inl (ty, v0)) ∧ h[a]? = some (.inl (ty, v1)) ∧ ¬ sp < 0 ∧ ¬ dp < 0 ∧ ¬ n < 0 ∧ sp.toNatClampNeg + n.toNatClampNeg ≤ v0.length ∧ dp.toNatClampNeg + n.toNatClampNeg ≤ v1.length ∧ 3 ≤ a0 ∧ 3 ≤ a ∧ h' = h.set a (.inl (ty, jx_cpl v0 v1 sp.toNatClampNeg dp.toNatClampNeg n.toNatClampNeg)) := by
  obtain ⟨⟨t0, v0⟩, hc0, h1⟩ := Option.bind_eq_some_iff.mp q
  obtain ⟨⟨t1, v1⟩, hc1, h2⟩ := Option.bind_eq_some_iff.mp h1
  split at h2
  · rename_i hh
    obtain ⟨rfl, rfl, g1, g2, g3, g4, g5, g6, g7⟩ := hh
    cases h2
    exact ⟨v0, v1, jx_ar_eq hc0, jx_ar_eq hc1, g1, g2, g3, g4, g5, g6, g7, rfl⟩
  · cases h2
theorem jx_N_heap {own : String} {i : Instr} {st st' : List Value} {h h' : List jx_C} (hB : jx_N own i st h = some (st', h')) : h' = h ∨ (∃ a c d, 3 ≤ a ∧ h[a]? = some d ∧ jx_c1 c = jx_c1 d ∧ h' = h.set a c) := by
  have cp : ∀ {ty : FieldType} {a0 a : Nat} {sp dp n : Int32} {h2 : List jx_C}, jx_cp h ty a0 sp a dp n = some h2 → ∃ a c d, 3 ≤ a ∧ h[a]? = some d ∧ jx_c1 c = jx_c1 d ∧ h2 = h.set a c := by
    intro ty a0 a sp dp n h2 q
    obtain ⟨v0, v1, -, g2, -, -, -, -, -, -, g9, g10⟩ := jx_cp_ok q
    exact ⟨a, _, _, g9, g2, by simp [jx_c1, jx_cpl], g10⟩
  cases i with
  | invokespecial idx =>
    obtain ⟨y, hy, h1⟩ := Option.bind_eq_some_iff.mp (show Option.bind _ _ = _ from hB)
    obtain ⟨q, hq, h2⟩ := Option.bind_eq_some_iff.mp h1
    split at h2
    · cases h2; exact Or.inl rfl
    · cases h2
  | invokestatic idx =>
    obtain ⟨y, hy, h1⟩ := Option.bind_eq_some_iff.mp (show Option.bind _ _ = _ from hB)
    split at h1
    · obtain ⟨q, hq, h2⟩ := Option.bind_eq_some_iff.mp h1
      split at h2
      · cases h2; exact Or.inl rfl
      · cases h2
    · split at h1
      · obtain ⟨q, hq, h2⟩ := Option.bind_eq_some_iff.mp h1
        split at h2
        · cases h2; exact Or.inl rfl
        · cases h2
      · split at h1
        · obtain ⟨q, hq, h2⟩ := Option.bind_eq_some_iff.mp h1
          split at h2
          · split at h2
            · rename_i hz
              cases h2; exact Or.inr (cp hz)
            · obtain ⟨h3, hz, he⟩ := Option.map_eq_some_iff.mp h2
              cases he; exact Or.inr (cp hz)
          · cases h2
        · cases h1
  | _ => exact Option.noConfusion (show (none : Option (List Value × List jx_C)) = some (st', h') from hB)
/-- what a run leaves: the outer rows in front, no fewer cells, fields and elements -/
def jx_mono (o : List (List Value)) (h h' : List jx_C) : Prop := jx_o3 o h' ∧ h.length ≤ h'.length ∧ jx_sz h ≤ jx_sz h'
theorem jx_mono.trans {o : List (List Value)} {a b c : List jx_C} (h1 : jx_mono o a b) (h2 : jx_mono o b c) : jx_mono o a c := ⟨h2.1, Nat.le_trans h1.2.1 h2.2.1, Nat.le_trans h1.2.2 h2.2.2⟩
theorem jx_N_mono {own : String} {i : Instr} {st st' : List Value} {h h' : List jx_C} {o : List (List Value)} (ho : jx_o3 o h) (hB : jx_N own i st h = some (st', h')) : jx_mono o h h' := by
  rcases jx_N_heap hB with rfl | ⟨a, c, d, h1, h2, h3, rfl⟩
  · exact ⟨ho, Nat.le_refl _, Nat.le_refl _⟩
  · exact ⟨ho.set h1 c, by simp, by rw [jx_sz_set h a c d h2 h3]; exact Nat.le_refl _⟩
theorem jx_step_mono {M : jx_M} {pc : Nat} {i : Instr} {lo : jx_L} {st : List Value} {h : List jx_C} {q : Nat × jx_L × List Value × List jx_C} {o : List (List Value)} (ho : jx_o3 o h) (hB : jx_step M pc i lo st h = some q) : jx_mono o h q.2.2.2 := by
  have rfl' : jx_mono o h h := ⟨ho, Nat.le_refl _, Nat.le_refl _⟩
  unfold jx_step at hB
  split at hB
  · cases hB; exact rfl'
  · split at hB
    · cases hB; exact rfl'
    · split at hB
      · cases hB; exact rfl'
      · split at hB
        · cases hB; exact rfl'
        · obtain ⟨z, hz, he⟩ := Option.map_eq_some_iff.mp hB
          cases he
          exact ⟨jx_B_o3 ho hz, jx_B_mono ho hz⟩
theorem jx_run_mono {o : List (List Value)} : ∀ (n d : Nat) (M : jx_M) (pc : Nat) (lo : jx_L) (st : List Value) (h : List jx_C) (z : Option Value × List jx_C), jx_o3 o h → jx_run n d M pc lo st h = some z → jx_mono o h z.2 := by
  intro n
  induction n with
  | zero => intro d M pc lo st h z ho hr; cases hr
  | succ n ih =>
    intro d M pc lo st h z ho hr
    unfold jx_run at hr
    split at hr
    · cases hr
    · split at hr
      · exact ih _ _ _ _ _ _ _ ho hr
      · split at hr
        · split at hr
          · rename_i q hq
            have h1 := jx_step_mono ho hq
            exact h1.trans (ih _ _ _ _ _ _ _ h1.1 hr)
          · split at hr
            · cases hr; exact ⟨ho, Nat.le_refl _, Nat.le_refl _⟩
            · split at hr
              · cases hr
              · split at hr
                · rename_i q hq
                  have h1 := jx_N_mono (o := o) (st' := q.1) (h' := q.2) ho hq
                  exact h1.trans (ih _ _ _ _ _ _ _ h1.1 hr)
                · split at hr
                  · split at hr
                    · rename_i z1 hz1
                      have h1 := ih _ _ _ _ _ _ _ ho hz1
                      exact h1.trans (ih _ _ _ _ _ _ _ h1.1 hr)
                    · cases hr
                  · cases hr
        · cases hr
end
section
/-! WHAT THE RUN SAYS HOLDS OF THE MACHINE -/
theorem jx_fl_sl (g : Nat → Nat) (vs : List Value) : (lg_sl (vs.map (jx_v g))).length = (jx_fl vs).length := by
  induction vs with
  | nil => rfl
  | cons v r ih =>
    simp only [lg_sl, jx_fl, List.map_cons, List.flatMap_cons, List.length_append] at ih ⊢
    rw [ih, jx_v_cat]
    split <;> rfl
theorem jx_fl_args (g : Nat → Nat) : ∀ (vs : List Value) (k i m : Nat) (v : Value), jx_ld (jx_fl vs ++ List.replicate m none) i = some v → (k + i, jx_v g v) ∈ lv_args k (vs.map (jx_v g))
  | [], k, i, m, v, h => by
    rw [jx_ld_iff] at h
    simp only [jx_fl, List.flatMap_nil, List.nil_append, List.getElem?_replicate] at h
    split at h <;> cases h
  | w :: r, k, i, m, v, h => by
    have hc : (jx_v g w).category = w.category := jx_v_cat g w
    show (k + i, jx_v g v) ∈ (k, jx_v g w) :: lv_args (if (jx_v g w).category = 2 then k + 2 else k + 1) (r.map (jx_v g))
    rw [hc]
    rw [jx_ld_iff] at h
    by_cases h2 : w.category = 2
    · rw [if_pos h2]
      have e : jx_fl (w :: r) ++ List.replicate m none = some w :: none :: (jx_fl r ++ List.replicate m none) := by simp [jx_fl, h2]
      rw [e] at h
      match i, h with
      | 0, h => cases h; exact List.mem_cons_self
      | 1, h => cases h
      | j + 2, h =>
        have h1 : jx_ld (jx_fl r ++ List.replicate m none) j = some v := jx_ld_iff.mpr h
        have h3 := jx_fl_args g r (k + 2) j m v h1
        rw [show k + (j + 2) = k + 2 + j by omega]
        exact List.mem_cons_of_mem _ h3
    · rw [if_neg h2]
      have e : jx_fl (w :: r) ++ List.replicate m none = some w :: (jx_fl r ++ List.replicate m none) := by simp [jx_fl, h2]
      rw [e] at h
      match i, h with
      | 0, h => cases h; exact List.mem_cons_self
      | j + 1, h =>
        have h1 : jx_ld (jx_fl r ++ List.replicate m none) j = some v := jx_ld_iff.mpr h
        have h3 := jx_fl_args g r (k + 1) j m v h1
        rw [show k + (j + 1) = k + 1 + j by omega]
        exact List.mem_cons_of_mem _ h3
theorem jx_ent_has {g : Nat → Nat} {ls : Array Slot} {n : Nat} {vs : List Value} (h : lv_has ls n (lv_args 0 (vs.map (jx_v g)))) : lv_has ls n (jx_p g (jx_ent n vs)) := by
  refine jx_has_sub h fun q hq => ?_
  obtain ⟨v, hv, he⟩ := jx_p_mem.mp hq
  have h1 := jx_fl_args g vs 0 q.1 _ v hv
  rw [Nat.zero_add, ← he] at h1
  exact h1
theorem jx_K.same {D : va_G} {dA : FieldType → ClassId} {t : Nat → Nat} {base : Nat} {o : List (List Value)} {s U : State} (h : jx_K D dA t base o s) (hvm : s.vm = U.vm) (hh : s.heap = U.heap) : jx_K D dA t base o U := by
  obtain ⟨h1, h2, h3, h4, h5, h6, h7, h8, h9⟩ := h
  have ha : s.vm.Alike U.vm := by rw [hvm]; exact Vm.Alike.refl _
  rw [hh] at h6 h7 h8
  exact ⟨h1.moved ha, fun q hq => (h2 q hq).same rfl hvm, fun q hq => (h3 q hq).same rfl hvm, fun q hq => (h4 q hq).moved ha, h5.moved ha, fun k vs hk => (h6 k vs hk).moved ha, h7.moved ha, h8.moved ha, h9⟩
/-- what holds of the state at a method's start -/
def jx_U (D : va_G) (dA : FieldType → ClassId) (t : Nat → Nat) (base : Nat) (o : List (List Value)) (h : List jx_C) (U : State) : Prop := jx_K D dA t base o U ∧ jx_o3 o h ∧ jx_P D dA t base h U.heap ∧ U.heap.size = base + (h.length - 3)
def jx_Qc (D : va_G) (dA : FieldType → ClassId) (t : Nat → Nat) (base : Nat) (r : Option Value) (h' : List jx_C) : Array Value → State → Outcome → State → Prop := fun _ st oc u => oc = .returned (r.map (jx_v (jx_ad t base))) ∧ jx_P D dA t base h' u.heap ∧ va_F (fun q => base ≤ q) st u
theorem jx_blind {D : va_G} {dA : FieldType → ClassId} {t : Nat → Nat} {base : Nat} {o : List (List Value)} {h : List jx_C} {av : List Value} : FrameBlind (va_Pc av (jx_U D dA t base o h)) := by
  intro a U g mk q
  obtain ⟨q1, q2, q3, q4, q5⟩ := q
  exact ⟨q1, q2.same rfl rfl, q3, q4, q5⟩
section JXC
variable {p : Program} {l : Launch} {e : Env} {R : Room} {s : State} {m : MethodId} {args : Array Value} {below : List Frame} {meth : Method} {c : Code} {H : Heap} {locs : List Loc} {cells slots mc ms : Nat} {Q : State → Prop} {pc : Nat} {ls : Array Slot} {rest st0 : List Value} {a : Array Value}
variable {D : va_G} {dA : FieldType → ClassId} {t : Nat → Nat} {base : Nat}
theorem jx_callW {r : Option Value} {h1 : List jx_C} (hr : va_Run p l e R s m args below meth c H locs cells slots mc ms (F0 m pc ls st0) rest (jx_Qc D dA t base r h1 a) (fun q => base ≤ q)) (hS : va_S (fun q => base ≤ q) s.heap H locs)
    (kk : ∀ (H1 : Heap) (locs1 : List Loc), jx_P D dA t base h1 H1 → va_S (fun q => base ≤ q) s.heap H1 locs1 → W p l e R s m args below meth c H1 locs1 (cells + mc) (slots + ms) Q (F0 m (pc + 3) ls ((r.map (jx_v (jx_ad t base))).toList ++ rest))) : W p l e R s m args below meth c H locs cells slots Q (F0 m pc ls st0) := by
  intro T hT X
  obtain ⟨v, st₀, u, T', L, h0, X', hL, e1, e2, ⟨hv, hp, hz, hk⟩, st⟩ := hr T hT X
  cases hv
  rw [h0] at hz hk
  obtain ⟨t2, a1, b1⟩ := kk T'.heap (locs ++ L) (by rw [e1]; exact hp)
    ⟨Nat.le_trans hS.1 (by rw [e1]; exact hz), fun q g1 g2 => by rw [e1, hk q (Nat.lt_of_lt_of_le g1 hS.1) g2]; exact hS.2.1 q g1 g2, fun q hq => by
      rcases List.mem_append.mp hq with g | g
      · exact hS.2.2 q g
      · exact hL q g⟩ T' rfl X'
  exact ⟨t2, st t2 a1, b1⟩
end JXC
/-- a run of n steps says what holds of the machine -/
def jx_Good (l : Launch) (D : va_G) (dA : FieldType → ClassId) (t : Nat → Nat) (base : Nat) (o : List (List Value)) (n : Nat) : Prop :=
  ∀ (d : Nat) (M : jx_M) (pc : Nat) (lo : jx_L) (st : List Value) (h : List jx_C) (r : Option Value) (h' : List jx_C), jx_run n d M pc lo st h = some (r, h') →
  ∀ (p : Program) (e : Env) (R : Room) (s : State) (m : MethodId) (args : Array Value) (below : List Frame) (meth : Method) (c : Code) (H : Heap) (locs : List Loc) (Q : State → Prop) (ls : Array Slot) (n0 z0 : Nat),
  p.tables.exec = Jvm.exec → c.code = M.2.1 → c.maxLocals = M.2.2.1 → s.vm.findClass M.1.cls = some m.cls → (∀ w ∈ jx_g, w.before args s = true) → meth.name = M.1.name →
  jx_K D dA t base o s → jx_P D dA t base h H → jx_o3 o h → va_S (fun q => base ≤ q) s.heap H locs → base ≤ s.heap.size → n0 ≤ h.length → z0 ≤ jx_sz h → 3 ≤ n0 → s.heap.size = base + (n0 - 3) → lv_has ls M.2.2.1 (jx_p (jx_ad t base) lo) →
  d ≤ R.frames → 42 * d ≤ R.locals → h'.length - n0 ≤ R.cells → jx_sz h' - z0 ≤ R.slots →
  (∀ (pc' : Nat) (i : Instr) (ls' : Array Slot) (st2 : List Value) (H1 : Heap) (locs1 : List Loc), decode M.2.1 pc' = .ok (i, 1) → jx_ret M.2.2.2 i st2 = some r → jx_P D dA t base h' H1 → va_S (fun q => base ≤ q) s.heap H1 locs1 → W p l e R s m args below meth c H1 locs1 (h'.length - n0) (jx_sz h' - z0) Q (F0 m pc' ls' (st2.map (jx_v (jx_ad t base))))) →
  W p l e R s m args below meth c H locs (h.length - n0) (jx_sz h - z0) Q (F0 m pc ls (st.map (jx_v (jx_ad t base))))
/-- the end of a method -/
theorem jx_end {p : Program} {l : Launch} {e : Env} {R : Room} {s : State} {m : MethodId} {args : Array Value} {below : List Frame} {meth : Method} {c : Code} {H : Heap} {locs : List Loc} {cells slots : Nat} {cc : ByteArray} {pc : Nat} {ls : Array Slot} {Qc : Array Value → State → Outcome → State → Prop} {free : Addr → Prop} {ret : Option FieldType} {i : Instr} {st : List Value} {r : Option Value} {g : Nat → Nat}
    (hx : p.tables.exec = Jvm.exec) (hb : c.code = cc) (hr : meth.sig.returnType = ret) (hlocks : meth.locks = false) (hd : decode cc pc = .ok (i, 1)) (hret : jx_ret ret i st = some r) (hq : ∀ u : State, u.heap = H → s.WarmedH u.vm → Qc args s (.returned (r.map (jx_v g))) u) (hf : ∀ q ∈ locs, free q.base) :
    W p l e R s m args below meth c H locs cells slots (MQ below Qc args s cells slots free) (F0 m pc ls (st.map (jx_v g))) := by
  cases i with
  | return_ =>
    simp only [jx_ret] at hret
    split at hret
    · cases hret; exact W.vret hx hb hr hq hf hd hlocks
    · cases hret
  | ireturn =>
    simp only [jx_ret] at hret
    split at hret
    · split at hret
      · rename_i hn
        cases hret; exact W.zret hx hb hr hn hq hf hd hlocks
      · cases hret
    · cases hret
  | lreturn =>
    simp only [jx_ret] at hret
    split at hret
    · cases hret; exact W.lret hx hb hr hq hf hd hlocks
    · cases hret
  | dreturn =>
    simp only [jx_ret] at hret
    split at hret
    · cases hret; exact W.dret hx hb hr hq hf hd hlocks
    · cases hret
  | areturn =>
    simp only [jx_ret] at hret
    split at hret
    · cases hret; exact W.aret hx hb hr (Or.inl ⟨_, rfl⟩) (Or.inr ⟨_, rfl⟩) hq hf hd hlocks
    · cases hret; exact W.aret hx hb hr (Or.inl ⟨_, rfl⟩) (Or.inl rfl) hq hf hd hlocks
    · cases hret
  | _ => exact Option.noConfusion (show (none : Option (Option Value)) = some r from hret)
/-- a method's contract out of a run -/
theorem jx_met {l : Launch} {D : va_G} {dA : FieldType → ClassId} {t : Nat → Nat} {base : Nat} {o : List (List Value)} {n : Nat} (hG : jx_Good l D dA t base o n) {d : Nat} {M : jx_M} {as : List Value} {h : List jx_C} {r : Option Value} {h' : List jx_C} (hrun : jx_run n d M 0 (jx_ent M.2.2.1 as) [] h = some (r, h')) (hpl : plainName M.1.cls = true) (hfl : (jx_fl as).length ≤ M.2.2.1) :
    Met l M.1 (Cond.code M.1 M.2.1 M.2.2.1 M.2.2.2 :: jx_g) { frames := d, cells := h'.length - h.length, slots := jx_sz h' - jx_sz h, locals := 42 * d } (va_Pc (as.map (jx_v (jx_ad t base))) (jx_U D dA t base o h)) (jx_Qc D dA t base r h') (h'.length - h.length) (jx_sz h' - jx_sz h) (fun q => base ≤ q) := by
  refine Met.ofW (cc := M.2.1) (maxL := M.2.2.1) (ret := M.2.2.2) hpl rfl ?_
  intro p e s m args below meth c s₁ B hml hv
  obtain ⟨rfl, hK, ho, hP, hsz⟩ := hv
  have hts0 := atoms_spec (ws := Cond.code M.1 M.2.1 M.2.2.1 M.2.2.2 :: jx_g) B.pre
  have hts : ∀ w ∈ jx_g, w.before _ s = true := fun w hw => hts0 w (List.mem_cons_of_mem _ hw)
  have hown : s.vm.findClass M.1.cls = some m.cls := findClass_of_methodNamed B.named
  have hmn : meth.name = M.1.name := (name_of_methodNamed B.named B.method).1
  have hl := lv_entry (as.map (jx_v (jx_ad t base))) (n := M.2.2.1) (by rw [jx_fl_sl]; exact hfl)
  have hlk := B.notSynchronized
  rw [lg_entry_eq]
  have w := hG d M 0 _ [] h r h' hrun p e (headSpec (Cond.code M.1 M.2.1 M.2.2.1 M.2.2.2 :: jx_g) { frames := d, cells := h'.length - h.length, slots := jx_sz h' - jx_sz h, locals := 42 * d }).room s m _ below meth c s.heap [] (MQ below (jx_Qc D dA t base r h') _ s (h'.length - h.length) (jx_sz h' - jx_sz h) (fun q => base ≤ q)) _ h.length (jx_sz h) B.exec B.bytes hml hown hts hmn hK hP ho va_S.rf (by omega) (Nat.le_refl _) (Nat.le_refl _) ho.len hsz (jx_ent_has hl) (Nat.le_refl _) (Nat.le_refl _) (Nat.le_refl _) (Nat.le_refl _)
    (fun pc' i ls' st2 H1 locs1 hd hret hP1 hS1 => jx_end B.exec B.bytes B.returns hlk hd hret (fun u hu _ => ⟨rfl, by rw [hu]; exact hP1, hS1.F hu⟩) (fun q hq => hS1.2.2 q hq))
  rw [Nat.sub_self, Nat.sub_self] at w
  exact w
end
