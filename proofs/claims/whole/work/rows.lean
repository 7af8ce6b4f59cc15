section
-- ===== PART A: goes FIRST, ahead of the names: the tables' words, and 'selects' of the private methods out of them =====
/-- a private method of a class that the tables say can be made, by its rows of tables_1 -/
def lw_okq (q : MethodName × Nat) : Prop := (q.1.cls ≠ "java/lang/invoke/MethodHandle" ∧ q.1.cls ≠ "java/lang/invoke/VarHandle") ∧ Cond.instantiable q.1.cls q.2 ∈ tables_1 ∧ Cond.privateMethod q.1 ∈ tables_1 ∧ Cond.instanceMethod q.1 ∈ tables_1
theorem lw_p0 : lw_okq (⟨"NightCarts", "cartAt", "(I)LNightCarts$Cart;"⟩, 12) := ⟨⟨by decide +kernel, by decide +kernel⟩, List.mem_of_getElem? (i := 23) (by decide +kernel), List.mem_of_getElem? (i := 419) (by decide +kernel), List.mem_of_getElem? (i := 420) (by decide +kernel)⟩
theorem lw_p1 : lw_okq (⟨"NightCarts$LawReader", "readClause", "(LNightCarts$Tape;)V"⟩, 1) := ⟨⟨by decide +kernel, by decide +kernel⟩, List.mem_of_getElem? (i := 189) (by decide +kernel), List.mem_of_getElem? (i := 491) (by decide +kernel), List.mem_of_getElem? (i := 492) (by decide +kernel)⟩
theorem lw_p2 : lw_okq (⟨"NightCarts$LawReader", "readSum", "(LNightCarts$Tape;I)V"⟩, 1) := ⟨⟨by decide +kernel, by decide +kernel⟩, List.mem_of_getElem? (i := 189) (by decide +kernel), List.mem_of_getElem? (i := 515) (by decide +kernel), List.mem_of_getElem? (i := 516) (by decide +kernel)⟩
theorem lw_p3 : lw_okq (⟨"NightCarts$LawReader", "readProduct", "(LNightCarts$Tape;I)V"⟩, 1) := ⟨⟨by decide +kernel, by decide +kernel⟩, List.mem_of_getElem? (i := 189) (by decide +kernel), List.mem_of_getElem? (i := 519) (by decide +kernel), List.mem_of_getElem? (i := 520) (by decide +kernel)⟩
theorem lw_p4 : lw_okq (⟨"NightCarts$LawReader", "readFactor", "(LNightCarts$Tape;I)V"⟩, 1) := ⟨⟨by decide +kernel, by decide +kernel⟩, List.mem_of_getElem? (i := 189) (by decide +kernel), List.mem_of_getElem? (i := 523) (by decide +kernel), List.mem_of_getElem? (i := 524) (by decide +kernel)⟩
theorem lw_p5 : lw_okq (⟨"NightCarts$LawReader", "opens", "(LNightCarts$Tape;I)Z"⟩, 1) := ⟨⟨by decide +kernel, by decide +kernel⟩, List.mem_of_getElem? (i := 189) (by decide +kernel), List.mem_of_getElem? (i := 531) (by decide +kernel), List.mem_of_getElem? (i := 532) (by decide +kernel)⟩
theorem lw_p6 : lw_okq (⟨"NightCarts$LawReader", "readFact", "(LNightCarts$Tape;)V"⟩, 1) := ⟨⟨by decide +kernel, by decide +kernel⟩, List.mem_of_getElem? (i := 189) (by decide +kernel), List.mem_of_getElem? (i := 555) (by decide +kernel), List.mem_of_getElem? (i := 556) (by decide +kernel)⟩
theorem lw_p7 : lw_okq (⟨"NightCarts$LawReader", "readChoice", "(LNightCarts$Tape;I)V"⟩, 1) := ⟨⟨by decide +kernel, by decide +kernel⟩, List.mem_of_getElem? (i := 189) (by decide +kernel), List.mem_of_getElem? (i := 651) (by decide +kernel), List.mem_of_getElem? (i := 652) (by decide +kernel)⟩
theorem lw_p8 : lw_okq (⟨"NightCarts$LawReader", "readPart", "(LNightCarts$Tape;I)V"⟩, 1) := ⟨⟨by decide +kernel, by decide +kernel⟩, List.mem_of_getElem? (i := 189) (by decide +kernel), List.mem_of_getElem? (i := 655) (by decide +kernel), List.mem_of_getElem? (i := 656) (by decide +kernel)⟩
theorem lw_p9 : lw_okq (⟨"NightCarts$LawReader", "readTest", "(LNightCarts$Tape;I)V"⟩, 1) := ⟨⟨by decide +kernel, by decide +kernel⟩, List.mem_of_getElem? (i := 189) (by decide +kernel), List.mem_of_getElem? (i := 659) (by decide +kernel), List.mem_of_getElem? (i := 660) (by decide +kernel)⟩
theorem lw_p10 : lw_okq (⟨"NightCarts$LawReader", "readNegation", "(LNightCarts$Tape;I)V"⟩, 1) := ⟨⟨by decide +kernel, by decide +kernel⟩, List.mem_of_getElem? (i := 189) (by decide +kernel), List.mem_of_getElem? (i := 663) (by decide +kernel), List.mem_of_getElem? (i := 664) (by decide +kernel)⟩
theorem lw_p11 : lw_okq (⟨"NightCarts$LawReader", "readComparison", "(LNightCarts$Tape;I)V"⟩, 1) := ⟨⟨by decide +kernel, by decide +kernel⟩, List.mem_of_getElem? (i := 189) (by decide +kernel), List.mem_of_getElem? (i := 667) (by decide +kernel), List.mem_of_getElem? (i := 668) (by decide +kernel)⟩
theorem lw_p12 : lw_okq (⟨"NightCarts$Roads", "readLine", "(LNightCarts$Tape;LNightCarts$City;I)V"⟩, 4) := ⟨⟨by decide +kernel, by decide +kernel⟩, List.mem_of_getElem? (i := 78) (by decide +kernel), List.mem_of_getElem? (i := 710) (by decide +kernel), List.mem_of_getElem? (i := 711) (by decide +kernel)⟩
theorem lw_p13 : lw_okq (⟨"NightCarts$Roads", "readStreet", "(LNightCarts$Tape;LNightCarts$City;)V"⟩, 4) := ⟨⟨by decide +kernel, by decide +kernel⟩, List.mem_of_getElem? (i := 78) (by decide +kernel), List.mem_of_getElem? (i := 720) (by decide +kernel), List.mem_of_getElem? (i := 721) (by decide +kernel)⟩
theorem lw_p14 : lw_okq (⟨"NightCarts$Roads", "findWays", "()V"⟩, 4) := ⟨⟨by decide +kernel, by decide +kernel⟩, List.mem_of_getElem? (i := 78) (by decide +kernel), List.mem_of_getElem? (i := 739) (by decide +kernel), List.mem_of_getElem? (i := 740) (by decide +kernel)⟩
theorem lw_p15 : lw_okq (⟨"NightCarts$Roads", "shortenFrom", "(II)V"⟩, 4) := ⟨⟨by decide +kernel, by decide +kernel⟩, List.mem_of_getElem? (i := 78) (by decide +kernel), List.mem_of_getElem? (i := 743) (by decide +kernel), List.mem_of_getElem? (i := 744) (by decide +kernel)⟩
def lw_privs_1 : List (MethodName × Nat) := [(⟨"NightCarts", "cartAt", "(I)LNightCarts$Cart;"⟩, 12), (⟨"NightCarts$LawReader", "readClause", "(LNightCarts$Tape;)V"⟩, 1), (⟨"NightCarts$LawReader", "readSum", "(LNightCarts$Tape;I)V"⟩, 1), (⟨"NightCarts$LawReader", "readProduct", "(LNightCarts$Tape;I)V"⟩, 1), (⟨"NightCarts$LawReader", "readFactor", "(LNightCarts$Tape;I)V"⟩, 1), (⟨"NightCarts$LawReader", "opens", "(LNightCarts$Tape;I)Z"⟩, 1), (⟨"NightCarts$LawReader", "readFact", "(LNightCarts$Tape;)V"⟩, 1), (⟨"NightCarts$LawReader", "readChoice", "(LNightCarts$Tape;I)V"⟩, 1), (⟨"NightCarts$LawReader", "readPart", "(LNightCarts$Tape;I)V"⟩, 1), (⟨"NightCarts$LawReader", "readTest", "(LNightCarts$Tape;I)V"⟩, 1), (⟨"NightCarts$LawReader", "readNegation", "(LNightCarts$Tape;I)V"⟩, 1), (⟨"NightCarts$LawReader", "readComparison", "(LNightCarts$Tape;I)V"⟩, 1), (⟨"NightCarts$Roads", "readLine", "(LNightCarts$Tape;LNightCarts$City;I)V"⟩, 4), (⟨"NightCarts$Roads", "readStreet", "(LNightCarts$Tape;LNightCarts$City;)V"⟩, 4), (⟨"NightCarts$Roads", "findWays", "()V"⟩, 4), (⟨"NightCarts$Roads", "shortenFrom", "(II)V"⟩, 4)]
theorem lw_r1 : ∀ q ∈ lw_privs_1, lw_okq q := List.forall_mem_cons.mpr ⟨lw_p0, List.forall_mem_cons.mpr ⟨lw_p1, List.forall_mem_cons.mpr ⟨lw_p2, List.forall_mem_cons.mpr ⟨lw_p3, List.forall_mem_cons.mpr ⟨lw_p4, List.forall_mem_cons.mpr ⟨lw_p5, List.forall_mem_cons.mpr ⟨lw_p6, List.forall_mem_cons.mpr ⟨lw_p7, List.forall_mem_cons.mpr ⟨lw_p8, List.forall_mem_cons.mpr ⟨lw_p9, List.forall_mem_cons.mpr ⟨lw_p10, List.forall_mem_cons.mpr ⟨lw_p11, List.forall_mem_cons.mpr ⟨lw_p12, List.forall_mem_cons.mpr ⟨lw_p13, List.forall_mem_cons.mpr ⟨lw_p14, List.forall_mem_cons.mpr ⟨lw_p15, fun _ h => absurd h List.not_mem_nil⟩⟩⟩⟩⟩⟩⟩⟩⟩⟩⟩⟩⟩⟩⟩⟩
theorem lw_p16 : lw_okq (⟨"NightCarts$Cart", "readStop", "(LNightCarts$Tape;)V"⟩, 5) := ⟨⟨by decide +kernel, by decide +kernel⟩, List.mem_of_getElem? (i := 141) (by decide +kernel), List.mem_of_getElem? (i := 756) (by decide +kernel), List.mem_of_getElem? (i := 757) (by decide +kernel)⟩
theorem lw_p17 : lw_okq (⟨"NightCarts$Cart", "addStop", "(ZII)V"⟩, 5) := ⟨⟨by decide +kernel, by decide +kernel⟩, List.mem_of_getElem? (i := 141) (by decide +kernel), List.mem_of_getElem? (i := 766) (by decide +kernel), List.mem_of_getElem? (i := 767) (by decide +kernel)⟩
theorem lw_p18 : lw_okq (⟨"NightCarts", "sendCarts", "(I)V"⟩, 12) := ⟨⟨by decide +kernel, by decide +kernel⟩, List.mem_of_getElem? (i := 23) (by decide +kernel), List.mem_of_getElem? (i := 798) (by decide +kernel), List.mem_of_getElem? (i := 799) (by decide +kernel)⟩
theorem lw_p19 : lw_okq (⟨"NightCarts", "isToldCart", "(I)Z"⟩, 12) := ⟨⟨by decide +kernel, by decide +kernel⟩, List.mem_of_getElem? (i := 23) (by decide +kernel), List.mem_of_getElem? (i := 812) (by decide +kernel), List.mem_of_getElem? (i := 813) (by decide +kernel)⟩
theorem lw_p20 : lw_okq (⟨"NightCarts$Night", "goOn", "(III)V"⟩, 16) := ⟨⟨by decide +kernel, by decide +kernel⟩, List.mem_of_getElem? (i := 201) (by decide +kernel), List.mem_of_getElem? (i := 825) (by decide +kernel), List.mem_of_getElem? (i := 826) (by decide +kernel)⟩
theorem lw_p21 : lw_okq (⟨"NightCarts$Night", "isIdle", "()Z"⟩, 16) := ⟨⟨by decide +kernel, by decide +kernel⟩, List.mem_of_getElem? (i := 201) (by decide +kernel), List.mem_of_getElem? (i := 843) (by decide +kernel), List.mem_of_getElem? (i := 844) (by decide +kernel)⟩
theorem lw_p22 : lw_okq (⟨"NightCarts$Night", "earliestCart", "()I"⟩, 16) := ⟨⟨by decide +kernel, by decide +kernel⟩, List.mem_of_getElem? (i := 201) (by decide +kernel), List.mem_of_getElem? (i := 847) (by decide +kernel), List.mem_of_getElem? (i := 848) (by decide +kernel)⟩
theorem lw_p23 : lw_okq (⟨"NightCarts$Night", "serveBefore", "(I)V"⟩, 16) := ⟨⟨by decide +kernel, by decide +kernel⟩, List.mem_of_getElem? (i := 201) (by decide +kernel), List.mem_of_getElem? (i := 851) (by decide +kernel), List.mem_of_getElem? (i := 852) (by decide +kernel)⟩
theorem lw_p24 : lw_okq (⟨"NightCarts$Night", "serve", "(I)V"⟩, 16) := ⟨⟨by decide +kernel, by decide +kernel⟩, List.mem_of_getElem? (i := 201) (by decide +kernel), List.mem_of_getElem? (i := 855) (by decide +kernel), List.mem_of_getElem? (i := 856) (by decide +kernel)⟩
theorem lw_p25 : lw_okq (⟨"NightCarts$Night", "askOf", "(II)I"⟩, 16) := ⟨⟨by decide +kernel, by decide +kernel⟩, List.mem_of_getElem? (i := 201) (by decide +kernel), List.mem_of_getElem? (i := 864) (by decide +kernel), List.mem_of_getElem? (i := 865) (by decide +kernel)⟩
theorem lw_p26 : lw_okq (⟨"NightCarts$Law", "reckon", "(II)I"⟩, 12) := ⟨⟨by decide +kernel, by decide +kernel⟩, List.mem_of_getElem? (i := 97) (by decide +kernel), List.mem_of_getElem? (i := 892) (by decide +kernel), List.mem_of_getElem? (i := 893) (by decide +kernel)⟩
theorem lw_p27 : lw_okq (⟨"NightCarts$Law", "push", "(I)V"⟩, 12) := ⟨⟨by decide +kernel, by decide +kernel⟩, List.mem_of_getElem? (i := 97) (by decide +kernel), List.mem_of_getElem? (i := 896) (by decide +kernel), List.mem_of_getElem? (i := 897) (by decide +kernel)⟩
theorem lw_p28 : lw_okq (⟨"NightCarts$Law", "factAt", "(I)I"⟩, 12) := ⟨⟨by decide +kernel, by decide +kernel⟩, List.mem_of_getElem? (i := 97) (by decide +kernel), List.mem_of_getElem? (i := 900) (by decide +kernel), List.mem_of_getElem? (i := 901) (by decide +kernel)⟩
theorem lw_p29 : lw_okq (⟨"NightCarts$Law", "pop", "()I"⟩, 12) := ⟨⟨by decide +kernel, by decide +kernel⟩, List.mem_of_getElem? (i := 97) (by decide +kernel), List.mem_of_getElem? (i := 904) (by decide +kernel), List.mem_of_getElem? (i := 905) (by decide +kernel)⟩
theorem lw_p30 : lw_okq (⟨"NightCarts$Law", "join", "(III)I"⟩, 12) := ⟨⟨by decide +kernel, by decide +kernel⟩, List.mem_of_getElem? (i := 97) (by decide +kernel), List.mem_of_getElem? (i := 909) (by decide +kernel), List.mem_of_getElem? (i := 910) (by decide +kernel)⟩
theorem lw_p31 : lw_okq (⟨"NightCarts$Night", "takeOn", "(II)I"⟩, 16) := ⟨⟨by decide +kernel, by decide +kernel⟩, List.mem_of_getElem? (i := 201) (by decide +kernel), List.mem_of_getElem? (i := 921) (by decide +kernel), List.mem_of_getElem? (i := 922) (by decide +kernel)⟩
def lw_privs_2 : List (MethodName × Nat) := [(⟨"NightCarts$Cart", "readStop", "(LNightCarts$Tape;)V"⟩, 5), (⟨"NightCarts$Cart", "addStop", "(ZII)V"⟩, 5), (⟨"NightCarts", "sendCarts", "(I)V"⟩, 12), (⟨"NightCarts", "isToldCart", "(I)Z"⟩, 12), (⟨"NightCarts$Night", "goOn", "(III)V"⟩, 16), (⟨"NightCarts$Night", "isIdle", "()Z"⟩, 16), (⟨"NightCarts$Night", "earliestCart", "()I"⟩, 16), (⟨"NightCarts$Night", "serveBefore", "(I)V"⟩, 16), (⟨"NightCarts$Night", "serve", "(I)V"⟩, 16), (⟨"NightCarts$Night", "askOf", "(II)I"⟩, 16), (⟨"NightCarts$Law", "reckon", "(II)I"⟩, 12), (⟨"NightCarts$Law", "push", "(I)V"⟩, 12), (⟨"NightCarts$Law", "factAt", "(I)I"⟩, 12), (⟨"NightCarts$Law", "pop", "()I"⟩, 12), (⟨"NightCarts$Law", "join", "(III)I"⟩, 12), (⟨"NightCarts$Night", "takeOn", "(II)I"⟩, 16)]
theorem lw_r2 : ∀ q ∈ lw_privs_2, lw_okq q := List.forall_mem_cons.mpr ⟨lw_p16, List.forall_mem_cons.mpr ⟨lw_p17, List.forall_mem_cons.mpr ⟨lw_p18, List.forall_mem_cons.mpr ⟨lw_p19, List.forall_mem_cons.mpr ⟨lw_p20, List.forall_mem_cons.mpr ⟨lw_p21, List.forall_mem_cons.mpr ⟨lw_p22, List.forall_mem_cons.mpr ⟨lw_p23, List.forall_mem_cons.mpr ⟨lw_p24, List.forall_mem_cons.mpr ⟨lw_p25, List.forall_mem_cons.mpr ⟨lw_p26, List.forall_mem_cons.mpr ⟨lw_p27, List.forall_mem_cons.mpr ⟨lw_p28, List.forall_mem_cons.mpr ⟨lw_p29, List.forall_mem_cons.mpr ⟨lw_p30, List.forall_mem_cons.mpr ⟨lw_p31, fun _ h => absurd h List.not_mem_nil⟩⟩⟩⟩⟩⟩⟩⟩⟩⟩⟩⟩⟩⟩⟩⟩
theorem lw_p32 : lw_okq (⟨"NightCarts$Night", "leave", "(III)I"⟩, 16) := ⟨⟨by decide +kernel, by decide +kernel⟩, List.mem_of_getElem? (i := 201) (by decide +kernel), List.mem_of_getElem? (i := 925) (by decide +kernel), List.mem_of_getElem? (i := 926) (by decide +kernel)⟩
theorem lw_p33 : lw_okq (⟨"NightCarts$Night", "sleepsAfter", "(II)Z"⟩, 16) := ⟨⟨by decide +kernel, by decide +kernel⟩, List.mem_of_getElem? (i := 201) (by decide +kernel), List.mem_of_getElem? (i := 929) (by decide +kernel), List.mem_of_getElem? (i := 930) (by decide +kernel)⟩
theorem lw_p34 : lw_okq (⟨"NightCarts$Night", "lose", "(II)I"⟩, 16) := ⟨⟨by decide +kernel, by decide +kernel⟩, List.mem_of_getElem? (i := 201) (by decide +kernel), List.mem_of_getElem? (i := 933) (by decide +kernel), List.mem_of_getElem? (i := 934) (by decide +kernel)⟩
theorem lw_p35 : lw_okq (⟨"NightCarts", "canBeTried", "(I)Z"⟩, 12) := ⟨⟨by decide +kernel, by decide +kernel⟩, List.mem_of_getElem? (i := 23) (by decide +kernel), List.mem_of_getElem? (i := 954) (by decide +kernel), List.mem_of_getElem? (i := 955) (by decide +kernel)⟩
theorem lw_p36 : lw_okq (⟨"NightCarts$Rounds", "leastFrom", "(II)I"⟩, 5) := ⟨⟨by decide +kernel, by decide +kernel⟩, List.mem_of_getElem? (i := 257) (by decide +kernel), List.mem_of_getElem? (i := 1000) (by decide +kernel), List.mem_of_getElem? (i := 1001) (by decide +kernel)⟩
theorem lw_p37 : lw_okq (⟨"NightCarts$Rounds", "minutesBetween", "(II)I"⟩, 5) := ⟨⟨by decide +kernel, by decide +kernel⟩, List.mem_of_getElem? (i := 257) (by decide +kernel), List.mem_of_getElem? (i := 1004) (by decide +kernel), List.mem_of_getElem? (i := 1005) (by decide +kernel)⟩
theorem lw_p38 : lw_okq (⟨"NightCarts$Rounds", "minutesOver", "(III)I"⟩, 5) := ⟨⟨by decide +kernel, by decide +kernel⟩, List.mem_of_getElem? (i := 257) (by decide +kernel), List.mem_of_getElem? (i := 1009) (by decide +kernel), List.mem_of_getElem? (i := 1010) (by decide +kernel)⟩
theorem lw_p39 : lw_okq (⟨"NightCarts$Rounds", "writeRow", "()V"⟩, 5) := ⟨⟨by decide +kernel, by decide +kernel⟩, List.mem_of_getElem? (i := 257) (by decide +kernel), List.mem_of_getElem? (i := 1014) (by decide +kernel), List.mem_of_getElem? (i := 1015) (by decide +kernel)⟩
theorem lw_p40 : lw_okq (⟨"NightCarts$Rounds", "firstThatMeets", "(III)I"⟩, 5) := ⟨⟨by decide +kernel, by decide +kernel⟩, List.mem_of_getElem? (i := 257) (by decide +kernel), List.mem_of_getElem? (i := 1018) (by decide +kernel), List.mem_of_getElem? (i := 1019) (by decide +kernel)⟩
theorem lw_p41 : lw_okq (⟨"NightCarts$Shares", "neededFor", "(I)I"⟩, 9) := ⟨⟨by decide +kernel, by decide +kernel⟩, List.mem_of_getElem? (i := 279) (by decide +kernel), List.mem_of_getElem? (i := 1044) (by decide +kernel), List.mem_of_getElem? (i := 1045) (by decide +kernel)⟩
theorem lw_p42 : lw_okq (⟨"NightCarts$Shares", "greatestLevel", "(I)I"⟩, 9) := ⟨⟨by decide +kernel, by decide +kernel⟩, List.mem_of_getElem? (i := 279) (by decide +kernel), List.mem_of_getElem? (i := 1050) (by decide +kernel), List.mem_of_getElem? (i := 1051) (by decide +kernel)⟩
theorem lw_p43 : lw_okq (⟨"NightCarts$Shares", "missingToSleep", "(ILNightCarts$Law;)I"⟩, 9) := ⟨⟨by decide +kernel, by decide +kernel⟩, List.mem_of_getElem? (i := 279) (by decide +kernel), List.mem_of_getElem? (i := 1071) (by decide +kernel), List.mem_of_getElem? (i := 1072) (by decide +kernel)⟩
theorem lw_p44 : lw_okq (⟨"NightCarts$Shares", "weigh", "(II)V"⟩, 9) := ⟨⟨by decide +kernel, by decide +kernel⟩, List.mem_of_getElem? (i := 279) (by decide +kernel), List.mem_of_getElem? (i := 1080) (by decide +kernel), List.mem_of_getElem? (i := 1081) (by decide +kernel)⟩
theorem lw_p45 : lw_okq (⟨"NightCarts$Roads", "reachedFrom", "(I)I"⟩, 4) := ⟨⟨by decide +kernel, by decide +kernel⟩, List.mem_of_getElem? (i := 78) (by decide +kernel), List.mem_of_getElem? (i := 1109) (by decide +kernel), List.mem_of_getElem? (i := 1110) (by decide +kernel)⟩
theorem lw_p46 : lw_okq (⟨"NightCarts$Roads", "isCut", "(I)Z"⟩, 4) := ⟨⟨by decide +kernel, by decide +kernel⟩, List.mem_of_getElem? (i := 78) (by decide +kernel), List.mem_of_getElem? (i := 1133) (by decide +kernel), List.mem_of_getElem? (i := 1134) (by decide +kernel)⟩
theorem lw_p47 : lw_okq (⟨"NightCarts$Roads", "neighboursOf", "(III)I"⟩, 4) := ⟨⟨by decide +kernel, by decide +kernel⟩, List.mem_of_getElem? (i := 78) (by decide +kernel), List.mem_of_getElem? (i := 1139) (by decide +kernel), List.mem_of_getElem? (i := 1140) (by decide +kernel)⟩
def lw_privs_3 : List (MethodName × Nat) := [(⟨"NightCarts$Night", "leave", "(III)I"⟩, 16), (⟨"NightCarts$Night", "sleepsAfter", "(II)Z"⟩, 16), (⟨"NightCarts$Night", "lose", "(II)I"⟩, 16), (⟨"NightCarts", "canBeTried", "(I)Z"⟩, 12), (⟨"NightCarts$Rounds", "leastFrom", "(II)I"⟩, 5), (⟨"NightCarts$Rounds", "minutesBetween", "(II)I"⟩, 5), (⟨"NightCarts$Rounds", "minutesOver", "(III)I"⟩, 5), (⟨"NightCarts$Rounds", "writeRow", "()V"⟩, 5), (⟨"NightCarts$Rounds", "firstThatMeets", "(III)I"⟩, 5), (⟨"NightCarts$Shares", "neededFor", "(I)I"⟩, 9), (⟨"NightCarts$Shares", "greatestLevel", "(I)I"⟩, 9), (⟨"NightCarts$Shares", "missingToSleep", "(ILNightCarts$Law;)I"⟩, 9), (⟨"NightCarts$Shares", "weigh", "(II)V"⟩, 9), (⟨"NightCarts$Roads", "reachedFrom", "(I)I"⟩, 4), (⟨"NightCarts$Roads", "isCut", "(I)Z"⟩, 4), (⟨"NightCarts$Roads", "neighboursOf", "(III)I"⟩, 4)]
theorem lw_r3 : ∀ q ∈ lw_privs_3, lw_okq q := List.forall_mem_cons.mpr ⟨lw_p32, List.forall_mem_cons.mpr ⟨lw_p33, List.forall_mem_cons.mpr ⟨lw_p34, List.forall_mem_cons.mpr ⟨lw_p35, List.forall_mem_cons.mpr ⟨lw_p36, List.forall_mem_cons.mpr ⟨lw_p37, List.forall_mem_cons.mpr ⟨lw_p38, List.forall_mem_cons.mpr ⟨lw_p39, List.forall_mem_cons.mpr ⟨lw_p40, List.forall_mem_cons.mpr ⟨lw_p41, List.forall_mem_cons.mpr ⟨lw_p42, List.forall_mem_cons.mpr ⟨lw_p43, List.forall_mem_cons.mpr ⟨lw_p44, List.forall_mem_cons.mpr ⟨lw_p45, List.forall_mem_cons.mpr ⟨lw_p46, List.forall_mem_cons.mpr ⟨lw_p47, fun _ h => absurd h List.not_mem_nil⟩⟩⟩⟩⟩⟩⟩⟩⟩⟩⟩⟩⟩⟩⟩⟩
theorem lw_p48 : lw_okq (⟨"NightCarts", "sendOneCart", "(III)V"⟩, 12) := ⟨⟨by decide +kernel, by decide +kernel⟩, List.mem_of_getElem? (i := 23) (by decide +kernel), List.mem_of_getElem? (i := 1165) (by decide +kernel), List.mem_of_getElem? (i := 1166) (by decide +kernel)⟩
theorem lw_p49 : lw_okq (⟨"NightCarts$Shares", "wastedBy", "(IILNightCarts$Law;)I"⟩, 9) := ⟨⟨by decide +kernel, by decide +kernel⟩, List.mem_of_getElem? (i := 279) (by decide +kernel), List.mem_of_getElem? (i := 1183) (by decide +kernel), List.mem_of_getElem? (i := 1184) (by decide +kernel)⟩
theorem lw_p50 : lw_okq (⟨"NightCarts", "partJobs", "(III)I"⟩, 12) := ⟨⟨by decide +kernel, by decide +kernel⟩, List.mem_of_getElem? (i := 23) (by decide +kernel), List.mem_of_getElem? (i := 1200) (by decide +kernel), List.mem_of_getElem? (i := 1201) (by decide +kernel)⟩
theorem lw_p51 : lw_okq (⟨"NightCarts$Parting", "give", "(I)V"⟩, 7) := ⟨⟨by decide +kernel, by decide +kernel⟩, List.mem_of_getElem? (i := 313) (by decide +kernel), List.mem_of_getElem? (i := 1211) (by decide +kernel), List.mem_of_getElem? (i := 1212) (by decide +kernel)⟩
theorem lw_p52 : lw_okq (⟨"NightCarts$Parting", "keepRow", "()V"⟩, 7) := ⟨⟨by decide +kernel, by decide +kernel⟩, List.mem_of_getElem? (i := 313) (by decide +kernel), List.mem_of_getElem? (i := 1215) (by decide +kernel), List.mem_of_getElem? (i := 1216) (by decide +kernel)⟩
theorem lw_p53 : lw_okq (⟨"NightCarts$Parting", "giveTo", "(II)V"⟩, 7) := ⟨⟨by decide +kernel, by decide +kernel⟩, List.mem_of_getElem? (i := 313) (by decide +kernel), List.mem_of_getElem? (i := 1221) (by decide +kernel), List.mem_of_getElem? (i := 1222) (by decide +kernel)⟩
theorem lw_p54 : lw_okq (⟨"NightCarts", "matchBrides", "(II)I"⟩, 12) := ⟨⟨by decide +kernel, by decide +kernel⟩, List.mem_of_getElem? (i := 23) (by decide +kernel), List.mem_of_getElem? (i := 1247) (by decide +kernel), List.mem_of_getElem? (i := 1248) (by decide +kernel)⟩
theorem lw_p55 : lw_okq (⟨"NightCarts$Matching", "match", "(III)V"⟩, 6) := ⟨⟨by decide +kernel, by decide +kernel⟩, List.mem_of_getElem? (i := 341) (by decide +kernel), List.mem_of_getElem? (i := 1260) (by decide +kernel), List.mem_of_getElem? (i := 1261) (by decide +kernel)⟩
theorem lw_p56 : lw_okq (⟨"NightCarts$Matching", "matchWith", "(IIII)V"⟩, 6) := ⟨⟨by decide +kernel, by decide +kernel⟩, List.mem_of_getElem? (i := 341) (by decide +kernel), List.mem_of_getElem? (i := 1266) (by decide +kernel), List.mem_of_getElem? (i := 1267) (by decide +kernel)⟩
theorem lw_p57 : lw_okq (⟨"NightCarts", "latestStart", "(I)I"⟩, 12) := ⟨⟨by decide +kernel, by decide +kernel⟩, List.mem_of_getElem? (i := 23) (by decide +kernel), List.mem_of_getElem? (i := 1288) (by decide +kernel), List.mem_of_getElem? (i := 1289) (by decide +kernel)⟩
theorem lw_p58 : lw_okq (⟨"NightCarts", "countOfStreet", "(I)I"⟩, 12) := ⟨⟨by decide +kernel, by decide +kernel⟩, List.mem_of_getElem? (i := 23) (by decide +kernel), List.mem_of_getElem? (i := 1324) (by decide +kernel), List.mem_of_getElem? (i := 1325) (by decide +kernel)⟩
theorem lw_p59 : lw_okq (⟨"NightCarts", "toldCarts", "()I"⟩, 12) := ⟨⟨by decide +kernel, by decide +kernel⟩, List.mem_of_getElem? (i := 23) (by decide +kernel), List.mem_of_getElem? (i := 1339) (by decide +kernel), List.mem_of_getElem? (i := 1340) (by decide +kernel)⟩
theorem lw_p60 : lw_okq (⟨"NightCartsModel", "laysWays", "(II)V"⟩, 59) := ⟨⟨by decide +kernel, by decide +kernel⟩, List.mem_of_getElem? (i := 1348) (by decide +kernel), List.mem_of_getElem? (i := 1354) (by decide +kernel), List.mem_of_getElem? (i := 1355) (by decide +kernel)⟩
theorem lw_p61 : lw_okq (⟨"NightCartsModel", "isStreet", "(I)Z"⟩, 59) := ⟨⟨by decide +kernel, by decide +kernel⟩, List.mem_of_getElem? (i := 1348) (by decide +kernel), List.mem_of_getElem? (i := 1358) (by decide +kernel), List.mem_of_getElem? (i := 1359) (by decide +kernel)⟩
theorem lw_p62 : lw_okq (⟨"NightCartsModel", "types", "(I)V"⟩, 59) := ⟨⟨by decide +kernel, by decide +kernel⟩, List.mem_of_getElem? (i := 1348) (by decide +kernel), List.mem_of_getElem? (i := 1566) (by decide +kernel), List.mem_of_getElem? (i := 1567) (by decide +kernel)⟩
theorem lw_p63 : lw_okq (⟨"NightCartsModel", "readsClause", "()Z"⟩, 59) := ⟨⟨by decide +kernel, by decide +kernel⟩, List.mem_of_getElem? (i := 1348) (by decide +kernel), List.mem_of_getElem? (i := 1574) (by decide +kernel), List.mem_of_getElem? (i := 1575) (by decide +kernel)⟩
def lw_privs_4 : List (MethodName × Nat) := [(⟨"NightCarts", "sendOneCart", "(III)V"⟩, 12), (⟨"NightCarts$Shares", "wastedBy", "(IILNightCarts$Law;)I"⟩, 9), (⟨"NightCarts", "partJobs", "(III)I"⟩, 12), (⟨"NightCarts$Parting", "give", "(I)V"⟩, 7), (⟨"NightCarts$Parting", "keepRow", "()V"⟩, 7), (⟨"NightCarts$Parting", "giveTo", "(II)V"⟩, 7), (⟨"NightCarts", "matchBrides", "(II)I"⟩, 12), (⟨"NightCarts$Matching", "match", "(III)V"⟩, 6), (⟨"NightCarts$Matching", "matchWith", "(IIII)V"⟩, 6), (⟨"NightCarts", "latestStart", "(I)I"⟩, 12), (⟨"NightCarts", "countOfStreet", "(I)I"⟩, 12), (⟨"NightCarts", "toldCarts", "()I"⟩, 12), (⟨"NightCartsModel", "laysWays", "(II)V"⟩, 59), (⟨"NightCartsModel", "isStreet", "(I)Z"⟩, 59), (⟨"NightCartsModel", "types", "(I)V"⟩, 59), (⟨"NightCartsModel", "readsClause", "()Z"⟩, 59)]
theorem lw_r4 : ∀ q ∈ lw_privs_4, lw_okq q := List.forall_mem_cons.mpr ⟨lw_p48, List.forall_mem_cons.mpr ⟨lw_p49, List.forall_mem_cons.mpr ⟨lw_p50, List.forall_mem_cons.mpr ⟨lw_p51, List.forall_mem_cons.mpr ⟨lw_p52, List.forall_mem_cons.mpr ⟨lw_p53, List.forall_mem_cons.mpr ⟨lw_p54, List.forall_mem_cons.mpr ⟨lw_p55, List.forall_mem_cons.mpr ⟨lw_p56, List.forall_mem_cons.mpr ⟨lw_p57, List.forall_mem_cons.mpr ⟨lw_p58, List.forall_mem_cons.mpr ⟨lw_p59, List.forall_mem_cons.mpr ⟨lw_p60, List.forall_mem_cons.mpr ⟨lw_p61, List.forall_mem_cons.mpr ⟨lw_p62, List.forall_mem_cons.mpr ⟨lw_p63, fun _ h => absurd h List.not_mem_nil⟩⟩⟩⟩⟩⟩⟩⟩⟩⟩⟩⟩⟩⟩⟩⟩
theorem lw_p64 : lw_okq (⟨"NightCartsModel", "here", "()I"⟩, 59) := ⟨⟨by decide +kernel, by decide +kernel⟩, List.mem_of_getElem? (i := 1348) (by decide +kernel), List.mem_of_getElem? (i := 1578) (by decide +kernel), List.mem_of_getElem? (i := 1579) (by decide +kernel)⟩
theorem lw_p65 : lw_okq (⟨"NightCartsModel", "wrongAt", "(II)Z"⟩, 59) := ⟨⟨by decide +kernel, by decide +kernel⟩, List.mem_of_getElem? (i := 1348) (by decide +kernel), List.mem_of_getElem? (i := 1585) (by decide +kernel), List.mem_of_getElem? (i := 1586) (by decide +kernel)⟩
theorem lw_p66 : lw_okq (⟨"NightCartsModel", "readsSum", "()Z"⟩, 59) := ⟨⟨by decide +kernel, by decide +kernel⟩, List.mem_of_getElem? (i := 1348) (by decide +kernel), List.mem_of_getElem? (i := 1589) (by decide +kernel), List.mem_of_getElem? (i := 1590) (by decide +kernel)⟩
theorem lw_p67 : lw_okq (⟨"NightCartsModel", "readsFactor", "()Z"⟩, 59) := ⟨⟨by decide +kernel, by decide +kernel⟩, List.mem_of_getElem? (i := 1348) (by decide +kernel), List.mem_of_getElem? (i := 1593) (by decide +kernel), List.mem_of_getElem? (i := 1594) (by decide +kernel)⟩
theorem lw_p68 : lw_okq (⟨"NightCartsModel", "opens", "(I)Z"⟩, 59) := ⟨⟨by decide +kernel, by decide +kernel⟩, List.mem_of_getElem? (i := 1348) (by decide +kernel), List.mem_of_getElem? (i := 1597) (by decide +kernel), List.mem_of_getElem? (i := 1598) (by decide +kernel)⟩
theorem lw_p69 : lw_okq (⟨"NightCartsModel", "isDigit", "()Z"⟩, 59) := ⟨⟨by decide +kernel, by decide +kernel⟩, List.mem_of_getElem? (i := 1348) (by decide +kernel), List.mem_of_getElem? (i := 1602) (by decide +kernel), List.mem_of_getElem? (i := 1603) (by decide +kernel)⟩
theorem lw_p70 : lw_okq (⟨"NightCartsModel", "readsNumber", "()Z"⟩, 59) := ⟨⟨by decide +kernel, by decide +kernel⟩, List.mem_of_getElem? (i := 1348) (by decide +kernel), List.mem_of_getElem? (i := 1606) (by decide +kernel), List.mem_of_getElem? (i := 1607) (by decide +kernel)⟩
theorem lw_p71 : lw_okq (⟨"NightCartsModel", "notes", "(II)V"⟩, 59) := ⟨⟨by decide +kernel, by decide +kernel⟩, List.mem_of_getElem? (i := 1348) (by decide +kernel), List.mem_of_getElem? (i := 1610) (by decide +kernel), List.mem_of_getElem? (i := 1611) (by decide +kernel)⟩
theorem lw_p72 : lw_okq (⟨"NightCartsModel", "closesSums", "(Z)V"⟩, 59) := ⟨⟨by decide +kernel, by decide +kernel⟩, List.mem_of_getElem? (i := 1348) (by decide +kernel), List.mem_of_getElem? (i := 1620) (by decide +kernel), List.mem_of_getElem? (i := 1621) (by decide +kernel)⟩
theorem lw_p73 : lw_okq (⟨"NightCartsModel", "waitTop", "()I"⟩, 59) := ⟨⟨by decide +kernel, by decide +kernel⟩, List.mem_of_getElem? (i := 1348) (by decide +kernel), List.mem_of_getElem? (i := 1624) (by decide +kernel), List.mem_of_getElem? (i := 1625) (by decide +kernel)⟩
theorem lw_p74 : lw_okq (⟨"NightCartsModel", "hasOpenSum", "(I)Z"⟩, 59) := ⟨⟨by decide +kernel, by decide +kernel⟩, List.mem_of_getElem? (i := 1348) (by decide +kernel), List.mem_of_getElem? (i := 1628) (by decide +kernel), List.mem_of_getElem? (i := 1629) (by decide +kernel)⟩
theorem lw_p75 : lw_okq (⟨"NightCartsModel", "readsCondition", "()Z"⟩, 59) := ⟨⟨by decide +kernel, by decide +kernel⟩, List.mem_of_getElem? (i := 1348) (by decide +kernel), List.mem_of_getElem? (i := 1632) (by decide +kernel), List.mem_of_getElem? (i := 1633) (by decide +kernel)⟩
theorem lw_p76 : lw_okq (⟨"NightCartsModel", "readsCompared", "()Z"⟩, 59) := ⟨⟨by decide +kernel, by decide +kernel⟩, List.mem_of_getElem? (i := 1348) (by decide +kernel), List.mem_of_getElem? (i := 1636) (by decide +kernel), List.mem_of_getElem? (i := 1637) (by decide +kernel)⟩
theorem lw_p77 : lw_okq (⟨"NightCartsModel", "endsPiece", "()V"⟩, 59) := ⟨⟨by decide +kernel, by decide +kernel⟩, List.mem_of_getElem? (i := 1348) (by decide +kernel), List.mem_of_getElem? (i := 1640) (by decide +kernel), List.mem_of_getElem? (i := 1641) (by decide +kernel)⟩
theorem lw_p78 : lw_okq (⟨"NightCartsModel", "lands", "(Z)V"⟩, 59) := ⟨⟨by decide +kernel, by decide +kernel⟩, List.mem_of_getElem? (i := 1348) (by decide +kernel), List.mem_of_getElem? (i := 1644) (by decide +kernel), List.mem_of_getElem? (i := 1645) (by decide +kernel)⟩
theorem lw_p79 : lw_okq (⟨"NightCartsModel", "jumps", "(I)V"⟩, 59) := ⟨⟨by decide +kernel, by decide +kernel⟩, List.mem_of_getElem? (i := 1348) (by decide +kernel), List.mem_of_getElem? (i := 1648) (by decide +kernel), List.mem_of_getElem? (i := 1649) (by decide +kernel)⟩
def lw_privs_5 : List (MethodName × Nat) := [(⟨"NightCartsModel", "here", "()I"⟩, 59), (⟨"NightCartsModel", "wrongAt", "(II)Z"⟩, 59), (⟨"NightCartsModel", "readsSum", "()Z"⟩, 59), (⟨"NightCartsModel", "readsFactor", "()Z"⟩, 59), (⟨"NightCartsModel", "opens", "(I)Z"⟩, 59), (⟨"NightCartsModel", "isDigit", "()Z"⟩, 59), (⟨"NightCartsModel", "readsNumber", "()Z"⟩, 59), (⟨"NightCartsModel", "notes", "(II)V"⟩, 59), (⟨"NightCartsModel", "closesSums", "(Z)V"⟩, 59), (⟨"NightCartsModel", "waitTop", "()I"⟩, 59), (⟨"NightCartsModel", "hasOpenSum", "(I)Z"⟩, 59), (⟨"NightCartsModel", "readsCondition", "()Z"⟩, 59), (⟨"NightCartsModel", "readsCompared", "()Z"⟩, 59), (⟨"NightCartsModel", "endsPiece", "()V"⟩, 59), (⟨"NightCartsModel", "lands", "(Z)V"⟩, 59), (⟨"NightCartsModel", "jumps", "(I)V"⟩, 59)]
theorem lw_r5 : ∀ q ∈ lw_privs_5, lw_okq q := List.forall_mem_cons.mpr ⟨lw_p64, List.forall_mem_cons.mpr ⟨lw_p65, List.forall_mem_cons.mpr ⟨lw_p66, List.forall_mem_cons.mpr ⟨lw_p67, List.forall_mem_cons.mpr ⟨lw_p68, List.forall_mem_cons.mpr ⟨lw_p69, List.forall_mem_cons.mpr ⟨lw_p70, List.forall_mem_cons.mpr ⟨lw_p71, List.forall_mem_cons.mpr ⟨lw_p72, List.forall_mem_cons.mpr ⟨lw_p73, List.forall_mem_cons.mpr ⟨lw_p74, List.forall_mem_cons.mpr ⟨lw_p75, List.forall_mem_cons.mpr ⟨lw_p76, List.forall_mem_cons.mpr ⟨lw_p77, List.forall_mem_cons.mpr ⟨lw_p78, List.forall_mem_cons.mpr ⟨lw_p79, fun _ h => absurd h List.not_mem_nil⟩⟩⟩⟩⟩⟩⟩⟩⟩⟩⟩⟩⟩⟩⟩⟩
theorem lw_p80 : lw_okq (⟨"NightCartsModel", "takes", "(I)Z"⟩, 59) := ⟨⟨by decide +kernel, by decide +kernel⟩, List.mem_of_getElem? (i := 1348) (by decide +kernel), List.mem_of_getElem? (i := 1652) (by decide +kernel), List.mem_of_getElem? (i := 1653) (by decide +kernel)⟩
theorem lw_p81 : lw_okq (⟨"NightCartsModel", "readsLine", "()Z"⟩, 59) := ⟨⟨by decide +kernel, by decide +kernel⟩, List.mem_of_getElem? (i := 1348) (by decide +kernel), List.mem_of_getElem? (i := 1660) (by decide +kernel), List.mem_of_getElem? (i := 1661) (by decide +kernel)⟩
theorem lw_p82 : lw_okq (⟨"NightCartsModel", "isLetterHere", "()Z"⟩, 59) := ⟨⟨by decide +kernel, by decide +kernel⟩, List.mem_of_getElem? (i := 1348) (by decide +kernel), List.mem_of_getElem? (i := 1664) (by decide +kernel), List.mem_of_getElem? (i := 1665) (by decide +kernel)⟩
theorem lw_p83 : lw_okq (⟨"NightCartsModel", "readsTwo", "()Z"⟩, 59) := ⟨⟨by decide +kernel, by decide +kernel⟩, List.mem_of_getElem? (i := 1348) (by decide +kernel), List.mem_of_getElem? (i := 1668) (by decide +kernel), List.mem_of_getElem? (i := 1669) (by decide +kernel)⟩
theorem lw_p84 : lw_okq (⟨"NightCartsModel", "readsStop", "()Z"⟩, 59) := ⟨⟨by decide +kernel, by decide +kernel⟩, List.mem_of_getElem? (i := 1348) (by decide +kernel), List.mem_of_getElem? (i := 1676) (by decide +kernel), List.mem_of_getElem? (i := 1677) (by decide +kernel)⟩
theorem lw_p85 : lw_okq (⟨"NightCartsModel", "goesNight", "()V"⟩, 59) := ⟨⟨by decide +kernel, by decide +kernel⟩, List.mem_of_getElem? (i := 1348) (by decide +kernel), List.mem_of_getElem? (i := 1684) (by decide +kernel), List.mem_of_getElem? (i := 1685) (by decide +kernel)⟩
theorem lw_p86 : lw_okq (⟨"NightCartsModel", "isCart", "(I)Z"⟩, 59) := ⟨⟨by decide +kernel, by decide +kernel⟩, List.mem_of_getElem? (i := 1348) (by decide +kernel), List.mem_of_getElem? (i := 1688) (by decide +kernel), List.mem_of_getElem? (i := 1689) (by decide +kernel)⟩
theorem lw_p87 : lw_okq (⟨"NightCartsModel", "goesOn", "(II)V"⟩, 59) := ⟨⟨by decide +kernel, by decide +kernel⟩, List.mem_of_getElem? (i := 1348) (by decide +kernel), List.mem_of_getElem? (i := 1692) (by decide +kernel), List.mem_of_getElem? (i := 1693) (by decide +kernel)⟩
theorem lw_p88 : lw_okq (⟨"NightCartsModel", "canCome", "(II)Z"⟩, 59) := ⟨⟨by decide +kernel, by decide +kernel⟩, List.mem_of_getElem? (i := 1348) (by decide +kernel), List.mem_of_getElem? (i := 1696) (by decide +kernel), List.mem_of_getElem? (i := 1697) (by decide +kernel)⟩
theorem lw_p89 : lw_okq (⟨"NightCartsModel", "farOf", "(II)I"⟩, 59) := ⟨⟨by decide +kernel, by decide +kernel⟩, List.mem_of_getElem? (i := 1348) (by decide +kernel), List.mem_of_getElem? (i := 1703) (by decide +kernel), List.mem_of_getElem? (i := 1704) (by decide +kernel)⟩
theorem lw_p90 : lw_okq (⟨"NightCartsModel", "arrives", "(II)V"⟩, 59) := ⟨⟨by decide +kernel, by decide +kernel⟩, List.mem_of_getElem? (i := 1348) (by decide +kernel), List.mem_of_getElem? (i := 1707) (by decide +kernel), List.mem_of_getElem? (i := 1708) (by decide +kernel)⟩
theorem lw_p91 : lw_okq (⟨"NightCartsModel", "feels", "(III)V"⟩, 59) := ⟨⟨by decide +kernel, by decide +kernel⟩, List.mem_of_getElem? (i := 1348) (by decide +kernel), List.mem_of_getElem? (i := 1711) (by decide +kernel), List.mem_of_getElem? (i := 1712) (by decide +kernel)⟩
theorem lw_p92 : lw_okq (⟨"NightCartsModel", "byLaw", "(II)I"⟩, 59) := ⟨⟨by decide +kernel, by decide +kernel⟩, List.mem_of_getElem? (i := 1348) (by decide +kernel), List.mem_of_getElem? (i := 1715) (by decide +kernel), List.mem_of_getElem? (i := 1716) (by decide +kernel)⟩
theorem lw_p93 : lw_okq (⟨"NightCartsModel", "comesTo", "(II)I"⟩, 59) := ⟨⟨by decide +kernel, by decide +kernel⟩, List.mem_of_getElem? (i := 1348) (by decide +kernel), List.mem_of_getElem? (i := 1719) (by decide +kernel), List.mem_of_getElem? (i := 1720) (by decide +kernel)⟩
theorem lw_p94 : lw_okq (⟨"NightCartsModel", "hourEnds", "(I)V"⟩, 59) := ⟨⟨by decide +kernel, by decide +kernel⟩, List.mem_of_getElem? (i := 1348) (by decide +kernel), List.mem_of_getElem? (i := 1726) (by decide +kernel), List.mem_of_getElem? (i := 1727) (by decide +kernel)⟩
theorem lw_p95 : lw_okq (⟨"NightCartsModel", "byStreet", "(III)I"⟩, 59) := ⟨⟨by decide +kernel, by decide +kernel⟩, List.mem_of_getElem? (i := 1348) (by decide +kernel), List.mem_of_getElem? (i := 1730) (by decide +kernel), List.mem_of_getElem? (i := 1731) (by decide +kernel)⟩
def lw_privs_6 : List (MethodName × Nat) := [(⟨"NightCartsModel", "takes", "(I)Z"⟩, 59), (⟨"NightCartsModel", "readsLine", "()Z"⟩, 59), (⟨"NightCartsModel", "isLetterHere", "()Z"⟩, 59), (⟨"NightCartsModel", "readsTwo", "()Z"⟩, 59), (⟨"NightCartsModel", "readsStop", "()Z"⟩, 59), (⟨"NightCartsModel", "goesNight", "()V"⟩, 59), (⟨"NightCartsModel", "isCart", "(I)Z"⟩, 59), (⟨"NightCartsModel", "goesOn", "(II)V"⟩, 59), (⟨"NightCartsModel", "canCome", "(II)Z"⟩, 59), (⟨"NightCartsModel", "farOf", "(II)I"⟩, 59), (⟨"NightCartsModel", "arrives", "(II)V"⟩, 59), (⟨"NightCartsModel", "feels", "(III)V"⟩, 59), (⟨"NightCartsModel", "byLaw", "(II)I"⟩, 59), (⟨"NightCartsModel", "comesTo", "(II)I"⟩, 59), (⟨"NightCartsModel", "hourEnds", "(I)V"⟩, 59), (⟨"NightCartsModel", "byStreet", "(III)I"⟩, 59)]
theorem lw_r6 : ∀ q ∈ lw_privs_6, lw_okq q := List.forall_mem_cons.mpr ⟨lw_p80, List.forall_mem_cons.mpr ⟨lw_p81, List.forall_mem_cons.mpr ⟨lw_p82, List.forall_mem_cons.mpr ⟨lw_p83, List.forall_mem_cons.mpr ⟨lw_p84, List.forall_mem_cons.mpr ⟨lw_p85, List.forall_mem_cons.mpr ⟨lw_p86, List.forall_mem_cons.mpr ⟨lw_p87, List.forall_mem_cons.mpr ⟨lw_p88, List.forall_mem_cons.mpr ⟨lw_p89, List.forall_mem_cons.mpr ⟨lw_p90, List.forall_mem_cons.mpr ⟨lw_p91, List.forall_mem_cons.mpr ⟨lw_p92, List.forall_mem_cons.mpr ⟨lw_p93, List.forall_mem_cons.mpr ⟨lw_p94, List.forall_mem_cons.mpr ⟨lw_p95, fun _ h => absurd h List.not_mem_nil⟩⟩⟩⟩⟩⟩⟩⟩⟩⟩⟩⟩⟩⟩⟩⟩
theorem lw_p96 : lw_okq (⟨"NightCartsModel", "yardsAll", "()I"⟩, 59) := ⟨⟨by decide +kernel, by decide +kernel⟩, List.mem_of_getElem? (i := 1348) (by decide +kernel), List.mem_of_getElem? (i := 1734) (by decide +kernel), List.mem_of_getElem? (i := 1735) (by decide +kernel)⟩
theorem lw_p97 : lw_okq (⟨"NightCartsModel", "lastOf", "(I)I"⟩, 59) := ⟨⟨by decide +kernel, by decide +kernel⟩, List.mem_of_getElem? (i := 1348) (by decide +kernel), List.mem_of_getElem? (i := 1745) (by decide +kernel), List.mem_of_getElem? (i := 1746) (by decide +kernel)⟩
theorem lw_p98 : lw_okq (⟨"NightCartsModel", "sleptBy", "()I"⟩, 59) := ⟨⟨by decide +kernel, by decide +kernel⟩, List.mem_of_getElem? (i := 1348) (by decide +kernel), List.mem_of_getElem? (i := 1753) (by decide +kernel), List.mem_of_getElem? (i := 1754) (by decide +kernel)⟩
theorem lw_p99 : lw_okq (⟨"NightCartsModel", "sleepsAll", "(I)Z"⟩, 59) := ⟨⟨by decide +kernel, by decide +kernel⟩, List.mem_of_getElem? (i := 1348) (by decide +kernel), List.mem_of_getElem? (i := 1761) (by decide +kernel), List.mem_of_getElem? (i := 1762) (by decide +kernel)⟩
theorem lw_p100 : lw_okq (⟨"NightCartsModel", "laysWho", "(I)I"⟩, 59) := ⟨⟨by decide +kernel, by decide +kernel⟩, List.mem_of_getElem? (i := 1348) (by decide +kernel), List.mem_of_getElem? (i := 1780) (by decide +kernel), List.mem_of_getElem? (i := 1781) (by decide +kernel)⟩
theorem lw_p101 : lw_okq (⟨"NightCartsModel", "readsRow", "(II)Z"⟩, 59) := ⟨⟨by decide +kernel, by decide +kernel⟩, List.mem_of_getElem? (i := 1348) (by decide +kernel), List.mem_of_getElem? (i := 1787) (by decide +kernel), List.mem_of_getElem? (i := 1788) (by decide +kernel)⟩
theorem lw_p102 : lw_okq (⟨"NightCartsModel", "roundBy", "(II)I"⟩, 59) := ⟨⟨by decide +kernel, by decide +kernel⟩, List.mem_of_getElem? (i := 1348) (by decide +kernel), List.mem_of_getElem? (i := 1791) (by decide +kernel), List.mem_of_getElem? (i := 1792) (by decide +kernel)⟩
theorem lw_p103 : lw_okq (⟨"NightCartsModel", "needFor", "(II)I"⟩, 59) := ⟨⟨by decide +kernel, by decide +kernel⟩, List.mem_of_getElem? (i := 1348) (by decide +kernel), List.mem_of_getElem? (i := 1799) (by decide +kernel), List.mem_of_getElem? (i := 1800) (by decide +kernel)⟩
theorem lw_p104 : lw_okq (⟨"NightCartsModel", "laysReach", "()V"⟩, 59) := ⟨⟨by decide +kernel, by decide +kernel⟩, List.mem_of_getElem? (i := 1348) (by decide +kernel), List.mem_of_getElem? (i := 1814) (by decide +kernel), List.mem_of_getElem? (i := 1815) (by decide +kernel)⟩
theorem lw_p105 : lw_okq (⟨"NightCartsModel", "bestBy", "([I)I"⟩, 59) := ⟨⟨by decide +kernel, by decide +kernel⟩, List.mem_of_getElem? (i := 1348) (by decide +kernel), List.mem_of_getElem? (i := 1818) (by decide +kernel), List.mem_of_getElem? (i := 1819) (by decide +kernel)⟩
theorem lw_p106 : lw_okq (⟨"NightCartsModel", "spared", "(I)I"⟩, 59) := ⟨⟨by decide +kernel, by decide +kernel⟩, List.mem_of_getElem? (i := 1348) (by decide +kernel), List.mem_of_getElem? (i := 1830) (by decide +kernel), List.mem_of_getElem? (i := 1831) (by decide +kernel)⟩
theorem lw_p107 : lw_okq (⟨"NightCartsModel", "longestBy", "(III)I"⟩, 59) := ⟨⟨by decide +kernel, by decide +kernel⟩, List.mem_of_getElem? (i := 1348) (by decide +kernel), List.mem_of_getElem? (i := 1838) (by decide +kernel), List.mem_of_getElem? (i := 1839) (by decide +kernel)⟩
theorem lw_p108 : lw_okq (⟨"NightCartsModel", "missingBy", "(I)I"⟩, 59) := ⟨⟨by decide +kernel, by decide +kernel⟩, List.mem_of_getElem? (i := 1348) (by decide +kernel), List.mem_of_getElem? (i := 1850) (by decide +kernel), List.mem_of_getElem? (i := 1851) (by decide +kernel)⟩
theorem lw_p109 : lw_okq (⟨"NightCartsModel", "roadMany", "()I"⟩, 59) := ⟨⟨by decide +kernel, by decide +kernel⟩, List.mem_of_getElem? (i := 1348) (by decide +kernel), List.mem_of_getElem? (i := 1878) (by decide +kernel), List.mem_of_getElem? (i := 1879) (by decide +kernel)⟩
theorem lw_p110 : lw_okq (⟨"NightCartsModel", "streetIs", "(II)I"⟩, 59) := ⟨⟨by decide +kernel, by decide +kernel⟩, List.mem_of_getElem? (i := 1348) (by decide +kernel), List.mem_of_getElem? (i := 1882) (by decide +kernel), List.mem_of_getElem? (i := 1883) (by decide +kernel)⟩
def lw_privs_7 : List (MethodName × Nat) := [(⟨"NightCartsModel", "yardsAll", "()I"⟩, 59), (⟨"NightCartsModel", "lastOf", "(I)I"⟩, 59), (⟨"NightCartsModel", "sleptBy", "()I"⟩, 59), (⟨"NightCartsModel", "sleepsAll", "(I)Z"⟩, 59), (⟨"NightCartsModel", "laysWho", "(I)I"⟩, 59), (⟨"NightCartsModel", "readsRow", "(II)Z"⟩, 59), (⟨"NightCartsModel", "roundBy", "(II)I"⟩, 59), (⟨"NightCartsModel", "needFor", "(II)I"⟩, 59), (⟨"NightCartsModel", "laysReach", "()V"⟩, 59), (⟨"NightCartsModel", "bestBy", "([I)I"⟩, 59), (⟨"NightCartsModel", "spared", "(I)I"⟩, 59), (⟨"NightCartsModel", "longestBy", "(III)I"⟩, 59), (⟨"NightCartsModel", "missingBy", "(I)I"⟩, 59), (⟨"NightCartsModel", "roadMany", "()I"⟩, 59), (⟨"NightCartsModel", "streetIs", "(II)I"⟩, 59)]
theorem lw_r7 : ∀ q ∈ lw_privs_7, lw_okq q := List.forall_mem_cons.mpr ⟨lw_p96, List.forall_mem_cons.mpr ⟨lw_p97, List.forall_mem_cons.mpr ⟨lw_p98, List.forall_mem_cons.mpr ⟨lw_p99, List.forall_mem_cons.mpr ⟨lw_p100, List.forall_mem_cons.mpr ⟨lw_p101, List.forall_mem_cons.mpr ⟨lw_p102, List.forall_mem_cons.mpr ⟨lw_p103, List.forall_mem_cons.mpr ⟨lw_p104, List.forall_mem_cons.mpr ⟨lw_p105, List.forall_mem_cons.mpr ⟨lw_p106, List.forall_mem_cons.mpr ⟨lw_p107, List.forall_mem_cons.mpr ⟨lw_p108, List.forall_mem_cons.mpr ⟨lw_p109, List.forall_mem_cons.mpr ⟨lw_p110, fun _ h => absurd h List.not_mem_nil⟩⟩⟩⟩⟩⟩⟩⟩⟩⟩⟩⟩⟩⟩⟩
def lw_privs : List (MethodName × Nat) := lw_privs_1 ++ (lw_privs_2 ++ (lw_privs_3 ++ (lw_privs_4 ++ (lw_privs_5 ++ (lw_privs_6 ++ (lw_privs_7))))))
def lw_tbl : List Cond := k2_sels lw_privs ++ tables_1
theorem lw_privs_ok : ∀ q ∈ lw_privs, lw_okq q := by
  show ∀ q ∈ lw_privs_1 ++ (lw_privs_2 ++ (lw_privs_3 ++ (lw_privs_4 ++ (lw_privs_5 ++ (lw_privs_6 ++ (lw_privs_7)))))), lw_okq q
  exact List.forall_mem_append.mpr ⟨lw_r1, List.forall_mem_append.mpr ⟨lw_r2, List.forall_mem_append.mpr ⟨lw_r3, List.forall_mem_append.mpr ⟨lw_r4, List.forall_mem_append.mpr ⟨lw_r5, List.forall_mem_append.mpr ⟨lw_r6, lw_r7⟩⟩⟩⟩⟩⟩
def RX0 : String := "NightCarts$Cart"
def TX0 : u_T := fun k => match k with
  | 0 => ("NightCarts$Cart", "streets", "[I", true)
  | 1 => ("NightCarts$Cart", "yards", "[I", true)
  | 2 => ("NightCarts$Cart", "takes", "[Z", true)
  | 3 => ("NightCarts$Cart", "stops", "I", false)
  | _ => ("NightCarts$Cart", "room", "I", false)
def tyX0 : Nat → FieldType := fun k => match k with
  | 0 => .array .int
  | 1 => .array .int
  | 2 => .array .boolean
  | 3 => .int
  | _ => .int
abbrev wsX00 : List Cond := u_ws RX0 TX0 5
theorem nmX0 : ∀ a, a < 5 → ∀ b, b < 5 → a ≠ b → (TX0 a).2.1 ≠ (TX0 b).2.1 := by decide +kernel
theorem tyX0_ok : ∀ k, k < 5 → parseFieldDescriptor (TX0 k).2.2.1 = some (tyX0 k) := by decide +kernel
abbrev cX0_init : ByteArray := prog_2_method_1_code
def yX0_init : MethodName := ⟨RX0, "<init>", "()V"⟩
abbrev cX0_isTold : ByteArray := prog_2_method_2_code
def yX0_isTold : MethodName := ⟨RX0, "isTold", "()Z"⟩
abbrev cX0_room : ByteArray := prog_2_method_3_code
def yX0_room : MethodName := ⟨RX0, "room", "()I"⟩
abbrev cX0_tellRoom : ByteArray := prog_2_method_4_code
def yX0_tellRoom : MethodName := ⟨RX0, "tellRoom", "(I)V"⟩
abbrev cX0_stops : ByteArray := prog_2_method_5_code
def yX0_stops : MethodName := ⟨RX0, "stops", "()I"⟩
abbrev cX0_streetOf : ByteArray := prog_2_method_6_code
def yX0_streetOf : MethodName := ⟨RX0, "streetOf", "(I)I"⟩
abbrev cX0_yardsOf : ByteArray := prog_2_method_7_code
def yX0_yardsOf : MethodName := ⟨RX0, "yardsOf", "(I)I"⟩
abbrev cX0_takesOnAt : ByteArray := prog_2_method_8_code
def yX0_takesOnAt : MethodName := ⟨RX0, "takesOnAt", "(I)Z"⟩
abbrev cX0_readStops : ByteArray := prog_2_method_9_code
def yX0_readStops : MethodName := ⟨RX0, "readStops", "(LNightCarts$Tape;)I"⟩
abbrev cX0_readStop : ByteArray := prog_2_method_10_code
def yX0_readStop : MethodName := ⟨RX0, "readStop", "(LNightCarts$Tape;)V"⟩
abbrev cX0_addStop : ByteArray := prog_2_method_11_code
def yX0_addStop : MethodName := ⟨RX0, "addStop", "(ZII)V"⟩
abbrev cX0_planOneStop : ByteArray := prog_2_method_12_code
def yX0_planOneStop : MethodName := ⟨RX0, "planOneStop", "(II)V"⟩
abbrev cX0_takeStopsOf : ByteArray := prog_2_method_13_code
def yX0_takeStopsOf : MethodName := ⟨RX0, "takeStopsOf", "(LNightCarts$Cart;)V"⟩
def RX1 : String := "NightCarts$City"
def TX1 : u_T := fun k => match k with
  | 0 => ("NightCarts$City", "houses", "[I", true)
  | 1 => ("NightCarts$City", "lamps", "[I", true)
  | 2 => ("NightCarts$City", "stars", "[I", true)
  | 3 => ("NightCarts$City", "depths", "[I", true)
  | 4 => ("NightCarts$City", "told", "I", false)
  | 5 => ("NightCarts$City", "night", "I", false)
  | 6 => ("NightCarts$City", "slept", "I", false)
  | 7 => ("NightCarts$City", "swept", "I", false)
  | 8 => ("NightCarts$City", "keptDepths", "[I", true)
  | 9 => ("NightCarts$City", "isKept", "Z", false)
  | 10 => ("NightCarts$City", "keptNight", "I", false)
  | 11 => ("NightCarts$City", "keptSlept", "I", false)
  | _ => ("NightCarts$City", "keptSwept", "I", false)
def tyX1 : Nat → FieldType := fun k => match k with
  | 0 => .array .int
  | 1 => .array .int
  | 2 => .array .int
  | 3 => .array .int
  | 4 => .int
  | 5 => .int
  | 6 => .int
  | 7 => .int
  | 8 => .array .int
  | 9 => .boolean
  | 10 => .int
  | 11 => .int
  | _ => .int
abbrev wsX10 : List Cond := u_ws RX1 TX1 13
theorem nmX1 : ∀ a, a < 13 → ∀ b, b < 13 → a ≠ b → (TX1 a).2.1 ≠ (TX1 b).2.1 := by decide +kernel
theorem tyX1_ok : ∀ k, k < 13 → parseFieldDescriptor (TX1 k).2.2.1 = some (tyX1 k) := by decide +kernel
abbrev cX1_init : ByteArray := prog_3_method_1_code
def yX1_init : MethodName := ⟨RX1, "<init>", "()V"⟩
abbrev cX1_isTold : ByteArray := prog_3_method_2_code
def yX1_isTold : MethodName := ⟨RX1, "isTold", "(I)Z"⟩
abbrev cX1_areTold : ByteArray := prog_3_method_3_code
def yX1_areTold : MethodName := ⟨RX1, "areTold", "(II)Z"⟩
abbrev cX1_toldStreets : ByteArray := prog_3_method_4_code
def yX1_toldStreets : MethodName := ⟨RX1, "toldStreets", "()I"⟩
abbrev cX1_tell : ByteArray := prog_3_method_5_code
def yX1_tell : MethodName := ⟨RX1, "tell", "(IIII)V"⟩
abbrev cX1_housesOf : ByteArray := prog_3_method_6_code
def yX1_housesOf : MethodName := ⟨RX1, "housesOf", "(I)I"⟩
abbrev cX1_lampsOf : ByteArray := prog_3_method_7_code
def yX1_lampsOf : MethodName := ⟨RX1, "lampsOf", "(I)I"⟩
abbrev cX1_starsOf : ByteArray := prog_3_method_8_code
def yX1_starsOf : MethodName := ⟨RX1, "starsOf", "(I)I"⟩
abbrev cX1_depthOf : ByteArray := prog_3_method_9_code
def yX1_depthOf : MethodName := ⟨RX1, "depthOf", "(I)I"⟩
abbrev cX1_deepen : ByteArray := prog_3_method_10_code
def yX1_deepen : MethodName := ⟨RX1, "deepen", "(II)I"⟩
abbrev cX1_copyDepths : ByteArray := prog_3_method_11_code
def yX1_copyDepths : MethodName := ⟨RX1, "copyDepths", "([I)V"⟩
abbrev cX1_night : ByteArray := prog_3_method_12_code
def yX1_night : MethodName := ⟨RX1, "night", "()I"⟩
abbrev cX1_slept : ByteArray := prog_3_method_13_code
def yX1_slept : MethodName := ⟨RX1, "slept", "()I"⟩
abbrev cX1_swept : ByteArray := prog_3_method_14_code
def yX1_swept : MethodName := ⟨RX1, "swept", "()I"⟩
abbrev cX1_endNight : ByteArray := prog_3_method_15_code
def yX1_endNight : MethodName := ⟨RX1, "endNight", "(II)V"⟩
abbrev cX1_store : ByteArray := prog_3_method_16_code
def yX1_store : MethodName := ⟨RX1, "store", "()I"⟩
abbrev cX1_restore : ByteArray := prog_3_method_17_code
def yX1_restore : MethodName := ⟨RX1, "restore", "()Z"⟩
def RX2 : String := "NightCarts$Law"
def TX2 : u_T := fun k => match k with
  | 0 => ("NightCarts$Law", "letters", "[I", true)
  | 1 => ("NightCarts$Law", "starts", "[I", true)
  | 2 => ("NightCarts$Law", "middles", "[I", true)
  | 3 => ("NightCarts$Law", "ends", "[I", true)
  | 4 => ("NightCarts$Law", "clauses", "I", false)
  | 5 => ("NightCarts$Law", "signs", "[I", true)
  | 6 => ("NightCarts$Law", "worths", "[I", true)
  | 7 => ("NightCarts$Law", "length", "I", false)
  | 8 => ("NightCarts$Law", "facts", "[I", true)
  | 9 => ("NightCarts$Law", "stack", "[I", true)
  | 10 => ("NightCarts$Law", "top", "I", false)
  | _ => ("NightCarts$Law", "isRefused", "Z", false)
def tyX2 : Nat → FieldType := fun k => match k with
  | 0 => .array .int
  | 1 => .array .int
  | 2 => .array .int
  | 3 => .array .int
  | 4 => .int
  | 5 => .array .int
  | 6 => .array .int
  | 7 => .int
  | 8 => .array .int
  | 9 => .array .int
  | 10 => .int
  | _ => .boolean
abbrev wsX20 : List Cond := u_ws RX2 TX2 12
theorem nmX2 : ∀ a, a < 12 → ∀ b, b < 12 → a ≠ b → (TX2 a).2.1 ≠ (TX2 b).2.1 := by decide +kernel
theorem tyX2_ok : ∀ k, k < 12 → parseFieldDescriptor (TX2 k).2.2.1 = some (tyX2 k) := by decide +kernel
abbrev cX2_init : ByteArray := prog_4_method_1_code
def yX2_init : MethodName := ⟨RX2, "<init>", "()V"⟩
abbrev cX2_clauses : ByteArray := prog_4_method_2_code
def yX2_clauses : MethodName := ⟨RX2, "clauses", "()I"⟩
abbrev cX2_length : ByteArray := prog_4_method_3_code
def yX2_length : MethodName := ⟨RX2, "length", "()I"⟩
abbrev cX2_clear : ByteArray := prog_4_method_4_code
def yX2_clear : MethodName := ⟨RX2, "clear", "()V"⟩
abbrev cX2_addClause : ByteArray := prog_4_method_5_code
def yX2_addClause : MethodName := ⟨RX2, "addClause", "(III)V"⟩
abbrev cX2_addSign : ByteArray := prog_4_method_6_code
def yX2_addSign : MethodName := ⟨RX2, "addSign", "(II)V"⟩
abbrev cX2_leadToEnd : ByteArray := prog_4_method_7_code
def yX2_leadToEnd : MethodName := ⟨RX2, "leadToEnd", "(I)V"⟩
abbrev cX2_takeOver : ByteArray := prog_4_method_8_code
def yX2_takeOver : MethodName := ⟨RX2, "takeOver", "(LNightCarts$Law;)V"⟩
abbrev cX2_regardStreet : ByteArray := prog_4_method_9_code
def yX2_regardStreet : MethodName := ⟨RX2, "regardStreet", "(LNightCarts$City;III)V"⟩
abbrev cX2_regardTime : ByteArray := prog_4_method_10_code
def yX2_regardTime : MethodName := ⟨RX2, "regardTime", "(III)V"⟩
abbrev cX2_ask : ByteArray := prog_4_method_11_code
def yX2_ask : MethodName := ⟨RX2, "ask", "(I)I"⟩
abbrev cX2_reckon : ByteArray := prog_4_method_12_code
def yX2_reckon : MethodName := ⟨RX2, "reckon", "(II)I"⟩
abbrev cX2_join : ByteArray := prog_4_method_13_code
def yX2_join : MethodName := ⟨RX2, "join", "(III)I"⟩
abbrev cX2_factAt : ByteArray := prog_4_method_14_code
def yX2_factAt : MethodName := ⟨RX2, "factAt", "(I)I"⟩
abbrev cX2_push : ByteArray := prog_4_method_15_code
def yX2_push : MethodName := ⟨RX2, "push", "(I)V"⟩
abbrev cX2_pop : ByteArray := prog_4_method_16_code
def yX2_pop : MethodName := ⟨RX2, "pop", "()I"⟩
def RX3 : String := "NightCarts$LawReader"
def TX3 : u_T := fun k => match k with
  | _ => ("NightCarts$LawReader", "fresh", "LNightCarts$Law;", true)
def tyX3 : Nat → FieldType := fun k => match k with
  | _ => .object "NightCarts$Law"
abbrev wsX30 : List Cond := u_ws RX3 TX3 1
theorem nmX3 : ∀ a, a < 1 → ∀ b, b < 1 → a ≠ b → (TX3 a).2.1 ≠ (TX3 b).2.1 := by decide +kernel
theorem tyX3_ok : ∀ k, k < 1 → parseFieldDescriptor (TX3 k).2.2.1 = some (tyX3 k) := by decide +kernel
abbrev cX3_init : ByteArray := prog_5_method_1_code
def yX3_init : MethodName := ⟨RX3, "<init>", "()V"⟩
abbrev cX3_fresh : ByteArray := prog_5_method_2_code
def yX3_fresh : MethodName := ⟨RX3, "fresh", "()LNightCarts$Law;"⟩
abbrev cX3_read : ByteArray := prog_5_method_3_code
def yX3_read : MethodName := ⟨RX3, "read", "(LNightCarts$Tape;)I"⟩
abbrev cX3_readClause : ByteArray := prog_5_method_4_code
def yX3_readClause : MethodName := ⟨RX3, "readClause", "(LNightCarts$Tape;)V"⟩
abbrev cX3_readSum : ByteArray := prog_5_method_5_code
def yX3_readSum : MethodName := ⟨RX3, "readSum", "(LNightCarts$Tape;I)V"⟩
abbrev cX3_readProduct : ByteArray := prog_5_method_6_code
def yX3_readProduct : MethodName := ⟨RX3, "readProduct", "(LNightCarts$Tape;I)V"⟩
abbrev cX3_seesProductSign : ByteArray := prog_5_method_7_code
def yX3_seesProductSign : MethodName := ⟨RX3, "seesProductSign", "(LNightCarts$Tape;)Z"⟩
abbrev cX3_readFactor : ByteArray := prog_5_method_8_code
def yX3_readFactor : MethodName := ⟨RX3, "readFactor", "(LNightCarts$Tape;I)V"⟩
abbrev cX3_readFact : ByteArray := prog_5_method_9_code
def yX3_readFact : MethodName := ⟨RX3, "readFact", "(LNightCarts$Tape;)V"⟩
abbrev cX3_opens : ByteArray := prog_5_method_10_code
def yX3_opens : MethodName := ⟨RX3, "opens", "(LNightCarts$Tape;I)Z"⟩
abbrev cX3_readChoice : ByteArray := prog_5_method_11_code
def yX3_readChoice : MethodName := ⟨RX3, "readChoice", "(LNightCarts$Tape;I)V"⟩
abbrev cX3_readPart : ByteArray := prog_5_method_12_code
def yX3_readPart : MethodName := ⟨RX3, "readPart", "(LNightCarts$Tape;I)V"⟩
abbrev cX3_readTest : ByteArray := prog_5_method_13_code
def yX3_readTest : MethodName := ⟨RX3, "readTest", "(LNightCarts$Tape;I)V"⟩
abbrev cX3_readNegation : ByteArray := prog_5_method_14_code
def yX3_readNegation : MethodName := ⟨RX3, "readNegation", "(LNightCarts$Tape;I)V"⟩
abbrev cX3_readComparison : ByteArray := prog_5_method_15_code
def yX3_readComparison : MethodName := ⟨RX3, "readComparison", "(LNightCarts$Tape;I)V"⟩
def RX4 : String := "NightCarts$Matching"
def TX4 : u_T := fun k => match k with
  | 0 => ("NightCarts$Matching", "wishes", "[I", true)
  | 1 => ("NightCarts$Matching", "stars", "[I", true)
  | 2 => ("NightCarts$Matching", "row", "[I", true)
  | 3 => ("NightCarts$Matching", "bestRow", "[I", true)
  | 4 => ("NightCarts$Matching", "many", "I", false)
  | _ => ("NightCarts$Matching", "missing", "I", false)
def tyX4 : Nat → FieldType := fun k => match k with
  | 0 => .array .int
  | 1 => .array .int
  | 2 => .array .int
  | 3 => .array .int
  | 4 => .int
  | _ => .int
abbrev wsX40 : List Cond := u_ws RX4 TX4 6
theorem nmX4 : ∀ a, a < 6 → ∀ b, b < 6 → a ≠ b → (TX4 a).2.1 ≠ (TX4 b).2.1 := by decide +kernel
theorem tyX4_ok : ∀ k, k < 6 → parseFieldDescriptor (TX4 k).2.2.1 = some (tyX4 k) := by decide +kernel
abbrev cX4_init : ByteArray := prog_6_method_1_code
def yX4_init : MethodName := ⟨RX4, "<init>", "()V"⟩
abbrev cX4_missing : ByteArray := prog_6_method_2_code
def yX4_missing : MethodName := ⟨RX4, "missing", "()I"⟩
abbrev cX4_placeFor : ByteArray := prog_6_method_3_code
def yX4_placeFor : MethodName := ⟨RX4, "placeFor", "(I)I"⟩
abbrev cX4_find : ByteArray := prog_6_method_4_code
def yX4_find : MethodName := ⟨RX4, "find", "(LNightCarts$Tape;ILNightCarts$City;)V"⟩
abbrev cX4_match : ByteArray := prog_6_method_5_code
def yX4_match : MethodName := ⟨RX4, "match", "(III)V"⟩
abbrev cX4_matchWith : ByteArray := prog_6_method_6_code
def yX4_matchWith : MethodName := ⟨RX4, "matchWith", "(IIII)V"⟩
def RX5 : String := "NightCarts$Night"
def TX5 : u_T := fun k => match k with
  | 0 => ("NightCarts$Night", "city", "LNightCarts$City;", true)
  | 1 => ("NightCarts$Night", "roads", "LNightCarts$Roads;", true)
  | 2 => ("NightCarts$Night", "law", "LNightCarts$Law;", true)
  | 3 => ("NightCarts$Night", "depths", "[I", true)
  | 4 => ("NightCarts$Night", "carts", "[LNightCarts$Cart;", true)
  | 5 => ("NightCarts$Night", "stops", "[I", true)
  | 6 => ("NightCarts$Night", "places", "[I", true)
  | 7 => ("NightCarts$Night", "arrivals", "[I", true)
  | 8 => ("NightCarts$Night", "loads", "[I", true)
  | 9 => ("NightCarts$Night", "lastMinutes", "[I", true)
  | 10 => ("NightCarts$Night", "slept", "I", false)
  | 11 => ("NightCarts$Night", "swept", "I", false)
  | 12 => ("NightCarts$Night", "wasted", "I", false)
  | 13 => ("NightCarts$Night", "carried", "I", false)
  | 14 => ("NightCarts$Night", "left", "I", false)
  | _ => ("NightCarts$Night", "arrived", "I", false)
def tyX5 : Nat → FieldType := fun k => match k with
  | 0 => .object "NightCarts$City"
  | 1 => .object "NightCarts$Roads"
  | 2 => .object "NightCarts$Law"
  | 3 => .array .int
  | 4 => .array (.object "NightCarts$Cart")
  | 5 => .array .int
  | 6 => .array .int
  | 7 => .array .int
  | 8 => .array .int
  | 9 => .array .int
  | 10 => .int
  | 11 => .int
  | 12 => .int
  | 13 => .int
  | 14 => .int
  | _ => .int
abbrev wsX50 : List Cond := u_ws RX5 TX5 16
theorem nmX5 : ∀ a, a < 16 → ∀ b, b < 16 → a ≠ b → (TX5 a).2.1 ≠ (TX5 b).2.1 := by decide +kernel
theorem tyX5_ok : ∀ k, k < 16 → parseFieldDescriptor (TX5 k).2.2.1 = some (tyX5 k) := by decide +kernel
abbrev cX5_init : ByteArray := prog_7_method_1_code
def yX5_init : MethodName := ⟨RX5, "<init>", "(LNightCarts$City;LNightCarts$Roads;LNightCarts$Law;)V"⟩
abbrev cX5_slept : ByteArray := prog_7_method_2_code
def yX5_slept : MethodName := ⟨RX5, "slept", "()I"⟩
abbrev cX5_swept : ByteArray := prog_7_method_3_code
def yX5_swept : MethodName := ⟨RX5, "swept", "()I"⟩
abbrev cX5_total : ByteArray := prog_7_method_4_code
def yX5_total : MethodName := ⟨RX5, "total", "(I)I"⟩
abbrev cX5_depthOf : ByteArray := prog_7_method_5_code
def yX5_depthOf : MethodName := ⟨RX5, "depthOf", "(I)I"⟩
abbrev cX5_loadOf : ByteArray := prog_7_method_6_code
def yX5_loadOf : MethodName := ⟨RX5, "loadOf", "(I)I"⟩
abbrev cX5_lastMinuteOf : ByteArray := prog_7_method_7_code
def yX5_lastMinuteOf : MethodName := ⟨RX5, "lastMinuteOf", "(I)I"⟩
abbrev cX5_prepare : ByteArray := prog_7_method_8_code
def yX5_prepare : MethodName := ⟨RX5, "prepare", "()V"⟩
abbrev cX5_send : ByteArray := prog_7_method_9_code
def yX5_send : MethodName := ⟨RX5, "send", "(ILNightCarts$Cart;I)V"⟩
abbrev cX5_goThrough : ByteArray := prog_7_method_10_code
def yX5_goThrough : MethodName := ⟨RX5, "goThrough", "()V"⟩
abbrev cX5_isIdle : ByteArray := prog_7_method_11_code
def yX5_isIdle : MethodName := ⟨RX5, "isIdle", "()Z"⟩
abbrev cX5_sleepsThrough : ByteArray := prog_7_method_12_code
def yX5_sleepsThrough : MethodName := ⟨RX5, "sleepsThrough", "(II)Z"⟩
abbrev cX5_sleepsAfter : ByteArray := prog_7_method_13_code
def yX5_sleepsAfter : MethodName := ⟨RX5, "sleepsAfter", "(II)Z"⟩
abbrev cX5_lose : ByteArray := prog_7_method_14_code
def yX5_lose : MethodName := ⟨RX5, "lose", "(II)I"⟩
abbrev cX5_askOf : ByteArray := prog_7_method_15_code
def yX5_askOf : MethodName := ⟨RX5, "askOf", "(II)I"⟩
abbrev cX5_serveBefore : ByteArray := prog_7_method_16_code
def yX5_serveBefore : MethodName := ⟨RX5, "serveBefore", "(I)V"⟩
abbrev cX5_earliestCart : ByteArray := prog_7_method_17_code
def yX5_earliestCart : MethodName := ⟨RX5, "earliestCart", "()I"⟩
abbrev cX5_serve : ByteArray := prog_7_method_18_code
def yX5_serve : MethodName := ⟨RX5, "serve", "(I)V"⟩
abbrev cX5_takeOn : ByteArray := prog_7_method_19_code
def yX5_takeOn : MethodName := ⟨RX5, "takeOn", "(II)I"⟩
abbrev cX5_leave : ByteArray := prog_7_method_20_code
def yX5_leave : MethodName := ⟨RX5, "leave", "(III)I"⟩
abbrev cX5_goOn : ByteArray := prog_7_method_21_code
def yX5_goOn : MethodName := ⟨RX5, "goOn", "(III)V"⟩
def RX6 : String := "NightCarts$Parting"
def TX6 : u_T := fun k => match k with
  | 0 => ("NightCarts$Parting", "minutes", "[I", true)
  | 1 => ("NightCarts$Parting", "row", "[I", true)
  | 2 => ("NightCarts$Parting", "bestRow", "[I", true)
  | 3 => ("NightCarts$Parting", "sums", "[I", true)
  | 4 => ("NightCarts$Parting", "jobs", "I", false)
  | 5 => ("NightCarts$Parting", "carts", "I", false)
  | _ => ("NightCarts$Parting", "longest", "I", false)
def tyX6 : Nat → FieldType := fun k => match k with
  | 0 => .array .int
  | 1 => .array .int
  | 2 => .array .int
  | 3 => .array .int
  | 4 => .int
  | 5 => .int
  | _ => .int
abbrev wsX60 : List Cond := u_ws RX6 TX6 7
theorem nmX6 : ∀ a, a < 7 → ∀ b, b < 7 → a ≠ b → (TX6 a).2.1 ≠ (TX6 b).2.1 := by decide +kernel
theorem tyX6_ok : ∀ k, k < 7 → parseFieldDescriptor (TX6 k).2.2.1 = some (tyX6 k) := by decide +kernel
abbrev cX6_init : ByteArray := prog_8_method_1_code
def yX6_init : MethodName := ⟨RX6, "<init>", "()V"⟩
abbrev cX6_longest : ByteArray := prog_8_method_2_code
def yX6_longest : MethodName := ⟨RX6, "longest", "()I"⟩
abbrev cX6_cartOf : ByteArray := prog_8_method_3_code
def yX6_cartOf : MethodName := ⟨RX6, "cartOf", "(I)I"⟩
abbrev cX6_find : ByteArray := prog_8_method_4_code
def yX6_find : MethodName := ⟨RX6, "find", "(LNightCarts$Tape;II)V"⟩
abbrev cX6_give : ByteArray := prog_8_method_5_code
def yX6_give : MethodName := ⟨RX6, "give", "(I)V"⟩
abbrev cX6_giveTo : ByteArray := prog_8_method_6_code
def yX6_giveTo : MethodName := ⟨RX6, "giveTo", "(II)V"⟩
abbrev cX6_keepRow : ByteArray := prog_8_method_7_code
def yX6_keepRow : MethodName := ⟨RX6, "keepRow", "()V"⟩
def RX7 : String := "NightCarts$Roads"
def TX7 : u_T := fun k => match k with
  | 0 => ("NightCarts$Roads", "minutes", "[I", true)
  | 1 => ("NightCarts$Roads", "fresh", "[I", true)
  | 2 => ("NightCarts$Roads", "ways", "[I", true)
  | _ => ("NightCarts$Roads", "count", "I", false)
def tyX7 : Nat → FieldType := fun k => match k with
  | 0 => .array .int
  | 1 => .array .int
  | 2 => .array .int
  | _ => .int
abbrev wsX70 : List Cond := u_ws RX7 TX7 4
theorem nmX7 : ∀ a, a < 4 → ∀ b, b < 4 → a ≠ b → (TX7 a).2.1 ≠ (TX7 b).2.1 := by decide +kernel
theorem tyX7_ok : ∀ k, k < 4 → parseFieldDescriptor (TX7 k).2.2.1 = some (tyX7 k) := by decide +kernel
abbrev cX7_init : ByteArray := prog_9_method_1_code
def yX7_init : MethodName := ⟨RX7, "<init>", "()V"⟩
abbrev cX7_howMany : ByteArray := prog_9_method_2_code
def yX7_howMany : MethodName := ⟨RX7, "howMany", "()I"⟩
abbrev cX7_read : ByteArray := prog_9_method_3_code
def yX7_read : MethodName := ⟨RX7, "read", "(LNightCarts$Tape;LNightCarts$City;)I"⟩
abbrev cX7_readLine : ByteArray := prog_9_method_4_code
def yX7_readLine : MethodName := ⟨RX7, "readLine", "(LNightCarts$Tape;LNightCarts$City;I)V"⟩
abbrev cX7_readStreet : ByteArray := prog_9_method_5_code
def yX7_readStreet : MethodName := ⟨RX7, "readStreet", "(LNightCarts$Tape;LNightCarts$City;)V"⟩
abbrev cX7_findWays : ByteArray := prog_9_method_6_code
def yX7_findWays : MethodName := ⟨RX7, "findWays", "()V"⟩
abbrev cX7_shortenFrom : ByteArray := prog_9_method_7_code
def yX7_shortenFrom : MethodName := ⟨RX7, "shortenFrom", "(II)V"⟩
abbrev cX7_between : ByteArray := prog_9_method_8_code
def yX7_between : MethodName := ⟨RX7, "between", "(II)I"⟩
abbrev cX7_reachedFrom : ByteArray := prog_9_method_9_code
def yX7_reachedFrom : MethodName := ⟨RX7, "reachedFrom", "(I)I"⟩
abbrev cX7_farthestFrom : ByteArray := prog_9_method_10_code
def yX7_farthestFrom : MethodName := ⟨RX7, "farthestFrom", "(I)I"⟩
abbrev cX7_sumFrom : ByteArray := prog_9_method_11_code
def yX7_sumFrom : MethodName := ⟨RX7, "sumFrom", "(I)I"⟩
abbrev cX7_bestPit : ByteArray := prog_9_method_12_code
def yX7_bestPit : MethodName := ⟨RX7, "bestPit", "(LNightCarts$City;Z)I"⟩
abbrev cX7_countCuts : ByteArray := prog_9_method_13_code
def yX7_countCuts : MethodName := ⟨RX7, "countCuts", "()I"⟩
abbrev cX7_firstCut : ByteArray := prog_9_method_14_code
def yX7_firstCut : MethodName := ⟨RX7, "firstCut", "()I"⟩
abbrev cX7_isCut : ByteArray := prog_9_method_15_code
def yX7_isCut : MethodName := ⟨RX7, "isCut", "(I)Z"⟩
abbrev cX7_neighboursOf : ByteArray := prog_9_method_16_code
def yX7_neighboursOf : MethodName := ⟨RX7, "neighboursOf", "(III)I"⟩
def RX8 : String := "NightCarts$Rounds"
def TX8 : u_T := fun k => match k with
  | 0 => ("NightCarts$Rounds", "roads", "LNightCarts$Roads;", true)
  | 1 => ("NightCarts$Rounds", "streets", "[I", true)
  | 2 => ("NightCarts$Rounds", "rest", "[I", true)
  | 3 => ("NightCarts$Rounds", "row", "[I", true)
  | _ => ("NightCarts$Rounds", "many", "I", false)
def tyX8 : Nat → FieldType := fun k => match k with
  | 0 => .object "NightCarts$Roads"
  | 1 => .array .int
  | 2 => .array .int
  | 3 => .array .int
  | _ => .int
abbrev wsX80 : List Cond := u_ws RX8 TX8 5
theorem nmX8 : ∀ a, a < 5 → ∀ b, b < 5 → a ≠ b → (TX8 a).2.1 ≠ (TX8 b).2.1 := by decide +kernel
theorem tyX8_ok : ∀ k, k < 5 → parseFieldDescriptor (TX8 k).2.2.1 = some (tyX8 k) := by decide +kernel
abbrev cX8_init : ByteArray := prog_10_method_1_code
def yX8_init : MethodName := ⟨RX8, "<init>", "(LNightCarts$Roads;)V"⟩
abbrev cX8_find : ByteArray := prog_10_method_2_code
def yX8_find : MethodName := ⟨RX8, "find", "(II)Z"⟩
abbrev cX8_minutes : ByteArray := prog_10_method_3_code
def yX8_minutes : MethodName := ⟨RX8, "minutes", "()I"⟩
abbrev cX8_streetAt : ByteArray := prog_10_method_4_code
def yX8_streetAt : MethodName := ⟨RX8, "streetAt", "(I)I"⟩
abbrev cX8_leastFrom : ByteArray := prog_10_method_5_code
def yX8_leastFrom : MethodName := ⟨RX8, "leastFrom", "(II)I"⟩
abbrev cX8_minutesOver : ByteArray := prog_10_method_6_code
def yX8_minutesOver : MethodName := ⟨RX8, "minutesOver", "(III)I"⟩
abbrev cX8_minutesBetween : ByteArray := prog_10_method_7_code
def yX8_minutesBetween : MethodName := ⟨RX8, "minutesBetween", "(II)I"⟩
abbrev cX8_writeRow : ByteArray := prog_10_method_8_code
def yX8_writeRow : MethodName := ⟨RX8, "writeRow", "()V"⟩
abbrev cX8_firstThatMeets : ByteArray := prog_10_method_9_code
def yX8_firstThatMeets : MethodName := ⟨RX8, "firstThatMeets", "(III)I"⟩
def RX9 : String := "NightCarts$Shares"
def TX9 : u_T := fun k => match k with
  | 0 => ("NightCarts$Shares", "city", "LNightCarts$City;", true)
  | 1 => ("NightCarts$Shares", "streets", "[I", true)
  | 2 => ("NightCarts$Shares", "yards", "[I", true)
  | 3 => ("NightCarts$Shares", "gains", "[I", true)
  | 4 => ("NightCarts$Shares", "many", "I", false)
  | 5 => ("NightCarts$Shares", "least", "I", false)
  | 6 => ("NightCarts$Shares", "best", "I", false)
  | 7 => ("NightCarts$Shares", "houses", "I", false)
  | _ => ("NightCarts$Shares", "spent", "I", false)
def tyX9 : Nat → FieldType := fun k => match k with
  | 0 => .object "NightCarts$City"
  | 1 => .array .int
  | 2 => .array .int
  | 3 => .array .int
  | 4 => .int
  | 5 => .int
  | 6 => .int
  | 7 => .int
  | _ => .int
abbrev wsX90 : List Cond := u_ws RX9 TX9 9
theorem nmX9 : ∀ a, a < 9 → ∀ b, b < 9 → a ≠ b → (TX9 a).2.1 ≠ (TX9 b).2.1 := by decide +kernel
theorem tyX9_ok : ∀ k, k < 9 → parseFieldDescriptor (TX9 k).2.2.1 = some (tyX9 k) := by decide +kernel
abbrev cX9_init : ByteArray := prog_11_method_1_code
def yX9_init : MethodName := ⟨RX9, "<init>", "(LNightCarts$City;)V"⟩
abbrev cX9_choose : ByteArray := prog_11_method_2_code
def yX9_choose : MethodName := ⟨RX9, "choose", "(I)V"⟩
abbrev cX9_least : ByteArray := prog_11_method_3_code
def yX9_least : MethodName := ⟨RX9, "least", "()I"⟩
abbrev cX9_yardsFor : ByteArray := prog_11_method_4_code
def yX9_yardsFor : MethodName := ⟨RX9, "yardsFor", "(I)I"⟩
abbrev cX9_spread : ByteArray := prog_11_method_5_code
def yX9_spread : MethodName := ⟨RX9, "spread", "(I)Z"⟩
abbrev cX9_neededFor : ByteArray := prog_11_method_6_code
def yX9_neededFor : MethodName := ⟨RX9, "neededFor", "(I)I"⟩
abbrev cX9_greatestLevel : ByteArray := prog_11_method_7_code
def yX9_greatestLevel : MethodName := ⟨RX9, "greatestLevel", "(I)I"⟩
abbrev cX9_houses : ByteArray := prog_11_method_8_code
def yX9_houses : MethodName := ⟨RX9, "houses", "()I"⟩
abbrev cX9_spent : ByteArray := prog_11_method_9_code
def yX9_spent : MethodName := ⟨RX9, "spent", "()I"⟩
abbrev cX9_sleepingStreets : ByteArray := prog_11_method_10_code
def yX9_sleepingStreets : MethodName := ⟨RX9, "sleepingStreets", "()I"⟩
abbrev cX9_findSleepful : ByteArray := prog_11_method_11_code
def yX9_findSleepful : MethodName := ⟨RX9, "findSleepful", "(ILNightCarts$Law;)V"⟩
abbrev cX9_missingToSleep : ByteArray := prog_11_method_12_code
def yX9_missingToSleep : MethodName := ⟨RX9, "missingToSleep", "(ILNightCarts$Law;)I"⟩
abbrev cX9_weigh : ByteArray := prog_11_method_13_code
def yX9_weigh : MethodName := ⟨RX9, "weigh", "(II)V"⟩
abbrev cX9_reckonGains : ByteArray := prog_11_method_14_code
def yX9_reckonGains : MethodName := ⟨RX9, "reckonGains", "(LNightCarts$Law;)V"⟩
abbrev cX9_wastedBy : ByteArray := prog_11_method_15_code
def yX9_wastedBy : MethodName := ⟨RX9, "wastedBy", "(IILNightCarts$Law;)I"⟩
abbrev cX9_gainOf : ByteArray := prog_11_method_16_code
def yX9_gainOf : MethodName := ⟨RX9, "gainOf", "(I)I"⟩
abbrev cX9_bestGainBeside : ByteArray := prog_11_method_17_code
def yX9_bestGainBeside : MethodName := ⟨RX9, "bestGainBeside", "(I)I"⟩
def RX10 : String := "NightCarts$Tape"
def TX10 : u_T := fun k => match k with
  | 0 => ("NightCarts$Tape", "bytes", "[I", true)
  | 1 => ("NightCarts$Tape", "length", "I", false)
  | 2 => ("NightCarts$Tape", "place", "I", false)
  | 3 => ("NightCarts$Tape", "end", "I", false)
  | 4 => ("NightCarts$Tape", "sign", "I", false)
  | _ => ("NightCarts$Tape", "fault", "I", false)
def tyX10 : Nat → FieldType := fun k => match k with
  | 0 => .array .int
  | 1 => .int
  | 2 => .int
  | 3 => .int
  | 4 => .int
  | _ => .int
abbrev wsX100 : List Cond := u_ws RX10 TX10 6
theorem nmX10 : ∀ a, a < 6 → ∀ b, b < 6 → a ≠ b → (TX10 a).2.1 ≠ (TX10 b).2.1 := by decide +kernel
theorem tyX10_ok : ∀ k, k < 6 → parseFieldDescriptor (TX10 k).2.2.1 = some (tyX10 k) := by decide +kernel
abbrev cX10_init : ByteArray := prog_12_method_1_code
def yX10_init : MethodName := ⟨RX10, "<init>", "()V"⟩
abbrev cX10_hasRoomFor : ByteArray := prog_12_method_2_code
def yX10_hasRoomFor : MethodName := ⟨RX10, "hasRoomFor", "(I)Z"⟩
abbrev cX10_holds : ByteArray := prog_12_method_3_code
def yX10_holds : MethodName := ⟨RX10, "holds", "(I)Z"⟩
abbrev cX10_length : ByteArray := prog_12_method_4_code
def yX10_length : MethodName := ⟨RX10, "length", "()I"⟩
abbrev cX10_clear : ByteArray := prog_12_method_5_code
def yX10_clear : MethodName := ⟨RX10, "clear", "()V"⟩
abbrev cX10_addWord : ByteArray := prog_12_method_6_code
def yX10_addWord : MethodName := ⟨RX10, "addWord", "(I)V"⟩
abbrev cX10_at : ByteArray := prog_12_method_7_code
def yX10_at : MethodName := ⟨RX10, "at", "(I)I"⟩
abbrev cX10_pairAt : ByteArray := prog_12_method_8_code
def yX10_pairAt : MethodName := ⟨RX10, "pairAt", "(I)I"⟩
abbrev cX10_sumOf : ByteArray := prog_12_method_9_code
def yX10_sumOf : MethodName := ⟨RX10, "sumOf", "(IIII)I"⟩
abbrev cX10_open : ByteArray := prog_12_method_10_code
def yX10_open : MethodName := ⟨RX10, "open", "(I)V"⟩
abbrev cX10_place : ByteArray := prog_12_method_11_code
def yX10_place : MethodName := ⟨RX10, "place", "()I"⟩
abbrev cX10_sign : ByteArray := prog_12_method_12_code
def yX10_sign : MethodName := ⟨RX10, "sign", "()I"⟩
abbrev cX10_isAtEnd : ByteArray := prog_12_method_13_code
def yX10_isAtEnd : MethodName := ⟨RX10, "isAtEnd", "()Z"⟩
abbrev cX10_isSound : ByteArray := prog_12_method_14_code
def yX10_isSound : MethodName := ⟨RX10, "isSound", "()Z"⟩
abbrev cX10_fault : ByteArray := prog_12_method_15_code
def yX10_fault : MethodName := ⟨RX10, "fault", "()I"⟩
abbrev cX10_step : ByteArray := prog_12_method_16_code
def yX10_step : MethodName := ⟨RX10, "step", "()V"⟩
abbrev cX10_failAt : ByteArray := prog_12_method_17_code
def yX10_failAt : MethodName := ⟨RX10, "failAt", "(II)V"⟩
abbrev cX10_fail : ByteArray := prog_12_method_18_code
def yX10_fail : MethodName := ⟨RX10, "fail", "(I)V"⟩
abbrev cX10_sees : ByteArray := prog_12_method_19_code
def yX10_sees : MethodName := ⟨RX10, "sees", "(I)Z"⟩
abbrev cX10_seesDigit : ByteArray := prog_12_method_20_code
def yX10_seesDigit : MethodName := ⟨RX10, "seesDigit", "()Z"⟩
abbrev cX10_seesStreet : ByteArray := prog_12_method_21_code
def yX10_seesStreet : MethodName := ⟨RX10, "seesStreet", "()Z"⟩
abbrev cX10_need : ByteArray := prog_12_method_22_code
def yX10_need : MethodName := ⟨RX10, "need", "(I)V"⟩
abbrev cX10_readNumber : ByteArray := prog_12_method_23_code
def yX10_readNumber : MethodName := ⟨RX10, "readNumber", "(I)I"⟩
def RX11 : String := "NightCarts"
def TX11 : u_T := fun k => match k with
  | 0 => ("NightCarts", "tape", "LNightCarts$Tape;", true)
  | 1 => ("NightCarts", "city", "LNightCarts$City;", true)
  | 2 => ("NightCarts", "roads", "LNightCarts$Roads;", true)
  | 3 => ("NightCarts", "law", "LNightCarts$Law;", true)
  | 4 => ("NightCarts", "lawReader", "LNightCarts$LawReader;", true)
  | 5 => ("NightCarts", "carts", "[LNightCarts$Cart;", true)
  | 6 => ("NightCarts", "spareCart", "LNightCarts$Cart;", true)
  | 7 => ("NightCarts", "night", "LNightCarts$Night;", true)
  | 8 => ("NightCarts", "rounds", "LNightCarts$Rounds;", true)
  | 9 => ("NightCarts", "shares", "LNightCarts$Shares;", true)
  | 10 => ("NightCarts", "parting", "LNightCarts$Parting;", true)
  | _ => ("NightCarts", "matching", "LNightCarts$Matching;", true)
def tyX11 : Nat → FieldType := fun k => match k with
  | 0 => .object "NightCarts$Tape"
  | 1 => .object "NightCarts$City"
  | 2 => .object "NightCarts$Roads"
  | 3 => .object "NightCarts$Law"
  | 4 => .object "NightCarts$LawReader"
  | 5 => .array (.object "NightCarts$Cart")
  | 6 => .object "NightCarts$Cart"
  | 7 => .object "NightCarts$Night"
  | 8 => .object "NightCarts$Rounds"
  | 9 => .object "NightCarts$Shares"
  | 10 => .object "NightCarts$Parting"
  | _ => .object "NightCarts$Matching"
abbrev wsX110 : List Cond := u_ws RX11 TX11 12
theorem nmX11 : ∀ a, a < 12 → ∀ b, b < 12 → a ≠ b → (TX11 a).2.1 ≠ (TX11 b).2.1 := by decide +kernel
theorem tyX11_ok : ∀ k, k < 12 → parseFieldDescriptor (TX11 k).2.2.1 = some (tyX11 k) := by decide +kernel
abbrev cX11_init : ByteArray := prog_1_method_1_code
def yX11_init : MethodName := ⟨RX11, "<init>", "()V"⟩
abbrev cX11_street : ByteArray := prog_1_method_2_code
def yX11_street : MethodName := ⟨RX11, "street", "(IIII)Z"⟩
abbrev cX11_cart : ByteArray := prog_1_method_3_code
def yX11_cart : MethodName := ⟨RX11, "cart", "(II)Z"⟩
abbrev cX11_pour : ByteArray := prog_1_method_4_code
def yX11_pour : MethodName := ⟨RX11, "pour", "(II)I"⟩
abbrev cX11_feed : ByteArray := prog_1_method_5_code
def yX11_feed : MethodName := ⟨RX11, "feed", "(IIIII)I"⟩
abbrev cX11_law : ByteArray := prog_1_method_6_code
def yX11_law : MethodName := ⟨RX11, "law", "(I)I"⟩
abbrev cX11_roads : ByteArray := prog_1_method_7_code
def yX11_roads : MethodName := ⟨RX11, "roads", "(I)I"⟩
abbrev cX11_plan : ByteArray := prog_1_method_8_code
def yX11_plan : MethodName := ⟨RX11, "plan", "(II)I"⟩
abbrev cX11_nights : ByteArray := prog_1_method_9_code
def yX11_nights : MethodName := ⟨RX11, "nights", "(I)I"⟩
abbrev cX11_tried : ByteArray := prog_1_method_10_code
def yX11_tried : MethodName := ⟨RX11, "tried", "(I)I"⟩
abbrev cX11_way : ByteArray := prog_1_method_11_code
def yX11_way : MethodName := ⟨RX11, "way", "(II)I"⟩
abbrev cX11_round : ByteArray := prog_1_method_12_code
def yX11_round : MethodName := ⟨RX11, "round", "(III)I"⟩
abbrev cX11_share : ByteArray := prog_1_method_13_code
def yX11_share : MethodName := ⟨RX11, "share", "(III)I"⟩
abbrev cX11_sleepful : ByteArray := prog_1_method_14_code
def yX11_sleepful : MethodName := ⟨RX11, "sleepful", "(III)I"⟩
abbrev cX11_pitAt : ByteArray := prog_1_method_15_code
def yX11_pitAt : MethodName := ⟨RX11, "pitAt", "(I)I"⟩
abbrev cX11_cut : ByteArray := prog_1_method_16_code
def yX11_cut : MethodName := ⟨RX11, "cut", "(I)I"⟩
abbrev cX11_strike : ByteArray := prog_1_method_17_code
def yX11_strike : MethodName := ⟨RX11, "strike", "(I)I"⟩
abbrev cX11_enough : ByteArray := prog_1_method_18_code
def yX11_enough : MethodName := ⟨RX11, "enough", "(I)I"⟩
abbrev cX11_oneStop : ByteArray := prog_1_method_19_code
def yX11_oneStop : MethodName := ⟨RX11, "oneStop", "(III)I"⟩
abbrev cX11_out : ByteArray := prog_1_method_20_code
def yX11_out : MethodName := ⟨RX11, "out", "(II)I"⟩
abbrev cX11_jobs : ByteArray := prog_1_method_21_code
def yX11_jobs : MethodName := ⟨RX11, "jobs", "(III)I"⟩
abbrev cX11_load : ByteArray := prog_1_method_22_code
def yX11_load : MethodName := ⟨RX11, "load", "(III)I"⟩
abbrev cX11_brides : ByteArray := prog_1_method_23_code
def yX11_brides : MethodName := ⟨RX11, "brides", "(II)I"⟩
abbrev cX11_thieves : ByteArray := prog_1_method_24_code
def yX11_thieves : MethodName := ⟨RX11, "thieves", "(III)I"⟩
abbrev cX11_latest : ByteArray := prog_1_method_25_code
def yX11_latest : MethodName := ⟨RX11, "latest", "(I)I"⟩
abbrev cX11_keep : ByteArray := prog_1_method_26_code
def yX11_keep : MethodName := ⟨RX11, "keep", "()I"⟩
abbrev cX11_undo : ByteArray := prog_1_method_27_code
def yX11_undo : MethodName := ⟨RX11, "undo", "()Z"⟩
abbrev cX11_check : ByteArray := prog_1_method_28_code
def yX11_check : MethodName := ⟨RX11, "check", "(I)I"⟩
abbrev cX11_count : ByteArray := prog_1_method_29_code
def yX11_count : MethodName := ⟨RX11, "count", "(I)I"⟩
abbrev cX11_isWithin : ByteArray := prog_1_method_30_code
def yX11_isWithin : MethodName := ⟨RX11, "isWithin", "(III)Z"⟩
abbrev cX11_hasBit : ByteArray := prog_1_method_31_code
def yX11_hasBit : MethodName := ⟨RX11, "hasBit", "(II)Z"⟩
abbrev cX11_cartAt : ByteArray := prog_1_method_32_code
def yX11_cartAt : MethodName := ⟨RX11, "cartAt", "(I)LNightCarts$Cart;"⟩
abbrev cX11_isToldCart : ByteArray := prog_1_method_33_code
def yX11_isToldCart : MethodName := ⟨RX11, "isToldCart", "(I)Z"⟩
abbrev cX11_toldCarts : ByteArray := prog_1_method_34_code
def yX11_toldCarts : MethodName := ⟨RX11, "toldCarts", "()I"⟩
abbrev cX11_countOfStreet : ByteArray := prog_1_method_35_code
def yX11_countOfStreet : MethodName := ⟨RX11, "countOfStreet", "(I)I"⟩
abbrev cX11_canBeTried : ByteArray := prog_1_method_36_code
def yX11_canBeTried : MethodName := ⟨RX11, "canBeTried", "(I)Z"⟩
abbrev cX11_sendCarts : ByteArray := prog_1_method_37_code
def yX11_sendCarts : MethodName := ⟨RX11, "sendCarts", "(I)V"⟩
abbrev cX11_sendOneCart : ByteArray := prog_1_method_38_code
def yX11_sendOneCart : MethodName := ⟨RX11, "sendOneCart", "(III)V"⟩
abbrev cX11_partJobs : ByteArray := prog_1_method_39_code
def yX11_partJobs : MethodName := ⟨RX11, "partJobs", "(III)I"⟩
abbrev cX11_matchBrides : ByteArray := prog_1_method_40_code
def yX11_matchBrides : MethodName := ⟨RX11, "matchBrides", "(II)I"⟩
abbrev cX11_latestStart : ByteArray := prog_1_method_41_code
def yX11_latestStart : MethodName := ⟨RX11, "latestStart", "(I)I"⟩
def RX12 : String := "NightCartsModel"
def TX12 : u_T := fun k => match k with
  | 0 => ("NightCartsModel", "now", "[I", true)
  | 1 => ("NightCartsModel", "aside", "[I", true)
  | 2 => ("NightCartsModel", "kept", "[I", true)
  | 3 => ("NightCartsModel", "houses", "[I", true)
  | 4 => ("NightCartsModel", "lamps", "[I", true)
  | 5 => ("NightCartsModel", "stars", "[I", true)
  | 6 => ("NightCartsModel", "road", "[I", true)
  | 7 => ("NightCartsModel", "wayOf", "[I", true)
  | 8 => ("NightCartsModel", "roomOf", "[I", true)
  | 9 => ("NightCartsModel", "stopMany", "[I", true)
  | 10 => ("NightCartsModel", "stopAt", "[I", true)
  | 11 => ("NightCartsModel", "stopYards", "[I", true)
  | 12 => ("NightCartsModel", "streets", "I", false)
  | 13 => ("NightCartsModel", "carts", "I", false)
  | 14 => ("NightCartsModel", "tape", "[B", true)
  | 15 => ("NightCartsModel", "taped", "I", false)
  | 16 => ("NightCartsModel", "place0", "I", false)
  | 17 => ("NightCartsModel", "length0", "I", false)
  | 18 => ("NightCartsModel", "fault", "I", false)
  | 19 => ("NightCartsModel", "number0", "I", false)
  | 20 => ("NightCartsModel", "open", "I", false)
  | 21 => ("NightCartsModel", "codeMany", "I", false)
  | 22 => ("NightCartsModel", "waiting", "I", false)
  | 23 => ("NightCartsModel", "saidMany", "I", false)
  | 24 => ("NightCartsModel", "clauses", "I", false)
  | 25 => ("NightCartsModel", "said", "[I", true)
  | 26 => ("NightCartsModel", "waitsAt", "[I", true)
  | 27 => ("NightCartsModel", "saidLetter", "[I", true)
  | 28 => ("NightCartsModel", "saidFrom", "[I", true)
  | 29 => ("NightCartsModel", "saidHalf", "[I", true)
  | 30 => ("NightCartsModel", "saidTo", "[I", true)
  | 31 => ("NightCartsModel", "codes", "[I", true)
  | 32 => ("NightCartsModel", "clauseOf", "[I", true)
  | 33 => ("NightCartsModel", "codeFrom", "[I", true)
  | 34 => ("NightCartsModel", "codeHalf", "[I", true)
  | 35 => ("NightCartsModel", "codeTo", "[I", true)
  | 36 => ("NightCartsModel", "stack", "[I", true)
  | 37 => ("NightCartsModel", "facts", "[I", true)
  | 38 => ("NightCartsModel", "newRoad", "[I", true)
  | 39 => ("NightCartsModel", "newAt", "[I", true)
  | 40 => ("NightCartsModel", "newYards", "[I", true)
  | 41 => ("NightCartsModel", "lines", "I", false)
  | 42 => ("NightCartsModel", "cartAt", "[I", true)
  | 43 => ("NightCartsModel", "cartHas", "[I", true)
  | 44 => ("NightCartsModel", "cartStop", "[I", true)
  | 45 => ("NightCartsModel", "cartComes", "[I", true)
  | 46 => ("NightCartsModel", "cartLast", "[I", true)
  | 47 => ("NightCartsModel", "wastedNow", "I", false)
  | 48 => ("NightCartsModel", "carriedNow", "I", false)
  | 49 => ("NightCartsModel", "leftNow", "I", false)
  | 50 => ("NightCartsModel", "arrivedNow", "I", false)
  | 51 => ("NightCartsModel", "startMinute", "I", false)
  | 52 => ("NightCartsModel", "whoOf", "[I", true)
  | 53 => ("NightCartsModel", "rowNow", "[I", true)
  | 54 => ("NightCartsModel", "reachOf", "[I", true)
  | 55 => ("NightCartsModel", "farthestOf", "[I", true)
  | 56 => ("NightCartsModel", "sumOf", "[I", true)
  | 57 => ("NightCartsModel", "cartSum", "[I", true)
  | _ => ("NightCartsModel", "isKept", "Z", false)
def tyX12 : Nat → FieldType := fun k => match k with
  | 0 => .array .int
  | 1 => .array .int
  | 2 => .array .int
  | 3 => .array .int
  | 4 => .array .int
  | 5 => .array .int
  | 6 => .array .int
  | 7 => .array .int
  | 8 => .array .int
  | 9 => .array .int
  | 10 => .array .int
  | 11 => .array .int
  | 12 => .int
  | 13 => .int
  | 14 => .array .byte
  | 15 => .int
  | 16 => .int
  | 17 => .int
  | 18 => .int
  | 19 => .int
  | 20 => .int
  | 21 => .int
  | 22 => .int
  | 23 => .int
  | 24 => .int
  | 25 => .array .int
  | 26 => .array .int
  | 27 => .array .int
  | 28 => .array .int
  | 29 => .array .int
  | 30 => .array .int
  | 31 => .array .int
  | 32 => .array .int
  | 33 => .array .int
  | 34 => .array .int
  | 35 => .array .int
  | 36 => .array .int
  | 37 => .array .int
  | 38 => .array .int
  | 39 => .array .int
  | 40 => .array .int
  | 41 => .int
  | 42 => .array .int
  | 43 => .array .int
  | 44 => .array .int
  | 45 => .array .int
  | 46 => .array .int
  | 47 => .int
  | 48 => .int
  | 49 => .int
  | 50 => .int
  | 51 => .int
  | 52 => .array .int
  | 53 => .array .int
  | 54 => .array .int
  | 55 => .array .int
  | 56 => .array .int
  | 57 => .array .int
  | _ => .boolean
abbrev wsX120 : List Cond := u_ws RX12 TX12 59
theorem nmX12 : ∀ a, a < 59 → ∀ b, b < 59 → a ≠ b → (TX12 a).2.1 ≠ (TX12 b).2.1 := by decide +kernel
theorem tyX12_ok : ∀ k, k < 59 → parseFieldDescriptor (TX12 k).2.2.1 = some (tyX12 k) := by decide +kernel
abbrev cX12_init : ByteArray := prog_14_method_1_code
def yX12_init : MethodName := ⟨RX12, "<init>", "()V"⟩
abbrev cX12_in : ByteArray := prog_14_method_2_code
def yX12_in : MethodName := ⟨RX12, "in", "(III)Z"⟩
abbrev cX12_min : ByteArray := prog_14_method_3_code
def yX12_min : MethodName := ⟨RX12, "min", "(II)I"⟩
abbrev cX12_max : ByteArray := prog_14_method_4_code
def yX12_max : MethodName := ⟨RX12, "max", "(II)I"⟩
abbrev cX12_has : ByteArray := prog_14_method_5_code
def yX12_has : MethodName := ⟨RX12, "has", "(II)Z"⟩
abbrev cX12_bits : ByteArray := prog_14_method_6_code
def yX12_bits : MethodName := ⟨RX12, "bits", "(I)I"⟩
abbrev cX12_copies : ByteArray := prog_14_method_7_code
def yX12_copies : MethodName := ⟨RX12, "copies", "([I[I)V"⟩
abbrev cX12_isStreet : ByteArray := prog_14_method_8_code
def yX12_isStreet : MethodName := ⟨RX12, "isStreet", "(I)Z"⟩
abbrev cX12_isCart : ByteArray := prog_14_method_9_code
def yX12_isCart : MethodName := ⟨RX12, "isCart", "(I)Z"⟩
abbrev cX12_laysWays : ByteArray := prog_14_method_10_code
def yX12_laysWays : MethodName := ⟨RX12, "laysWays", "(II)V"⟩
abbrev cX12_farOf : ByteArray := prog_14_method_11_code
def yX12_farOf : MethodName := ⟨RX12, "farOf", "(II)I"⟩
abbrev cX12_street : ByteArray := prog_14_method_12_code
def yX12_street : MethodName := ⟨RX12, "street", "(IIII)Z"⟩
abbrev cX12_cart : ByteArray := prog_14_method_13_code
def yX12_cart : MethodName := ⟨RX12, "cart", "(II)Z"⟩
abbrev cX12_pour : ByteArray := prog_14_method_14_code
def yX12_pour : MethodName := ⟨RX12, "pour", "(II)I"⟩
abbrev cX12_types : ByteArray := prog_14_method_15_code
def yX12_types : MethodName := ⟨RX12, "types", "(I)V"⟩
abbrev cX12_feed : ByteArray := prog_14_method_16_code
def yX12_feed : MethodName := ⟨RX12, "feed", "(IIIII)I"⟩
abbrev cX12_here : ByteArray := prog_14_method_17_code
def yX12_here : MethodName := ⟨RX12, "here", "()I"⟩
abbrev cX12_isDigit : ByteArray := prog_14_method_18_code
def yX12_isDigit : MethodName := ⟨RX12, "isDigit", "()Z"⟩
abbrev cX12_wrongAt : ByteArray := prog_14_method_19_code
def yX12_wrongAt : MethodName := ⟨RX12, "wrongAt", "(II)Z"⟩
abbrev cX12_takes : ByteArray := prog_14_method_20_code
def yX12_takes : MethodName := ⟨RX12, "takes", "(I)Z"⟩
abbrev cX12_readsNumber : ByteArray := prog_14_method_21_code
def yX12_readsNumber : MethodName := ⟨RX12, "readsNumber", "()Z"⟩
abbrev cX12_notes : ByteArray := prog_14_method_22_code
def yX12_notes : MethodName := ⟨RX12, "notes", "(II)V"⟩
abbrev cX12_opens : ByteArray := prog_14_method_23_code
def yX12_opens : MethodName := ⟨RX12, "opens", "(I)Z"⟩
abbrev cX12_waitTop : ByteArray := prog_14_method_24_code
def yX12_waitTop : MethodName := ⟨RX12, "waitTop", "()I"⟩
abbrev cX12_factOf : ByteArray := prog_14_method_25_code
def yX12_factOf : MethodName := ⟨RX12, "factOf", "(I)I"⟩
abbrev cX12_sumSign : ByteArray := prog_14_method_26_code
def yX12_sumSign : MethodName := ⟨RX12, "sumSign", "(I)I"⟩
abbrev cX12_closesSums : ByteArray := prog_14_method_27_code
def yX12_closesSums : MethodName := ⟨RX12, "closesSums", "(Z)V"⟩
abbrev cX12_readsFactor : ByteArray := prog_14_method_28_code
def yX12_readsFactor : MethodName := ⟨RX12, "readsFactor", "()Z"⟩
abbrev cX12_hasOpenSum : ByteArray := prog_14_method_29_code
def yX12_hasOpenSum : MethodName := ⟨RX12, "hasOpenSum", "(I)Z"⟩
abbrev cX12_readsSum : ByteArray := prog_14_method_30_code
def yX12_readsSum : MethodName := ⟨RX12, "readsSum", "()Z"⟩
abbrev cX12_endsPiece : ByteArray := prog_14_method_31_code
def yX12_endsPiece : MethodName := ⟨RX12, "endsPiece", "()V"⟩
abbrev cX12_lands : ByteArray := prog_14_method_32_code
def yX12_lands : MethodName := ⟨RX12, "lands", "(Z)V"⟩
abbrev cX12_jumps : ByteArray := prog_14_method_33_code
def yX12_jumps : MethodName := ⟨RX12, "jumps", "(I)V"⟩
abbrev cX12_readsCompared : ByteArray := prog_14_method_34_code
def yX12_readsCompared : MethodName := ⟨RX12, "readsCompared", "()Z"⟩
abbrev cX12_readsCondition : ByteArray := prog_14_method_35_code
def yX12_readsCondition : MethodName := ⟨RX12, "readsCondition", "()Z"⟩
abbrev cX12_isClause : ByteArray := prog_14_method_36_code
def yX12_isClause : MethodName := ⟨RX12, "isClause", "(I)Z"⟩
abbrev cX12_readsClause : ByteArray := prog_14_method_37_code
def yX12_readsClause : MethodName := ⟨RX12, "readsClause", "()Z"⟩
abbrev cX12_law : ByteArray := prog_14_method_38_code
def yX12_law : MethodName := ⟨RX12, "law", "(I)I"⟩
abbrev cX12_reckon : ByteArray := prog_14_method_39_code
def yX12_reckon : MethodName := ⟨RX12, "reckon", "(III)I"⟩
abbrev cX12_comesTo : ByteArray := prog_14_method_40_code
def yX12_comesTo : MethodName := ⟨RX12, "comesTo", "(II)I"⟩
abbrev cX12_byLaw : ByteArray := prog_14_method_41_code
def yX12_byLaw : MethodName := ⟨RX12, "byLaw", "(II)I"⟩
abbrev cX12_feels : ByteArray := prog_14_method_42_code
def yX12_feels : MethodName := ⟨RX12, "feels", "(III)V"⟩
abbrev cX12_byStreet : ByteArray := prog_14_method_43_code
def yX12_byStreet : MethodName := ⟨RX12, "byStreet", "(III)I"⟩
abbrev cX12_readsTwo : ByteArray := prog_14_method_44_code
def yX12_readsTwo : MethodName := ⟨RX12, "readsTwo", "()Z"⟩
abbrev cX12_isLetterHere : ByteArray := prog_14_method_45_code
def yX12_isLetterHere : MethodName := ⟨RX12, "isLetterHere", "()Z"⟩
abbrev cX12_readsLine : ByteArray := prog_14_method_46_code
def yX12_readsLine : MethodName := ⟨RX12, "readsLine", "()Z"⟩
abbrev cX12_roads : ByteArray := prog_14_method_47_code
def yX12_roads : MethodName := ⟨RX12, "roads", "(I)I"⟩
abbrev cX12_readsStop : ByteArray := prog_14_method_48_code
def yX12_readsStop : MethodName := ⟨RX12, "readsStop", "()Z"⟩
abbrev cX12_plan : ByteArray := prog_14_method_49_code
def yX12_plan : MethodName := ⟨RX12, "plan", "(II)I"⟩
abbrev cX12_placeOf : ByteArray := prog_14_method_50_code
def yX12_placeOf : MethodName := ⟨RX12, "placeOf", "(I)I"⟩
abbrev cX12_canCome : ByteArray := prog_14_method_51_code
def yX12_canCome : MethodName := ⟨RX12, "canCome", "(II)Z"⟩
abbrev cX12_goesOn : ByteArray := prog_14_method_52_code
def yX12_goesOn : MethodName := ⟨RX12, "goesOn", "(II)V"⟩
abbrev cX12_arrives : ByteArray := prog_14_method_53_code
def yX12_arrives : MethodName := ⟨RX12, "arrives", "(II)V"⟩
abbrev cX12_hourEnds : ByteArray := prog_14_method_54_code
def yX12_hourEnds : MethodName := ⟨RX12, "hourEnds", "(I)V"⟩
abbrev cX12_goesNight : ByteArray := prog_14_method_55_code
def yX12_goesNight : MethodName := ⟨RX12, "goesNight", "()V"⟩
abbrev cX12_yardsAll : ByteArray := prog_14_method_56_code
def yX12_yardsAll : MethodName := ⟨RX12, "yardsAll", "()I"⟩
abbrev cX12_nights : ByteArray := prog_14_method_57_code
def yX12_nights : MethodName := ⟨RX12, "nights", "(I)I"⟩
abbrev cX12_tried : ByteArray := prog_14_method_58_code
def yX12_tried : MethodName := ⟨RX12, "tried", "(I)I"⟩
abbrev cX12_lastOf : ByteArray := prog_14_method_59_code
def yX12_lastOf : MethodName := ⟨RX12, "lastOf", "(I)I"⟩
abbrev cX12_sleptBy : ByteArray := prog_14_method_60_code
def yX12_sleptBy : MethodName := ⟨RX12, "sleptBy", "()I"⟩
abbrev cX12_strike : ByteArray := prog_14_method_61_code
def yX12_strike : MethodName := ⟨RX12, "strike", "(I)I"⟩
abbrev cX12_sleepsAll : ByteArray := prog_14_method_62_code
def yX12_sleepsAll : MethodName := ⟨RX12, "sleepsAll", "(I)Z"⟩
abbrev cX12_enough : ByteArray := prog_14_method_63_code
def yX12_enough : MethodName := ⟨RX12, "enough", "(I)I"⟩
abbrev cX12_oneStop : ByteArray := prog_14_method_64_code
def yX12_oneStop : MethodName := ⟨RX12, "oneStop", "(III)I"⟩
abbrev cX12_way : ByteArray := prog_14_method_65_code
def yX12_way : MethodName := ⟨RX12, "way", "(II)I"⟩
abbrev cX12_laysWho : ByteArray := prog_14_method_66_code
def yX12_laysWho : MethodName := ⟨RX12, "laysWho", "(I)I"⟩
abbrev cX12_readsRow : ByteArray := prog_14_method_67_code
def yX12_readsRow : MethodName := ⟨RX12, "readsRow", "(II)Z"⟩
abbrev cX12_codesFor : ByteArray := prog_14_method_68_code
def yX12_codesFor : MethodName := ⟨RX12, "codesFor", "(II)I"⟩
abbrev cX12_roundBy : ByteArray := prog_14_method_69_code
def yX12_roundBy : MethodName := ⟨RX12, "roundBy", "(II)I"⟩
abbrev cX12_round : ByteArray := prog_14_method_70_code
def yX12_round : MethodName := ⟨RX12, "round", "(III)I"⟩
abbrev cX12_needFor : ByteArray := prog_14_method_71_code
def yX12_needFor : MethodName := ⟨RX12, "needFor", "(II)I"⟩
abbrev cX12_share : ByteArray := prog_14_method_72_code
def yX12_share : MethodName := ⟨RX12, "share", "(III)I"⟩
abbrev cX12_sleepful : ByteArray := prog_14_method_73_code
def yX12_sleepful : MethodName := ⟨RX12, "sleepful", "(III)I"⟩
abbrev cX12_laysReach : ByteArray := prog_14_method_74_code
def yX12_laysReach : MethodName := ⟨RX12, "laysReach", "()V"⟩
abbrev cX12_bestBy : ByteArray := prog_14_method_75_code
def yX12_bestBy : MethodName := ⟨RX12, "bestBy", "([I)I"⟩
abbrev cX12_pitAt : ByteArray := prog_14_method_76_code
def yX12_pitAt : MethodName := ⟨RX12, "pitAt", "(I)I"⟩
abbrev cX12_cut : ByteArray := prog_14_method_77_code
def yX12_cut : MethodName := ⟨RX12, "cut", "(I)I"⟩
abbrev cX12_spared : ByteArray := prog_14_method_78_code
def yX12_spared : MethodName := ⟨RX12, "spared", "(I)I"⟩
abbrev cX12_out : ByteArray := prog_14_method_79_code
def yX12_out : MethodName := ⟨RX12, "out", "(II)I"⟩
abbrev cX12_longestBy : ByteArray := prog_14_method_80_code
def yX12_longestBy : MethodName := ⟨RX12, "longestBy", "(III)I"⟩
abbrev cX12_jobs : ByteArray := prog_14_method_81_code
def yX12_jobs : MethodName := ⟨RX12, "jobs", "(III)I"⟩
abbrev cX12_load : ByteArray := prog_14_method_82_code
def yX12_load : MethodName := ⟨RX12, "load", "(III)I"⟩
abbrev cX12_missingBy : ByteArray := prog_14_method_83_code
def yX12_missingBy : MethodName := ⟨RX12, "missingBy", "(I)I"⟩
abbrev cX12_brides : ByteArray := prog_14_method_84_code
def yX12_brides : MethodName := ⟨RX12, "brides", "(II)I"⟩
abbrev cX12_thieves : ByteArray := prog_14_method_85_code
def yX12_thieves : MethodName := ⟨RX12, "thieves", "(III)I"⟩
abbrev cX12_latest : ByteArray := prog_14_method_86_code
def yX12_latest : MethodName := ⟨RX12, "latest", "(I)I"⟩
abbrev cX12_keep : ByteArray := prog_14_method_87_code
def yX12_keep : MethodName := ⟨RX12, "keep", "()I"⟩
abbrev cX12_undo : ByteArray := prog_14_method_88_code
def yX12_undo : MethodName := ⟨RX12, "undo", "()Z"⟩
abbrev cX12_check : ByteArray := prog_14_method_89_code
def yX12_check : MethodName := ⟨RX12, "check", "(I)I"⟩
abbrev cX12_roadMany : ByteArray := prog_14_method_90_code
def yX12_roadMany : MethodName := ⟨RX12, "roadMany", "()I"⟩
abbrev cX12_streetIs : ByteArray := prog_14_method_91_code
def yX12_streetIs : MethodName := ⟨RX12, "streetIs", "(II)I"⟩
abbrev cX12_count : ByteArray := prog_14_method_92_code
def yX12_count : MethodName := ⟨RX12, "count", "(I)I"⟩
def RJ11 : String := "java/lang/Character"
def TJ11 : u_T := fun k => match k with
  | _ => ("", "", "", false)
def tyJ11 : Nat → FieldType := fun k => match k with
  | _ => .int
abbrev wsJ110 : List Cond := u_ws RJ11 TJ11 0
theorem nmJ11 : ∀ a, a < 0 → ∀ b, b < 0 → a ≠ b → (TJ11 a).2.1 ≠ (TJ11 b).2.1 := by decide +kernel
theorem tyJ11_ok : ∀ k, k < 0 → parseFieldDescriptor (TJ11 k).2.2.1 = some (tyJ11 k) := by decide +kernel
abbrev cJ11_isValidCodePoint_9a6ad : ByteArray := prog_15_method_11_code
def yJ11_isValidCodePoint_9a6ad : MethodName := ⟨RJ11, "isValidCodePoint", "(I)Z"⟩
abbrev cJ11_highSurrogate_5068e : ByteArray := prog_15_method_28_code
def yJ11_highSurrogate_5068e : MethodName := ⟨RJ11, "highSurrogate", "(I)C"⟩
abbrev cJ11_lowSurrogate_5068e : ByteArray := prog_15_method_29_code
def yJ11_lowSurrogate_5068e : MethodName := ⟨RJ11, "lowSurrogate", "(I)C"⟩
def RJ6 : String := "java/lang/Integer"
def TJ6 : u_T := fun k => match k with
  | _ => ("", "", "", false)
def tyJ6 : Nat → FieldType := fun k => match k with
  | _ => .int
abbrev wsJ60 : List Cond := u_ws RJ6 TJ6 0
theorem nmJ6 : ∀ a, a < 0 → ∀ b, b < 0 → a ≠ b → (TJ6 a).2.1 ≠ (TJ6 b).2.1 := by decide +kernel
theorem tyJ6_ok : ∀ k, k < 0 → parseFieldDescriptor (TJ6 k).2.2.1 = some (tyJ6 k) := by decide +kernel
abbrev cJ6_bitCount_0f7a4 : ByteArray := prog_16_method_49_code
def yJ6_bitCount_0f7a4 : MethodName := ⟨RJ6, "bitCount", "(I)I"⟩
def RJ9 : String := "java/lang/Math"
def TJ9 : u_T := fun k => match k with
  | _ => ("", "", "", false)
def tyJ9 : Nat → FieldType := fun k => match k with
  | _ => .int
abbrev wsJ90 : List Cond := u_ws RJ9 TJ9 0
theorem nmJ9 : ∀ a, a < 0 → ∀ b, b < 0 → a ≠ b → (TJ9 a).2.1 ≠ (TJ9 b).2.1 := by decide +kernel
theorem tyJ9_ok : ∀ k, k < 0 → parseFieldDescriptor (TJ9 k).2.2.1 = some (tyJ9 k) := by decide +kernel
abbrev cJ9_max_7cf53 : ByteArray := prog_17_method_65_code
def yJ9_max_7cf53 : MethodName := ⟨RJ9, "max", "(II)I"⟩
abbrev cJ9_min_7cf53 : ByteArray := prog_17_method_69_code
def yJ9_min_7cf53 : MethodName := ⟨RJ9, "min", "(II)I"⟩
def RJ0 : String := "java/lang/String"
def TJ0 : u_T := fun k => match k with
  | _ => ("", "", "", false)
def tyJ0 : Nat → FieldType := fun k => match k with
  | _ => .int
abbrev wsJ00 : List Cond := u_ws RJ0 TJ0 0
theorem nmJ0 : ∀ a, a < 0 → ∀ b, b < 0 → a ≠ b → (TJ0 a).2.1 ≠ (TJ0 b).2.1 := by decide +kernel
theorem tyJ0_ok : ∀ k, k < 0 → parseFieldDescriptor (TJ0 k).2.2.1 = some (tyJ0 k) := by decide +kernel
abbrev cJ0_length_8abf5 : ByteArray := prog_18_method_54_code
def yJ0_length_8abf5 : MethodName := ⟨RJ0, "length", "()I"⟩
abbrev cJ0_indexOf_0f7a4 : ByteArray := prog_18_method_79_code
def yJ0_indexOf_0f7a4 : MethodName := ⟨RJ0, "indexOf", "(I)I"⟩
abbrev cJ0_indexOf_7cf53 : ByteArray := prog_18_method_80_code
def yJ0_indexOf_7cf53 : MethodName := ⟨RJ0, "indexOf", "(II)I"⟩
abbrev cJ0_coder_7d493 : ByteArray := prog_18_method_152_code
def yJ0_coder_7d493 : MethodName := ⟨RJ0, "coder", "()B"⟩
abbrev cJ0_isLatin1_aae02 : ByteArray := prog_18_method_154_code
def yJ0_isLatin1_aae02 : MethodName := ⟨RJ0, "isLatin1", "()Z"⟩
abbrev cJ0_checkBoundsBeginEnd_23922 : ByteArray := prog_18_method_158_code
def yJ0_checkBoundsBeginEnd_23922 : MethodName := ⟨RJ0, "checkBoundsBeginEnd", "(III)V"⟩
def RJ1 : String := "java/lang/StringLatin1"
def TJ1 : u_T := fun k => match k with
  | _ => ("", "", "", false)
def tyJ1 : Nat → FieldType := fun k => match k with
  | _ => .int
abbrev wsJ10 : List Cond := u_ws RJ1 TJ1 0
theorem nmJ1 : ∀ a, a < 0 → ∀ b, b < 0 → a ≠ b → (TJ1 a).2.1 ≠ (TJ1 b).2.1 := by decide +kernel
theorem tyJ1_ok : ∀ k, k < 0 → parseFieldDescriptor (TJ1 k).2.2.1 = some (tyJ1 k) := by decide +kernel
abbrev cJ1_canEncode_9a6ad : ByteArray := prog_19_method_4_code
def yJ1_canEncode_9a6ad : MethodName := ⟨RJ1, "canEncode", "(I)Z"⟩
abbrev cJ1_indexOf_4cfef : ByteArray := prog_19_method_22_code
def yJ1_indexOf_4cfef : MethodName := ⟨RJ1, "indexOf", "([BIII)I"⟩
abbrev cJ1_indexOfChar_4cfef : ByteArray := prog_19_method_23_code
def yJ1_indexOfChar_4cfef : MethodName := ⟨RJ1, "indexOfChar", "([BIII)I"⟩
def RJ2 : String := "java/lang/StringUTF16"
def TJ2 : u_T := fun k => match k with
  | _ => ("", "", "", false)
def tyJ2 : Nat → FieldType := fun k => match k with
  | _ => .int
abbrev wsJ20 : List Cond := u_ws RJ2 TJ2 0
theorem nmJ2 : ∀ a, a < 0 → ∀ b, b < 0 → a ≠ b → (TJ2 a).2.1 ≠ (TJ2 b).2.1 := by decide +kernel
theorem tyJ2_ok : ∀ k, k < 0 → parseFieldDescriptor (TJ2 k).2.2.1 = some (tyJ2 k) := by decide +kernel
abbrev cJ2_getChar_3b067 : ByteArray := prog_20_method_5_code
def yJ2_getChar_3b067 : MethodName := ⟨RJ2, "getChar", "([BI)C"⟩
abbrev cJ2_length_9d52b : ByteArray := prog_20_method_6_code
def yJ2_length_9d52b : MethodName := ⟨RJ2, "length", "([B)I"⟩
abbrev cJ2_indexOf_4cfef : ByteArray := prog_20_method_40_code
def yJ2_indexOf_4cfef : MethodName := ⟨RJ2, "indexOf", "([BIII)I"⟩
abbrev cJ2_indexOfChar_4cfef : ByteArray := prog_20_method_47_code
def yJ2_indexOfChar_4cfef : MethodName := ⟨RJ2, "indexOfChar", "([BIII)I"⟩
abbrev cJ2_indexOfCharUnsafe_4cfef : ByteArray := prog_20_method_48_code
def yJ2_indexOfCharUnsafe_4cfef : MethodName := ⟨RJ2, "indexOfCharUnsafe", "([BIII)I"⟩
abbrev cJ2_indexOfSupplementary_4cfef : ByteArray := prog_20_method_49_code
def yJ2_indexOfSupplementary_4cfef : MethodName := ⟨RJ2, "indexOfSupplementary", "([BIII)I"⟩
abbrev cJ2_checkBoundsBeginEnd_d044e : ByteArray := prog_20_method_93_code
def yJ2_checkBoundsBeginEnd_d044e : MethodName := ⟨RJ2, "checkBoundsBeginEnd", "(II[B)V"⟩
def RJ10 : String := "java/lang/System"
def TJ10 : u_T := fun k => match k with
  | _ => ("", "", "", false)
def tyJ10 : Nat → FieldType := fun k => match k with
  | _ => .int
abbrev wsJ100 : List Cond := u_ws RJ10 TJ10 0
theorem nmJ10 : ∀ a, a < 0 → ∀ b, b < 0 → a ≠ b → (TJ10 a).2.1 ≠ (TJ10 b).2.1 := by decide +kernel
theorem tyJ10_ok : ∀ k, k < 0 → parseFieldDescriptor (TJ10 k).2.2.1 = some (tyJ10 k) := by decide +kernel
def RJ3 : String := "jdk/internal/util/Preconditions"
def TJ3 : u_T := fun k => match k with
  | _ => ("", "", "", false)
def tyJ3 : Nat → FieldType := fun k => match k with
  | _ => .int
abbrev wsJ30 : List Cond := u_ws RJ3 TJ3 0
theorem nmJ3 : ∀ a, a < 0 → ∀ b, b < 0 → a ≠ b → (TJ3 a).2.1 ≠ (TJ3 b).2.1 := by decide +kernel
theorem tyJ3_ok : ∀ k, k < 0 → parseFieldDescriptor (TJ3 k).2.2.1 = some (tyJ3 k) := by decide +kernel
abbrev cJ3_checkFromToIndex_8c36e : ByteArray := prog_22_method_12_code
def yJ3_checkFromToIndex_8c36e : MethodName := ⟨RJ3, "checkFromToIndex", "(IIILjava/util/function/BiFunction;)I"⟩
def RL : String := "NightCartsLaw"
abbrev cL_law : ByteArray := code
def yL_law : MethodName := ⟨RL, "law", "([I)Z"⟩
abbrev vwCl : List vw_C := [(RX0, TX0, 5), (RX1, TX1, 13), (RX2, TX2, 12), (RX3, TX3, 1), (RX4, TX4, 6), (RX5, TX5, 16), (RX6, TX6, 7), (RX7, TX7, 4), (RX8, TX8, 5), (RX9, TX9, 9), (RX10, TX10, 6), (RX11, TX11, 12), (RX12, TX12, 59)]
end
section
/-! THE PURE MACHINE'S WORDS: numbers are Int (in range), a reference is a number of a cell plus one (0: null), the heap a function of cell and place -/
abbrev PV : Type := Int ⊕ Nat
abbrev Hp : Type := Nat → Nat → Int
abbrev Dsc : Type := (Nat × List Nat) ⊕ (Nat × Nat)
abbrev Mth : Type := MethodName × ByteArray × Nat × Option FieldType
def w32 (x : Int) : Int := x.bmod 4294967296
def inR (x : Int) : Prop := -2147483648 ≤ x ∧ x < 2147483648
theorem inR_w (x : Int) : inR (w32 x) := by
  unfold inR w32
  have h1 := Int.le_bmod (x := x) (m := 4294967296) (by omega)
  have h2 := Int.bmod_lt (x := x) (m := 4294967296) (by omega)
  omega
theorem w32_id {x : Int} (h : -2147483648 ≤ x ∧ x < 2147483648) : w32 x = x := Int.bmod_eq_of_le (by omega) (by omega)
theorem ofw (x : Int) : Int32.ofInt (w32 x) = Int32.ofInt x := Int32.toInt_inj.1 (by simp [w32])
theorem toR {x : Int} (h : inR x) : (Int32.ofInt x).toInt = x := Int32.toInt_ofInt_of_le h.1 h.2
theorem inR_t (x : Int32) : inR x.toInt := ⟨x.le_toInt, x.toInt_lt⟩
theorem lt_of {x y : Int} (hx : inR x) (hy : inR y) : (Int32.ofInt x < Int32.ofInt y) ↔ x < y := by rw [Int32.lt_iff_toInt_lt, toR hx, toR hy]
theorem le_of {x y : Int} (hx : inR x) (hy : inR y) : (Int32.ofInt x ≤ Int32.ofInt y) ↔ x ≤ y := by rw [Int32.le_iff_toInt_le, toR hx, toR hy]
theorem eq_of {x y : Int} (hx : inR x) (hy : inR y) : (Int32.ofInt x = Int32.ofInt y) ↔ x = y := by rw [← Int32.toInt_inj, toR hx, toR hy]
theorem inR_0 : inR 0 := ⟨by decide, by decide⟩
theorem of0 : Int32.ofInt 0 = 0 := rfl
theorem cl_of {x : Int} (h : inR x) : (Int32.ofInt x).toNatClampNeg = x.toNat := Int32.toNatClampNeg_ofInt_of_le h.1 h.2
theorem vp_of {i : Int} {n : Nat} (h : inR i) (h0 : 0 ≤ i ∧ i < n) : vp_in (Int32.ofInt i) n := by rw [vp_in_iff, toR h]; exact h0
/-- bits, as the machine has them -/
def iand (x y : Int) : Int := (Int32.ofInt x &&& Int32.ofInt y).toInt
def ior (x y : Int) : Int := (Int32.ofInt x ||| Int32.ofInt y).toInt
def ixor (x y : Int) : Int := (Int32.ofInt x ^^^ Int32.ofInt y).toInt
def ishl (x y : Int) : Int := (Int32.ofInt x <<< (Int32.ofInt y &&& 31)).toInt
def ishr (x y : Int) : Int := (Int32.ofInt x >>> (Int32.ofInt y &&& 31)).toInt
def iushr (x y : Int) : Int := ((Int32.ofInt x).toUInt32 >>> ((Int32.ofInt y).toUInt32 &&& Int32.toUInt32 31)).toInt32.toInt
def i2b (x : Int) : Int := (Int32.ofInt x).toInt8.toInt32.toInt
def i2c (x : Int) : Int := ((Int32.ofInt x).toUInt32 % 65536).toInt32.toInt
def idiv (x y : Int) : Int := (Int32.ofInt x / Int32.ofInt y).toInt
def irem (x y : Int) : Int := (Int32.ofInt x - Int32.ofInt x / Int32.ofInt y * Int32.ofInt y).toInt
/-- references and values at the base b -/
def cR (b r : Nat) : Option Nat := if r = 0 then none else some (b + (r - 1))
def cV (b : Nat) : PV → Value
  | .inl x => .int (Int32.ofInt x)
  | .inr r => va_rf (cR b r)
def okV : PV → Prop
  | .inl x => inR x
  | .inr r => r ≤ 1000
def okH (h : Hp) : Prop := ∀ c j, inR (h c j)
theorem cV_cat (b : Nat) (v : PV) : (cV b v).category = 1 := by
  cases v with
  | inl x => rfl
  | inr r =>
    show (va_rf (cR b r)).category = 1
    unfold cR
    split <;> rfl
theorem cV_s (b c : Nat) : cV b (.inr (c + 1)) = .ref (b + c) := by simp [cV, cR, va_rf]
theorem cV_0 (b : Nat) : cV b (.inr 0) = .null := by simp [cV, cR, va_rf]
/-- the fields' kinds: by class -/
def nF : Nat → Nat
  | 0 => 5 | 1 => 13 | 2 => 12 | 3 => 1 | 4 => 6 | 5 => 16 | 6 => 7 | 7 => 4 | 8 => 5 | 9 => 9 | 10 => 6 | 11 => 12 | _ => 59
def tyF : Nat → Nat → FieldType
  | 0 => tyX0 | 1 => tyX1 | 2 => tyX2 | 3 => tyX3 | 4 => tyX4 | 5 => tyX5 | 6 => tyX6 | 7 => tyX7 | 8 => tyX8 | 9 => tyX9 | 10 => tyX10 | 11 => tyX11 | _ => tyX12
def fV (b : Nat) (ty : FieldType) (x : Int) (r : Nat) : Value := match ty with
  | .int => .int (Int32.ofInt x)
  | .boolean => .int (Int32.ofInt x)
  | _ => va_rf (cR b r)
def cE (b : Nat) (cA : Nat → ClassId) (d : Dsc) (f : Nat → Int) : va_E := match d with
  | .inl (ci, rs) => .inr (ci, (List.range (nF ci)).map fun j => fV b (tyF ci j) (f j) (rs.getD j 0))
  | .inr (3, n) => .inl (cA 3, n, .inr (.inr (.inr (.inr fun j => cR b (f j).toNat))))
  | .inr (k, n) => .inl (cA k, n, .inl fun j => Int32.ofInt (f j))
def wd (b : Nat) (cA : Nat → ClassId) (lay : List Dsc) (h : Hp) : va_W := (List.range lay.length).map fun c => (b + c, cE b cA (lay.getD c (.inr (0, 0))) (h c))
theorem wd_get {b : Nat} {cA : Nat → ClassId} {lay : List Dsc} {h : Hp} {c : Nat} {d : Dsc} (hd : lay[c]? = some d) : (wd b cA lay h)[c]? = some (b + c, cE b cA d (h c)) := by
  obtain ⟨hl, he⟩ := List.getElem?_eq_some_iff.mp hd
  simp [wd, hl, List.getD, hd, he]
def hS1 (h : Hp) (c : Nat) (f : Nat → Int) : Hp := fun c' => if c' = c then f else h c'
def hw (h : Hp) (c j : Nat) (v : Int) : Hp := fun c' j' => if c' = c ∧ j' = j then v else h c' j'
theorem wd_set {b : Nat} {cA : Nat → ClassId} {lay : List Dsc} {h : Hp} {c : Nat} {d : Dsc} (hd : lay[c]? = some d) {f : Nat → Int} {e : va_E} (he : e = cE b cA d f) : (wd b cA lay h).set c (b + c, e) = wd b cA lay (hS1 h c f) := by
  subst he
  obtain ⟨hl, he⟩ := List.getElem?_eq_some_iff.mp hd
  apply List.ext_getElem?
  intro k
  by_cases hk : k = c
  · subst hk
    rw [List.getElem?_set_self (by simp [wd, hl]), wd_get hd]
    simp [hS1]
  · rw [List.getElem?_set_ne (Ne.symm hk)]
    by_cases hkl : k < lay.length
    · rw [wd_get (List.getElem?_eq_getElem hkl), wd_get (List.getElem?_eq_getElem hkl)]
      simp [hS1, hk]
    · rw [List.getElem?_eq_none (by simp [wd]; omega), List.getElem?_eq_none (by simp [wd]; omega)]
theorem wd_D {b : Nat} {cA : Nat → ClassId} {lay : List Dsc} {h : Hp} : va_D (fun q => b ≤ q) (wd b cA lay h) := by
  have key : ∀ (k : Nat) (q : Nat × va_E), (wd b cA lay h)[k]? = some q → q.1 = b + k := by
    intro k q hk
    by_cases hkl : k < lay.length
    · rw [wd_get (List.getElem?_eq_getElem hkl)] at hk
      cases hk; rfl
    · rw [List.getElem?_eq_none (by simp [wd]; omega)] at hk
      cases hk
  refine ⟨fun i j x y hi hj hxy => ?_, fun k q hk => ?_⟩
  · have h1 := key i x hi
    have h2 := key j y hj
    omega
  · rw [key k q hk]; omega
theorem hw_S1 (h : Hp) (c j : Nat) (v : Int) : hw h c j v = hS1 h c (fun j' => if j' = j then v else h c j') := by
  funext c' j'
  by_cases h1 : c' = c
  · subst h1; simp [hw, hS1]
  · simp [hw, hS1, h1]
theorem okH_w {h : Hp} {c j : Nat} {v : Int} (hh : okH h) (hv : inR v) : okH (hw h c j v) := by
  intro c' j'
  unfold hw
  split
  · exact hv
  · exact hh c' j'
end
section
/-- the cells behind both constructors: by program -/
def L0 : List Dsc := [
  .inl (11, [42, 2, 8, 12, 44, 21, 54, 58, 66, 70, 74, 79]),
  .inl (1, [3, 4, 5, 6, 0, 0, 0, 0, 7, 0, 0, 0, 0]),
  .inr (0, 14),
  .inr (0, 14),
  .inr (0, 14),
  .inr (0, 14),
  .inr (0, 14),
  .inl (7, [9, 10, 11, 0]),
  .inr (0, 196),
  .inr (0, 196),
  .inr (0, 196),
  .inl (2, [13, 14, 15, 16, 0, 17, 18, 0, 19, 20, 0, 0]),
  .inr (0, 16),
  .inr (0, 16),
  .inr (0, 16),
  .inr (0, 16),
  .inr (0, 240),
  .inr (0, 240),
  .inr (0, 8),
  .inr (0, 64),
  .inr (3, 5),
  .inl (0, [23, 24, 25, 0, 0]),
  .inr (0, 16),
  .inr (0, 16),
  .inr (2, 16),
  .inl (0, [27, 28, 29, 0, 0]),
  .inr (0, 16),
  .inr (0, 16),
  .inr (2, 16),
  .inl (0, [31, 32, 33, 0, 0]),
  .inr (0, 16),
  .inr (0, 16),
  .inr (2, 16),
  .inl (0, [35, 36, 37, 0, 0]),
  .inr (0, 16),
  .inr (0, 16),
  .inr (2, 16),
  .inl (0, [39, 40, 41, 0, 0]),
  .inr (0, 16),
  .inr (0, 16),
  .inr (2, 16),
  .inl (10, [43, 0, 0, 0, 0, 0]),
  .inr (0, 260),
  .inl (3, [45]),
  .inl (2, [46, 47, 48, 49, 0, 50, 51, 0, 52, 53, 0, 0]),
  .inr (0, 16),
  .inr (0, 16),
  .inr (0, 16),
  .inr (0, 16),
  .inr (0, 240),
  .inr (0, 240),
  .inr (0, 8),
  .inr (0, 64),
  .inl (0, [55, 56, 57, 0, 0]),
  .inr (0, 16),
  .inr (0, 16),
  .inr (2, 16),
  .inl (5, [2, 8, 12, 59, 60, 61, 62, 63, 64, 65, 0, 0, 0, 0, 0, 0]),
  .inr (0, 14),
  .inr (3, 5),
  .inr (0, 5),
  .inr (0, 5),
  .inr (0, 5),
  .inr (0, 5),
  .inr (0, 5),
  .inl (8, [8, 67, 68, 69, 0]),
  .inr (0, 8),
  .inr (0, 1024),
  .inr (0, 7),
  .inl (9, [2, 71, 72, 73, 0, 0, 0, 0, 0]),
  .inr (0, 8),
  .inr (0, 8),
  .inr (0, 14),
  .inl (6, [75, 76, 77, 78, 0, 0, 0]),
  .inr (0, 8),
  .inr (0, 8),
  .inr (0, 8),
  .inr (0, 3),
  .inl (4, [80, 81, 82, 83, 0, 0]),
  .inr (0, 6),
  .inr (0, 6),
  .inr (0, 6),
  .inr (0, 6),
  .inl (12, [85, 86, 87, 88, 89, 90, 91, 92, 93, 94, 95, 96, 0, 0, 97, 0, 0, 0, 0, 0, 0, 0, 0, 0, 0, 98, 99, 100, 101, 102, 103, 104, 105, 106, 107, 108, 109, 110, 111, 112, 113, 0, 114, 115, 116, 117, 118, 0, 0, 0, 0, 0, 119, 120, 121, 122, 123, 124, 0]),
  .inr (0, 17),
  .inr (0, 17),
  .inr (0, 17),
  .inr (0, 14),
  .inr (0, 14),
  .inr (0, 14),
  .inr (0, 196),
  .inr (0, 196),
  .inr (0, 5),
  .inr (0, 5),
  .inr (0, 80),
  .inr (0, 80),
  .inr (1, 260),
  .inr (0, 260),
  .inr (0, 260),
  .inr (0, 16),
  .inr (0, 16),
  .inr (0, 16),
  .inr (0, 16),
  .inr (0, 260),
  .inr (0, 16),
  .inr (0, 16),
  .inr (0, 16),
  .inr (0, 16),
  .inr (0, 260),
  .inr (0, 8),
  .inr (0, 196),
  .inr (0, 16),
  .inr (0, 16),
  .inr (0, 5),
  .inr (0, 5),
  .inr (0, 5),
  .inr (0, 5),
  .inr (0, 5),
  .inr (0, 8),
  .inr (0, 8),
  .inr (0, 14),
  .inr (0, 14),
  .inr (0, 14),
  .inr (0, 3)]
abbrev tysA (cA : Nat → ClassId) : List (ClassId × FieldType) := [(cA 0, .int), (cA 1, .byte), (cA 2, .boolean), (cA 3, .object "NightCarts$Cart")]
def WS : List Cond := lw_tbl.filter goodWord
def isNest : Cond → Bool
  | .methodLinkNest _ _ _ _ => true
  | _ => false
def NW : List Cond := lw_tbl.filter isNest
theorem inWS {w : Cond} (i : Nat) (h : lw_tbl[i]? = some w) (hg : goodWord w = true) : w ∈ WS := List.mem_filter.mpr ⟨List.mem_of_getElem? h, hg⟩
theorem inNW {w : Cond} (i : Nat) (h : lw_tbl[i]? = some w) (hg : isNest w = true) : w ∈ NW := List.mem_filter.mpr ⟨List.mem_of_getElem? h, hg⟩
theorem WS_good : ∀ w ∈ WS, (w.onTables && w.keeps) = true ∨ ∃ ty, w = .arrayClass ty := fun w hw => good_of_word (List.mem_filter.mp hw).2
def Tab (by_ : ByteArray) (l : List (Nat × Instr × Nat)) : Prop := ∀ (k pc : Nat) (i : Instr) (n : Nat), l[k]? = some (pc, i, n) → decode by_ pc = .ok (i, n)
theorem Tab.of {by_ : ByteArray} {l : List (Nat × Instr × Nat)} (h : (l.all fun q => decide (decode by_ q.1 = .ok (q.2.1, q.2.2))) = true) : Tab by_ l := by
  intro k pc i n hk
  have h1 := List.all_eq_true.mp h _ (List.mem_of_getElem? hk)
  exact of_decide_eq_true h1
end
section
/-- the heap holds the pure one, at the base b -/
def Rp (D : va_G) (cA : Nat → ClassId) (b : Nat) (h : Hp) (H : Heap) : Prop := va_P D vwCl (wd b cA L0 h) H
/-- the locals hold the pure ones -/
def LH (b n : Nat) (ls : Array Slot) (loc : List (Option PV)) : Prop := ls.size = n ∧ lv_wf ls ∧ loc.length = n ∧ ∀ (i : Nat) (v : PV), loc[i]? = some (some v) → ls[i]? = some (.val (cV b v)) ∧ okV v
def okS (st : List PV) : Prop := ∀ v ∈ st, okV v
def okO (r : Option PV) : Prop := ∀ v, r = some v → okV v
/-- what holds in a frame of method M, d frames deep at most -/
def Cx (M : Mth) (d : Nat) (p : Program) (R : Room) (s : State) (m : MethodId) (args : Array Value) (meth : Method) (c : Code) (b : Nat) (D : va_G) (cA : Nat → ClassId) (k z : Nat) : Prop :=
  p.tables.exec = Jvm.exec ∧ c.code = M.2.1 ∧ meth.sig.returnType = M.2.2.2 ∧ c.maxLocals = M.2.2.1 ∧ s.vm.findClass M.1.cls = some m.cls ∧ (∀ w ∈ WS, w.before args s = true) ∧ meth.locks = false ∧ va_K D vwCl (tysA cA) s ∧ (∀ w ∈ NW, va_Nw w s) ∧ d ≤ R.frames ∧ 64 * d ≤ R.locals ∧ k ≤ R.cells ∧ z ≤ R.slots
/-- an answer that the method's kind of return can give -/
def retOK (ret : Option FieldType) (i : Instr) (r : Option PV) : Prop :=
  (i = .ireturn ∧ ret = some .int ∧ ∃ x, r = some (.inl x)) ∨ (i = .ireturn ∧ ret = some .boolean ∧ (r = some (.inl 0) ∨ r = some (.inl 1))) ∨ (i = .areturn ∧ (∃ n, ret = some (.object n)) ∧ ∃ x, r = some (.inr x)) ∨ (i = .return_ ∧ ret = none ∧ r = none)
def FinR (M : Mth) (p : Program) (l : Launch) (e : Env) (R : Room) (s : State) (m : MethodId) (args : Array Value) (below : List Frame) (meth : Method) (c : Code) (b : Nat) (D : va_G) (cA : Nat → ClassId) (k z : Nat) (Q : Option PV → Hp → Prop) (Z : State → Prop) : Prop :=
  ∀ (r : Option PV) (h : Hp) (H : Heap) (locs : List Loc) (ls : Array Slot) (pc : Nat) (i : Instr), decode M.2.1 pc = .ok (i, 1) → retOK M.2.2.2 i r → Q r h → okH h → okO r → Rp D cA b h H → va_S (fun q => b ≤ q) s.heap H locs → W p l e R s m args below meth c H locs k z Z (F0 m pc ls (r.toList.map (cV b)))
/-- from this place on the method comes to its end with Q -/
def Go (M : Mth) (d pc : Nat) (loc : List (Option PV)) (st : List PV) (h : Hp) (Q : Option PV → Hp → Prop) : Prop :=
  ∀ (p : Program) (l : Launch) (e : Env) (R : Room) (s : State) (m : MethodId) (args : Array Value) (below : List Frame) (meth : Method) (c : Code) (b : Nat) (D : va_G) (cA : Nat → ClassId) (k z : Nat) (H : Heap) (locs : List Loc) (ls : Array Slot) (Z : State → Prop),
    Cx M d p R s m args meth c b D cA k z → Rp D cA b h H → va_S (fun q => b ≤ q) s.heap H locs → LH b M.2.2.1 ls loc → okS st → okH h → FinR M p l e R s m args below meth c b D cA k z Q Z →
    W p l e R s m args below meth c H locs k z Z (F0 m pc ls (st.map (cV b)))
def Wd (D : va_G) (cA : Nat → ClassId) (b : Nat) (h : Hp) (U : State) : Prop := Rp D cA b h U.heap ∧ va_K D vwCl (tysA cA) U ∧ ∀ w ∈ NW, va_Nw w U
def Qg (D : va_G) (cA : Nat → ClassId) (b : Nat) (Q : Option PV → Hp → Prop) : Array Value → State → Outcome → State → Prop := fun _ st oc t =>
  (∃ (r : Option PV) (h : Hp), oc = .returned (r.map (cV b)) ∧ Q r h ∧ okH h ∧ okO r ∧ Rp D cA b h t.heap) ∧ va_F (fun q => b ≤ q) st t
abbrev rmD (d : Nat) : Room := { frames := d, cells := 0, slots := 0, locals := 64 * d }
abbrev wsM (M : Mth) : List Cond := Cond.code M.1 M.2.1 M.2.2.1 M.2.2.2 :: WS
/-- a method's contract: from the arguments av and the heap h it comes to Q -/
def Runs (M : Mth) (d : Nat) (av : List PV) (h : Hp) (Q : Option PV → Hp → Prop) : Prop :=
  ∀ (l : Launch) (D : va_G) (cA : Nat → ClassId) (b : Nat), okH h → okS av → Met l M.1 (wsM M) (rmD d) (va_Pc (av.map (cV b)) (Wd D cA b h)) (Qg D cA b Q) 0 0 (fun q => b ≤ q)
theorem LH.at {b n : Nat} {ls : Array Slot} {loc : List (Option PV)} (h : LH b n ls loc) {i : Nat} {v : PV} (hi : loc[i]? = some (some v)) : ls[i]? = some (.val (cV b v)) ∧ okV v := h.2.2.2 i v hi
/-- the list that the kit's rows speak of -/
def lvL (b : Nat) (loc : List (Option PV)) : List (Nat × Value) := (List.range loc.length).filterMap fun i => (loc.getD i none).map fun v => (i, cV b v)
theorem lvL_mem {b : Nat} {loc : List (Option PV)} {q : Nat × Value} : q ∈ lvL b loc ↔ ∃ v, loc[q.1]? = some (some v) ∧ q.2 = cV b v := by
  simp only [lvL, List.mem_filterMap, List.mem_range, Option.map_eq_some_iff]
  constructor
  · rintro ⟨i, hi, v, hv, rfl⟩
    refine ⟨v, ?_, rfl⟩
    simp only [List.getD_eq_getElem?_getD] at hv
    rw [List.getElem?_eq_getElem hi] at hv ⊢
    simpa using hv
  · rintro ⟨v, hv, h2⟩
    obtain ⟨hl, he⟩ := List.getElem?_eq_some_iff.mp hv
    refine ⟨q.1, hl, v, ?_, ?_⟩
    · simp [List.getD_eq_getElem?_getD, hv]
    · rw [← h2]
theorem LH.has {b n : Nat} {ls : Array Slot} {loc : List (Option PV)} (h : LH b n ls loc) : lv_has ls n (lvL b loc) := by
  refine ⟨h.1, h.2.1, fun q hq => ?_⟩
  obtain ⟨v, h1, h2⟩ := lvL_mem.mp hq
  rw [h2]
  exact (h.2.2.2 _ _ h1).1
theorem LH.store {b n i : Nat} {ls ls' : Array Slot} {loc : List (Option PV)} {v : PV} (h : LH b n ls loc) (hi : i < n) (hv : okV v) (h2 : lv_has ls' n ((i, cV b v) :: (lvL b loc).filter (fun q => !(q.1 == i) && !(q.1 + 1 == i && q.2.category == 2)))) : LH b n ls' (loc.set i (some v)) := by
  refine ⟨h2.1, h2.2.1, by rw [List.length_set]; exact h.2.2.1, fun j w hj => ?_⟩
  by_cases hji : j = i
  · subst hji
    rw [List.getElem?_set_self (by rw [h.2.2.1]; exact hi)] at hj
    cases hj
    exact ⟨h2.2.2 (j, cV b v) List.mem_cons_self, hv⟩
  · rw [List.getElem?_set_ne (Ne.symm hji)] at hj
    refine ⟨h2.2.2 (j, cV b w) (List.mem_cons_of_mem _ (List.mem_filter.mpr ⟨lvL_mem.mpr ⟨w, hj, rfl⟩, ?_⟩)), (h.2.2.2 j w hj).2⟩
    simp [hji, cV_cat]
theorem sl_len (b : Nat) (av : List PV) : (lg_sl (av.map (cV b))).length = av.length := by
  induction av with
  | nil => rfl
  | cons v t ih =>
    have h : lg_sl ((v :: t).map (cV b)) = Slot.val (cV b v) :: lg_sl (t.map (cV b)) := by
      simp only [lg_sl, List.map_cons, List.flatMap_cons, cV_cat]
      rfl
    rw [h, List.length_cons, ih, List.length_cons]
theorem args_mem (b : Nat) : ∀ (av : List PV) (n i : Nat) (v : PV), av[i]? = some v → (n + i, cV b v) ∈ lv_args n (av.map (cV b))
  | [], n, i, v, h => by simp at h
  | w :: t, n, i, v, h => by
    have hc : ¬ (cV b w).category = 2 := by rw [cV_cat]; decide
    rw [List.map_cons, lv_args, if_neg hc]
    cases i with
    | zero =>
      rw [List.getElem?_cons_zero] at h
      cases h
      exact List.mem_cons_self
    | succ i =>
      rw [List.getElem?_cons_succ] at h
      have := args_mem b t (n + 1) i v h
      rw [show n + 1 + i = n + (i + 1) by omega] at this
      exact List.mem_cons_of_mem _ this
theorem nar01 {x : Int} (h : x = 0 ∨ x = 1) : narrow .boolean (.int (Int32.ofInt x)) = .int (Int32.ofInt x) := by
  rcases h with rfl | rfl <;> rfl
/-- a method out of a walk of its body -/
theorem Runs.of {M : Mth} {d : Nat} {av : List PV} {h : Hp} {Q : Option PV → Hp → Prop} (hy : plainName M.1.cls = true) (hn : av.length ≤ M.2.2.1) (hg : Go M d 0 (av.map some ++ List.replicate (M.2.2.1 - av.length) none) [] h Q) : Runs M d av h Q := by
  intro l D cA b hh hav
  refine Met.ofW (cc := M.2.1) (maxL := M.2.2.1) (ret := M.2.2.2) hy rfl ?_
  intro p e s m args below meth c s₁ B hml hv
  obtain ⟨rfl, hP, hK, hN⟩ := hv
  have hts := atoms_spec (ws := wsM M) B.pre
  have hown : s.vm.findClass M.1.cls = some m.cls := findClass_of_methodNamed B.named
  have hcx : Cx M d p (headSpec (wsM M) (rmD d)).room s m (av.map (cV b)).toArray meth c b D cA 0 0 := ⟨B.exec, B.bytes, B.returns, hml, hown, fun w hw => hts w (List.mem_cons_of_mem _ hw), B.notSynchronized, hK, hN, Nat.le_refl _, Nat.le_refl _, Nat.le_refl _, Nat.le_refl _⟩
  have hl := lv_entry (av.map (cV b)) (n := M.2.2.1) (by rw [sl_len]; exact hn)
  rw [lg_entry_eq]
  generalize (lg_sl (av.map (cV b)) ++ List.replicate (M.2.2.1 - (lg_sl (av.map (cV b))).length) Slot.unset).toArray = ls at hl ⊢
  have hLH : LH b M.2.2.1 ls (av.map some ++ List.replicate (M.2.2.1 - av.length) none) := by
    refine ⟨hl.1, hl.2.1, by simp; omega, fun i v hi => ?_⟩
    by_cases hlt : i < av.length
    · rw [List.getElem?_append_left (by simpa using hlt), List.getElem?_map] at hi
      have hv : av[i]? = some v := by
        cases ha : av[i]? with
        | none => rw [ha] at hi; cases hi
        | some w => rw [ha] at hi; simpa using hi
      refine ⟨hl.2.2 (i, cV b v) ?_, hav v (List.mem_of_getElem? hv)⟩
      have := args_mem b av 0 i v hv
      rwa [Nat.zero_add] at this
    · rw [List.getElem?_append_right (by simpa using Nat.le_of_not_lt hlt)] at hi
      have := List.eq_of_mem_replicate (List.mem_of_getElem? hi)
      cases this
  refine hg p l e _ s m _ below meth c b D cA 0 0 s.heap [] ls _ hcx hP va_S.rf hLH (fun v hv => by cases hv) hh ?_
  intro r h' H locs ls' pc i hd hr hq hh' hor hR hS
  have hf : ∀ q ∈ locs, (fun q => b ≤ q) q.base := hS.2.2
  have hQ : ∀ t : State, t.heap = H → s.WarmedH t.vm → Qg D cA b Q (av.map (cV b)).toArray s (.returned (r.map (cV b))) t := fun t ht _ => ⟨⟨r, h', rfl, hq, hh', hor, by rw [ht]; exact hR⟩, hS.F ht⟩
  rcases hr with ⟨rfl, hret, x, rfl⟩ | ⟨rfl, hret, hx⟩ | ⟨rfl, ⟨n, hret⟩, x, rfl⟩ | ⟨rfl, hret, rfl⟩
  · exact W.iret B.exec B.bytes (B.returns.trans hret) hQ hf hd B.notSynchronized
  · rcases hx with rfl | rfl
    · exact W.zret B.exec B.bytes (B.returns.trans hret) (nar01 (Or.inl rfl)) hQ hf hd B.notSynchronized
    · exact W.zret B.exec B.bytes (B.returns.trans hret) (nar01 (Or.inr rfl)) hQ hf hd B.notSynchronized
  · refine W.aret B.exec B.bytes (B.returns.trans hret) (Or.inl ⟨n, rfl⟩) ?_ hQ hf hd B.notSynchronized
    show va_rf (cR b x) = .null ∨ ∃ a, va_rf (cR b x) = .ref a
    cases cR b x with
    | none => exact Or.inl rfl
    | some a => exact Or.inr ⟨a, rfl⟩
  · exact W.vret B.exec B.bytes (B.returns.trans hret) hQ hf hd B.notSynchronized
end
section
/-! THE ROWS: an instruction, a row; the goal first -/
section ROWS
variable {M : Mth} {d pc : Nat} {loc : List (Option PV)} {st : List PV} {h : Hp} {Q : Option PV → Hp → Prop}
theorem okS.tl {v : PV} {st : List PV} (h : okS (v :: st)) : okS st := fun w hw => h w (List.mem_cons_of_mem _ hw)
theorem okS.hd {v : PV} {st : List PV} (h : okS (v :: st)) : okV v := h v List.mem_cons_self
theorem okS.cons {v : PV} {st : List PV} (h : okS st) (hv : okV v) : okS (v :: st) := fun w hw => by
  rcases List.mem_cons.mp hw with rfl | hw
  · exact hv
  · exact h w hw
theorem g_iconst {n : Int} (hdg : decode M.2.1 pc = .ok (.iconst n, 1)) (hn : inR n) (k : Go M d (pc + 1) loc (.inl n :: st) h Q) : Go M d pc loc st h Q := by
  intro p l e R s m args below meth c b D cA k0 z H locs ls Z hcx hR hS hL hs hh hF
  exact lv_iconst hcx.1 hcx.2.1 hdg rfl (k p l e R s m args below meth c b D cA k0 z H locs ls Z hcx hR hS hL (hs.cons hn) hh hF)
theorem bi_of {n : Int} (hn : -128 ≤ n ∧ n < 128) : (Int8.ofInt n).toInt32 = Int32.ofInt n := Int32.toInt_inj.1 (by
  rw [Int8.toInt_toInt32, Int8.toInt_ofInt_of_le hn.1 hn.2, toR ⟨by omega, by omega⟩])
theorem si_of {n : Int} (hn : -32768 ≤ n ∧ n < 32768) : (Int16.ofInt n).toInt32 = Int32.ofInt n := Int32.toInt_inj.1 (by
  rw [Int16.toInt_toInt32, Int16.toInt_ofInt_of_le hn.1 hn.2, toR ⟨by omega, by omega⟩])
theorem g_bipush {n : Int} (hdg : decode M.2.1 pc = .ok (.bipush n, 2)) (hn : -128 ≤ n ∧ n < 128) (k : Go M d (pc + 2) loc (.inl n :: st) h Q) : Go M d pc loc st h Q := by
  intro p l e R s m args below meth c b D cA k0 z H locs ls Z hcx hR hS hL hs hh hF
  exact lv_bipush hcx.1 hcx.2.1 hdg (bi_of hn) (k p l e R s m args below meth c b D cA k0 z H locs ls Z hcx hR hS hL (hs.cons ⟨by omega, by omega⟩) hh hF)
theorem g_sipush {n : Int} (hdg : decode M.2.1 pc = .ok (.sipush n, 3)) (hn : -32768 ≤ n ∧ n < 32768) (k : Go M d (pc + 3) loc (.inl n :: st) h Q) : Go M d pc loc st h Q := by
  intro p l e R s m args below meth c b D cA k0 z H locs ls Z hcx hR hS hL hs hh hF
  exact lv_sipush hcx.1 hcx.2.1 hdg (si_of hn) (k p l e R s m args below meth c b D cA k0 z H locs ls Z hcx hR hS hL (hs.cons ⟨by omega, by omega⟩) hh hF)
theorem g_ldc {n : Int} {i : Nat} (hdg : decode M.2.1 pc = .ok (.ldc i, 2)) (hc : Cond.constant M.1.cls i (Int32.ofInt n) ∈ WS) (hn : inR n) (k : Go M d (pc + 2) loc (.inl n :: st) h Q) : Go M d pc loc st h Q := by
  intro p l e R s m args below meth c b D cA k0 z H locs ls Z hcx hR hS hL hs hh hF
  exact lv_ldc hcx.1 hcx.2.1 hcx.2.2.2.2.1 (hcx.2.2.2.2.2.1 _ hc) hdg (k p l e R s m args below meth c b D cA k0 z H locs ls Z hcx hR hS hL (hs.cons hn) hh hF)
theorem g_ldcw {n : Int} {i : Nat} (hdg : decode M.2.1 pc = .ok (.ldc_w i, 3)) (hc : Cond.constant M.1.cls i (Int32.ofInt n) ∈ WS) (hn : inR n) (k : Go M d (pc + 3) loc (.inl n :: st) h Q) : Go M d pc loc st h Q := by
  intro p l e R s m args below meth c b D cA k0 z H locs ls Z hcx hR hS hL hs hh hF
  exact lv_ldcw hcx.1 hcx.2.1 hcx.2.2.2.2.1 (hcx.2.2.2.2.2.1 _ hc) hdg (k p l e R s m args below meth c b D cA k0 z H locs ls Z hcx hR hS hL (hs.cons hn) hh hF)
theorem g_null (hdg : decode M.2.1 pc = .ok (.aconst_null, 1)) (k : Go M d (pc + 1) loc (.inr 0 :: st) h Q) : Go M d pc loc st h Q := by
  intro p l e R s m args below meth c b D cA k0 z H locs ls Z hcx hR hS hL hs hh hF
  have := (k p l e R s m args below meth c b D cA k0 z H locs ls Z hcx hR hS hL (hs.cons (by unfold okV; exact Nat.zero_le _)) hh hF)
  rw [List.map_cons, cV_0] at this
  exact lv_null hcx.1 hcx.2.1 hdg this
theorem g_iload_n {i : Fin 4} {x : Int} (hdg : decode M.2.1 pc = .ok (.iload_n i, 1)) (hl : loc[(i : Nat)]? = some (some (.inl x))) (k : Go M d (pc + 1) loc (.inl x :: st) h Q) : Go M d pc loc st h Q := by
  intro p l e R s m args below meth c b D cA k0 z H locs ls Z hcx hR hS hL hs hh hF
  exact lv_iload_n hcx.1 hcx.2.1 hdg rfl (hL.at hl).1 (k p l e R s m args below meth c b D cA k0 z H locs ls Z hcx hR hS hL (hs.cons (hL.at hl).2) hh hF)
theorem g_iload {i : Nat} {x : Int} (hdg : decode M.2.1 pc = .ok (.iload i, 2)) (hl : loc[i]? = some (some (.inl x))) (k : Go M d (pc + 2) loc (.inl x :: st) h Q) : Go M d pc loc st h Q := by
  intro p l e R s m args below meth c b D cA k0 z H locs ls Z hcx hR hS hL hs hh hF
  exact lv_iload hcx.1 hcx.2.1 hdg (hL.at hl).1 (k p l e R s m args below meth c b D cA k0 z H locs ls Z hcx hR hS hL (hs.cons (hL.at hl).2) hh hF)
theorem g_aload_n {i : Fin 4} {r : Nat} (hdg : decode M.2.1 pc = .ok (.aload_n i, 1)) (hl : loc[(i : Nat)]? = some (some (.inr r))) (k : Go M d (pc + 1) loc (.inr r :: st) h Q) : Go M d pc loc st h Q := by
  intro p l e R s m args below meth c b D cA k0 z H locs ls Z hcx hR hS hL hs hh hF
  have h1 := (hL.at hl).1
  have kk := k p l e R s m args below meth c b D cA k0 z H locs ls Z hcx hR hS hL (hs.cons (hL.at hl).2) hh hF
  rw [List.map_cons] at kk
  cases r with
  | zero => rw [cV_0] at h1 kk; exact lv_aload_nN hcx.1 hcx.2.1 hdg rfl h1 kk
  | succ r => rw [cV_s] at h1 kk; exact lv_aload_n hcx.1 hcx.2.1 hdg rfl h1 kk
theorem g_aload {i : Nat} {r : Nat} (hdg : decode M.2.1 pc = .ok (.aload i, 2)) (hl : loc[i]? = some (some (.inr r))) (k : Go M d (pc + 2) loc (.inr r :: st) h Q) : Go M d pc loc st h Q := by
  intro p l e R s m args below meth c b D cA k0 z H locs ls Z hcx hR hS hL hs hh hF
  have h1 := (hL.at hl).1
  have kk := k p l e R s m args below meth c b D cA k0 z H locs ls Z hcx hR hS hL (hs.cons (hL.at hl).2) hh hF
  rw [List.map_cons] at kk
  cases r with
  | zero => rw [cV_0] at h1 kk; exact lv_aloadN hcx.1 hcx.2.1 hdg h1 kk
  | succ r => rw [cV_s] at h1 kk; exact lv_aload hcx.1 hcx.2.1 hdg h1 kk
theorem g_istore_n {i : Fin 4} {x : Int} (hdg : decode M.2.1 pc = .ok (.istore_n i, 1)) (hi : (i : Nat) < M.2.2.1) (k : Go M d (pc + 1) (loc.set i (some (.inl x))) st h Q) : Go M d pc loc (.inl x :: st) h Q := by
  intro p l e R s m args below meth c b D cA k0 z H locs ls Z hcx hR hS hL hs hh hF
  exact lv_istore_n hcx.1 hcx.2.1 hdg rfl hL.has hi rfl fun ls' hl' => k p l e R s m args below meth c b D cA k0 z H locs ls' Z hcx hR hS (hL.store (v := .inl x) hi hs.hd hl') hs.tl hh hF
theorem g_istore {i : Nat} {x : Int} (hdg : decode M.2.1 pc = .ok (.istore i, 2)) (hi : i < M.2.2.1) (k : Go M d (pc + 2) (loc.set i (some (.inl x))) st h Q) : Go M d pc loc (.inl x :: st) h Q := by
  intro p l e R s m args below meth c b D cA k0 z H locs ls Z hcx hR hS hL hs hh hF
  exact lv_istore hcx.1 hcx.2.1 hdg hL.has hi rfl fun ls' hl' => k p l e R s m args below meth c b D cA k0 z H locs ls' Z hcx hR hS (hL.store (v := .inl x) hi hs.hd hl') hs.tl hh hF
theorem g_astore_n {i : Fin 4} {r : Nat} (hdg : decode M.2.1 pc = .ok (.astore_n i, 1)) (hi : (i : Nat) < M.2.2.1) (k : Go M d (pc + 1) (loc.set i (some (.inr r))) st h Q) : Go M d pc loc (.inr r :: st) h Q := by
  intro p l e R s m args below meth c b D cA k0 z H locs ls Z hcx hR hS hL hs hh hF
  rw [List.map_cons]
  cases r with
  | zero => rw [cV_0]; exact lv_astore_nN hcx.1 hcx.2.1 hdg rfl hL.has hi rfl fun ls' hl' => k p l e R s m args below meth c b D cA k0 z H locs ls' Z hcx hR hS (hL.store (v := .inr 0) hi hs.hd (by rw [cV_0]; exact hl')) hs.tl hh hF
  | succ r => rw [cV_s]; exact lv_astore_n hcx.1 hcx.2.1 hdg rfl hL.has hi rfl fun ls' hl' => k p l e R s m args below meth c b D cA k0 z H locs ls' Z hcx hR hS (hL.store (v := .inr (r + 1)) hi hs.hd (by rw [cV_s]; exact hl')) hs.tl hh hF
theorem g_astore {i : Nat} {r : Nat} (hdg : decode M.2.1 pc = .ok (.astore i, 2)) (hi : i < M.2.2.1) (k : Go M d (pc + 2) (loc.set i (some (.inr r))) st h Q) : Go M d pc loc (.inr r :: st) h Q := by
  intro p l e R s m args below meth c b D cA k0 z H locs ls Z hcx hR hS hL hs hh hF
  rw [List.map_cons]
  cases r with
  | zero => rw [cV_0]; exact lv_astoreN hcx.1 hcx.2.1 hdg hL.has hi rfl fun ls' hl' => k p l e R s m args below meth c b D cA k0 z H locs ls' Z hcx hR hS (hL.store (v := .inr 0) hi hs.hd (by rw [cV_0]; exact hl')) hs.tl hh hF
  | succ r => rw [cV_s]; exact lv_astore hcx.1 hcx.2.1 hdg hL.has hi rfl fun ls' hl' => k p l e R s m args below meth c b D cA k0 z H locs ls' Z hcx hR hS (hL.store (v := .inr (r + 1)) hi hs.hd (by rw [cV_s]; exact hl')) hs.tl hh hF
theorem g_iinc {i : Nat} {n x : Int} (hdg : decode M.2.1 pc = .ok (.iinc i n, 3)) (hl : loc[i]? = some (some (.inl x))) (hi : i < M.2.2.1) (k : Go M d (pc + 3) (loc.set i (some (.inl (w32 (x + n))))) st h Q) : Go M d pc loc st h Q := by
  intro p l e R s m args below meth c b D cA k0 z H locs ls Z hcx hR hS hL hs hh hF
  have hm : (i, cV b (.inl x)) ∈ lvL b loc := lvL_mem.mpr ⟨_, hl, rfl⟩
  obtain ⟨kk, hk⟩ := List.getElem?_of_mem hm
  exact lv_iinc (v := Int32.ofInt (w32 (x + n))) hcx.1 hcx.2.1 hdg hL.has hk (by rw [ofw, Int32.ofInt_add]) hi rfl fun ls' hl' => k p l e R s m args below meth c b D cA k0 z H locs ls' Z hcx hR hS (hL.store (v := .inl (w32 (x + n))) hi (inR_w _) hl') hs hh hF
theorem g_iadd {x y : Int} (hdg : decode M.2.1 pc = .ok (.iadd, 1)) (k : Go M d (pc + 1) loc (.inl (w32 (x + y)) :: st) h Q) : Go M d pc loc (.inl y :: .inl x :: st) h Q := by
  intro p l e R s m args below meth c b D cA k0 z H locs ls Z hcx hR hS hL hs hh hF
  have kk := k p l e R s m args below meth c b D cA k0 z H locs ls Z hcx hR hS hL (hs.tl.tl.cons (inR_w _)) hh hF
  simp only [List.map_cons, cV, ofw, Int32.ofInt_add] at kk
  exact lv_iadd hcx.1 hcx.2.1 hdg kk
theorem g_isub {x y : Int} (hdg : decode M.2.1 pc = .ok (.isub, 1)) (k : Go M d (pc + 1) loc (.inl (w32 (x - y)) :: st) h Q) : Go M d pc loc (.inl y :: .inl x :: st) h Q := by
  intro p l e R s m args below meth c b D cA k0 z H locs ls Z hcx hR hS hL hs hh hF
  have kk := k p l e R s m args below meth c b D cA k0 z H locs ls Z hcx hR hS hL (hs.tl.tl.cons (inR_w _)) hh hF
  simp only [List.map_cons, cV, ofw, Int32.ofInt_sub] at kk
  exact lv_isub hcx.1 hcx.2.1 hdg kk
theorem g_imul {x y : Int} (hdg : decode M.2.1 pc = .ok (.imul, 1)) (k : Go M d (pc + 1) loc (.inl (w32 (x * y)) :: st) h Q) : Go M d pc loc (.inl y :: .inl x :: st) h Q := by
  intro p l e R s m args below meth c b D cA k0 z H locs ls Z hcx hR hS hL hs hh hF
  have kk := k p l e R s m args below meth c b D cA k0 z H locs ls Z hcx hR hS hL (hs.tl.tl.cons (inR_w _)) hh hF
  simp only [List.map_cons, cV, ofw, Int32.ofInt_mul] at kk
  exact lv_imul hcx.1 hcx.2.1 hdg kk
theorem g_iand {x y : Int} (hdg : decode M.2.1 pc = .ok (.iand, 1)) (k : Go M d (pc + 1) loc (.inl (iand x y) :: st) h Q) : Go M d pc loc (.inl y :: .inl x :: st) h Q := by
  intro p l e R s m args below meth c b D cA k0 z H locs ls Z hcx hR hS hL hs hh hF
  have kk := k p l e R s m args below meth c b D cA k0 z H locs ls Z hcx hR hS hL (hs.tl.tl.cons (inR_t _)) hh hF
  simp only [List.map_cons, cV, iand, Int32.ofInt_toInt] at kk
  exact lv_iand hcx.1 hcx.2.1 hdg kk
theorem g_ior {x y : Int} (hdg : decode M.2.1 pc = .ok (.ior, 1)) (k : Go M d (pc + 1) loc (.inl (ior x y) :: st) h Q) : Go M d pc loc (.inl y :: .inl x :: st) h Q := by
  intro p l e R s m args below meth c b D cA k0 z H locs ls Z hcx hR hS hL hs hh hF
  have kk := k p l e R s m args below meth c b D cA k0 z H locs ls Z hcx hR hS hL (hs.tl.tl.cons (inR_t _)) hh hF
  simp only [List.map_cons, cV, ior, Int32.ofInt_toInt] at kk
  exact lv_ior hcx.1 hcx.2.1 hdg kk
theorem g_ixor {x y : Int} (hdg : decode M.2.1 pc = .ok (.ixor, 1)) (k : Go M d (pc + 1) loc (.inl (ixor x y) :: st) h Q) : Go M d pc loc (.inl y :: .inl x :: st) h Q := by
  intro p l e R s m args below meth c b D cA k0 z H locs ls Z hcx hR hS hL hs hh hF
  have kk := k p l e R s m args below meth c b D cA k0 z H locs ls Z hcx hR hS hL (hs.tl.tl.cons (inR_t _)) hh hF
  simp only [List.map_cons, cV, ixor, Int32.ofInt_toInt] at kk
  exact lv_ixor hcx.1 hcx.2.1 hdg kk
theorem g_ishl {x y : Int} (hdg : decode M.2.1 pc = .ok (.ishl, 1)) (k : Go M d (pc + 1) loc (.inl (ishl x y) :: st) h Q) : Go M d pc loc (.inl y :: .inl x :: st) h Q := by
  intro p l e R s m args below meth c b D cA k0 z H locs ls Z hcx hR hS hL hs hh hF
  have kk := k p l e R s m args below meth c b D cA k0 z H locs ls Z hcx hR hS hL (hs.tl.tl.cons (inR_t _)) hh hF
  simp only [List.map_cons, cV, ishl, Int32.ofInt_toInt] at kk
  exact lv_ishl hcx.1 hcx.2.1 hdg kk
theorem g_ishr {x y : Int} (hdg : decode M.2.1 pc = .ok (.ishr, 1)) (k : Go M d (pc + 1) loc (.inl (ishr x y) :: st) h Q) : Go M d pc loc (.inl y :: .inl x :: st) h Q := by
  intro p l e R s m args below meth c b D cA k0 z H locs ls Z hcx hR hS hL hs hh hF
  have kk := k p l e R s m args below meth c b D cA k0 z H locs ls Z hcx hR hS hL (hs.tl.tl.cons (inR_t _)) hh hF
  simp only [List.map_cons, cV, ishr, Int32.ofInt_toInt] at kk
  exact lv_ishr hcx.1 hcx.2.1 hdg kk
theorem g_iushr {x y : Int} (hdg : decode M.2.1 pc = .ok (.iushr, 1)) (k : Go M d (pc + 1) loc (.inl (iushr x y) :: st) h Q) : Go M d pc loc (.inl y :: .inl x :: st) h Q := by
  intro p l e R s m args below meth c b D cA k0 z H locs ls Z hcx hR hS hL hs hh hF
  have kk := k p l e R s m args below meth c b D cA k0 z H locs ls Z hcx hR hS hL (hs.tl.tl.cons (inR_t _)) hh hF
  simp only [List.map_cons, cV, iushr, Int32.ofInt_toInt] at kk
  exact lv_iushr hcx.1 hcx.2.1 hdg rfl kk
theorem g_i2b {x : Int} (hdg : decode M.2.1 pc = .ok (.i2b, 1)) (k : Go M d (pc + 1) loc (.inl (i2b x) :: st) h Q) : Go M d pc loc (.inl x :: st) h Q := by
  intro p l e R s m args below meth c b D cA k0 z H locs ls Z hcx hR hS hL hs hh hF
  have kk := k p l e R s m args below meth c b D cA k0 z H locs ls Z hcx hR hS hL (hs.tl.cons (inR_t _)) hh hF
  simp only [List.map_cons, cV, i2b, Int32.ofInt_toInt] at kk
  exact lv_i2b hcx.1 hcx.2.1 hdg rfl kk
theorem g_i2c {x : Int} (hdg : decode M.2.1 pc = .ok (.i2c, 1)) (k : Go M d (pc + 1) loc (.inl (i2c x) :: st) h Q) : Go M d pc loc (.inl x :: st) h Q := by
  intro p l e R s m args below meth c b D cA k0 z H locs ls Z hcx hR hS hL hs hh hF
  have kk := k p l e R s m args below meth c b D cA k0 z H locs ls Z hcx hR hS hL (hs.tl.cons (inR_t _)) hh hF
  simp only [List.map_cons, cV, i2c, Int32.ofInt_toInt] at kk
  exact lv_i2c hcx.1 hcx.2.1 hdg rfl kk
theorem g_idiv {x y : Int} (hdg : decode M.2.1 pc = .ok (.idiv, 1)) (hy : y ≠ 0) (k : Go M d (pc + 1) loc (.inl (idiv x y) :: st) h Q) : Go M d pc loc (.inl y :: .inl x :: st) h Q := by
  intro p l e R s m args below meth c b D cA k0 z H locs ls Z hcx hR hS hL hs hh hF
  have kk := k p l e R s m args below meth c b D cA k0 z H locs ls Z hcx hR hS hL (hs.tl.tl.cons (inR_t _)) hh hF
  simp only [List.map_cons, cV, idiv, Int32.ofInt_toInt] at kk
  exact lv_idiv hcx.1 hcx.2.1 hdg (fun e => hy ((eq_of hs.hd inR_0).mp e)) kk
theorem g_irem {x y : Int} (hdg : decode M.2.1 pc = .ok (.irem, 1)) (hy : y ≠ 0) (k : Go M d (pc + 1) loc (.inl (irem x y) :: st) h Q) : Go M d pc loc (.inl y :: .inl x :: st) h Q := by
  intro p l e R s m args below meth c b D cA k0 z H locs ls Z hcx hR hS hL hs hh hF
  have kk := k p l e R s m args below meth c b D cA k0 z H locs ls Z hcx hR hS hL (hs.tl.tl.cons (inR_t _)) hh hF
  simp only [List.map_cons, cV, irem, Int32.ofInt_toInt] at kk
  exact lv_irem hcx.1 hcx.2.1 hdg (fun e => hy ((eq_of hs.hd inR_0).mp e)) kk
theorem g_dup {v : PV} (hdg : decode M.2.1 pc = .ok (.dup, 1)) (k : Go M d (pc + 1) loc (v :: v :: st) h Q) : Go M d pc loc (v :: st) h Q := by
  intro p l e R s m args below meth c b D cA k0 z H locs ls Z hcx hR hS hL hs hh hF
  exact lv_dup hcx.1 hcx.2.1 hdg (cV_cat b v) (k p l e R s m args below meth c b D cA k0 z H locs ls Z hcx hR hS hL (hs.cons hs.hd) hh hF)
theorem g_dup2 {v w : PV} (hdg : decode M.2.1 pc = .ok (.dup2, 1)) (k : Go M d (pc + 1) loc (v :: w :: v :: w :: st) h Q) : Go M d pc loc (v :: w :: st) h Q := by
  intro p l e R s m args below meth c b D cA k0 z H locs ls Z hcx hR hS hL hs hh hF
  exact lv_dup2_11 hcx.1 hcx.2.1 hdg (cV_cat b v) (cV_cat b w) (k p l e R s m args below meth c b D cA k0 z H locs ls Z hcx hR hS hL ((hs.cons hs.tl.hd).cons hs.hd) hh hF)
theorem g_pop {v : PV} (hdg : decode M.2.1 pc = .ok (.pop, 1)) (k : Go M d (pc + 1) loc st h Q) : Go M d pc loc (v :: st) h Q := by
  intro p l e R s m args below meth c b D cA k0 z H locs ls Z hcx hR hS hL hs hh hF
  exact lv_pop hcx.1 hcx.2.1 hdg (cV_cat b v) (k p l e R s m args below meth c b D cA k0 z H locs ls Z hcx hR hS hL hs.tl hh hF)
theorem g_goto {off : Int} {tgt : Nat} (hdg : decode M.2.1 pc = .ok (.goto off, 3)) (ht : (pc : Int) + off = (tgt : Int)) (k : Go M d tgt loc st h Q) : Go M d pc loc st h Q := by
  intro p l e R s m args below meth c b D cA k0 z H locs ls Z hcx hR hS hL hs hh hF
  exact lv_goto hcx.1 hcx.2.1 hdg ht (k p l e R s m args below meth c b D cA k0 z H locs ls Z hcx hR hS hL hs hh hF)
theorem g_icmp_eq {x y off : Int} {tgt : Nat} (hdg : decode M.2.1 pc = .ok (.if_icmp .eq off, 3)) (ht : (pc : Int) + off = (tgt : Int)) (k1 : x = y → Go M d tgt loc st h Q) (k2 : ¬ x = y → Go M d (pc + 3) loc st h Q) : Go M d pc loc (.inl y :: .inl x :: st) h Q := by
  intro p l e R s m args below meth c b D cA k0 z H locs ls Z hcx hR hS hL hs hh hF
  have hx : inR x := hs.tl.hd
  have hy : inR y := hs.hd
  have hi := eq_of hx hy
  exact lv_icmp_eq hcx.1 hcx.2.1 hdg ht (fun cc => k1 (hi.mp cc) p l e R s m args below meth c b D cA k0 z H locs ls Z hcx hR hS hL hs.tl.tl hh hF) (fun cc => k2 (fun q => cc (hi.mpr q)) p l e R s m args below meth c b D cA k0 z H locs ls Z hcx hR hS hL hs.tl.tl hh hF)
theorem g_if_eq {x off : Int} {tgt : Nat} (hdg : decode M.2.1 pc = .ok (.ifCond .eq off, 3)) (ht : (pc : Int) + off = (tgt : Int)) (k1 : x = 0 → Go M d tgt loc st h Q) (k2 : ¬ x = 0 → Go M d (pc + 3) loc st h Q) : Go M d pc loc (.inl x :: st) h Q := by
  intro p l e R s m args below meth c b D cA k0 z H locs ls Z hcx hR hS hL hs hh hF
  have hx : inR x := hs.hd
  have hy : inR 0 := inR_0
  have hi := eq_of hx hy
  exact lv_if_eq hcx.1 hcx.2.1 hdg ht (fun cc => k1 (hi.mp cc) p l e R s m args below meth c b D cA k0 z H locs ls Z hcx hR hS hL hs.tl hh hF) (fun cc => k2 (fun q => cc (hi.mpr q)) p l e R s m args below meth c b D cA k0 z H locs ls Z hcx hR hS hL hs.tl hh hF)
theorem g_icmp_ne {x y off : Int} {tgt : Nat} (hdg : decode M.2.1 pc = .ok (.if_icmp .ne off, 3)) (ht : (pc : Int) + off = (tgt : Int)) (k1 : ¬ x = y → Go M d tgt loc st h Q) (k2 : x = y → Go M d (pc + 3) loc st h Q) : Go M d pc loc (.inl y :: .inl x :: st) h Q := by
  intro p l e R s m args below meth c b D cA k0 z H locs ls Z hcx hR hS hL hs hh hF
  have hx : inR x := hs.tl.hd
  have hy : inR y := hs.hd
  have hi := not_congr (eq_of hx hy)
  exact lv_icmp_ne hcx.1 hcx.2.1 hdg ht (fun cc => k1 (hi.mp cc) p l e R s m args below meth c b D cA k0 z H locs ls Z hcx hR hS hL hs.tl.tl hh hF) (fun cc => k2 ((eq_of hx hy).mp cc) p l e R s m args below meth c b D cA k0 z H locs ls Z hcx hR hS hL hs.tl.tl hh hF)
theorem g_if_ne {x off : Int} {tgt : Nat} (hdg : decode M.2.1 pc = .ok (.ifCond .ne off, 3)) (ht : (pc : Int) + off = (tgt : Int)) (k1 : ¬ x = 0 → Go M d tgt loc st h Q) (k2 : x = 0 → Go M d (pc + 3) loc st h Q) : Go M d pc loc (.inl x :: st) h Q := by
  intro p l e R s m args below meth c b D cA k0 z H locs ls Z hcx hR hS hL hs hh hF
  have hx : inR x := hs.hd
  have hy : inR 0 := inR_0
  have hi := not_congr (eq_of hx hy)
  exact lv_if_ne hcx.1 hcx.2.1 hdg ht (fun cc => k1 (hi.mp cc) p l e R s m args below meth c b D cA k0 z H locs ls Z hcx hR hS hL hs.tl hh hF) (fun cc => k2 ((eq_of hx hy).mp cc) p l e R s m args below meth c b D cA k0 z H locs ls Z hcx hR hS hL hs.tl hh hF)
theorem g_icmp_lt {x y off : Int} {tgt : Nat} (hdg : decode M.2.1 pc = .ok (.if_icmp .lt off, 3)) (ht : (pc : Int) + off = (tgt : Int)) (k1 : x < y → Go M d tgt loc st h Q) (k2 : ¬ x < y → Go M d (pc + 3) loc st h Q) : Go M d pc loc (.inl y :: .inl x :: st) h Q := by
  intro p l e R s m args below meth c b D cA k0 z H locs ls Z hcx hR hS hL hs hh hF
  have hx : inR x := hs.tl.hd
  have hy : inR y := hs.hd
  have hi := lt_of hx hy
  exact lv_icmp_lt hcx.1 hcx.2.1 hdg ht (fun cc => k1 (hi.mp cc) p l e R s m args below meth c b D cA k0 z H locs ls Z hcx hR hS hL hs.tl.tl hh hF) (fun cc => k2 (fun q => cc (hi.mpr q)) p l e R s m args below meth c b D cA k0 z H locs ls Z hcx hR hS hL hs.tl.tl hh hF)
theorem g_if_lt {x off : Int} {tgt : Nat} (hdg : decode M.2.1 pc = .ok (.ifCond .lt off, 3)) (ht : (pc : Int) + off = (tgt : Int)) (k1 : x < 0 → Go M d tgt loc st h Q) (k2 : ¬ x < 0 → Go M d (pc + 3) loc st h Q) : Go M d pc loc (.inl x :: st) h Q := by
  intro p l e R s m args below meth c b D cA k0 z H locs ls Z hcx hR hS hL hs hh hF
  have hx : inR x := hs.hd
  have hy : inR 0 := inR_0
  have hi := lt_of hx hy
  exact lv_if_lt hcx.1 hcx.2.1 hdg ht (fun cc => k1 (hi.mp cc) p l e R s m args below meth c b D cA k0 z H locs ls Z hcx hR hS hL hs.tl hh hF) (fun cc => k2 (fun q => cc (hi.mpr q)) p l e R s m args below meth c b D cA k0 z H locs ls Z hcx hR hS hL hs.tl hh hF)
theorem g_icmp_ge {x y off : Int} {tgt : Nat} (hdg : decode M.2.1 pc = .ok (.if_icmp .ge off, 3)) (ht : (pc : Int) + off = (tgt : Int)) (k1 : y ≤ x → Go M d tgt loc st h Q) (k2 : ¬ y ≤ x → Go M d (pc + 3) loc st h Q) : Go M d pc loc (.inl y :: .inl x :: st) h Q := by
  intro p l e R s m args below meth c b D cA k0 z H locs ls Z hcx hR hS hL hs hh hF
  have hx : inR x := hs.tl.hd
  have hy : inR y := hs.hd
  have hi := le_of hy hx
  exact lv_icmp_ge hcx.1 hcx.2.1 hdg ht (fun cc => k1 (hi.mp cc) p l e R s m args below meth c b D cA k0 z H locs ls Z hcx hR hS hL hs.tl.tl hh hF) (fun cc => k2 (fun q => cc (hi.mpr q)) p l e R s m args below meth c b D cA k0 z H locs ls Z hcx hR hS hL hs.tl.tl hh hF)
theorem g_if_ge {x off : Int} {tgt : Nat} (hdg : decode M.2.1 pc = .ok (.ifCond .ge off, 3)) (ht : (pc : Int) + off = (tgt : Int)) (k1 : 0 ≤ x → Go M d tgt loc st h Q) (k2 : ¬ 0 ≤ x → Go M d (pc + 3) loc st h Q) : Go M d pc loc (.inl x :: st) h Q := by
  intro p l e R s m args below meth c b D cA k0 z H locs ls Z hcx hR hS hL hs hh hF
  have hx : inR x := hs.hd
  have hy : inR 0 := inR_0
  have hi := le_of hy hx
  exact lv_if_ge hcx.1 hcx.2.1 hdg ht (fun cc => k1 (hi.mp cc) p l e R s m args below meth c b D cA k0 z H locs ls Z hcx hR hS hL hs.tl hh hF) (fun cc => k2 (fun q => cc (hi.mpr q)) p l e R s m args below meth c b D cA k0 z H locs ls Z hcx hR hS hL hs.tl hh hF)
theorem g_icmp_gt {x y off : Int} {tgt : Nat} (hdg : decode M.2.1 pc = .ok (.if_icmp .gt off, 3)) (ht : (pc : Int) + off = (tgt : Int)) (k1 : y < x → Go M d tgt loc st h Q) (k2 : ¬ y < x → Go M d (pc + 3) loc st h Q) : Go M d pc loc (.inl y :: .inl x :: st) h Q := by
  intro p l e R s m args below meth c b D cA k0 z H locs ls Z hcx hR hS hL hs hh hF
  have hx : inR x := hs.tl.hd
  have hy : inR y := hs.hd
  have hi := lt_of hy hx
  exact lv_icmp_gt hcx.1 hcx.2.1 hdg ht (fun cc => k1 (hi.mp cc) p l e R s m args below meth c b D cA k0 z H locs ls Z hcx hR hS hL hs.tl.tl hh hF) (fun cc => k2 (fun q => cc (hi.mpr q)) p l e R s m args below meth c b D cA k0 z H locs ls Z hcx hR hS hL hs.tl.tl hh hF)
theorem g_if_gt {x off : Int} {tgt : Nat} (hdg : decode M.2.1 pc = .ok (.ifCond .gt off, 3)) (ht : (pc : Int) + off = (tgt : Int)) (k1 : 0 < x → Go M d tgt loc st h Q) (k2 : ¬ 0 < x → Go M d (pc + 3) loc st h Q) : Go M d pc loc (.inl x :: st) h Q := by
  intro p l e R s m args below meth c b D cA k0 z H locs ls Z hcx hR hS hL hs hh hF
  have hx : inR x := hs.hd
  have hy : inR 0 := inR_0
  have hi := lt_of hy hx
  exact lv_if_gt hcx.1 hcx.2.1 hdg ht (fun cc => k1 (hi.mp cc) p l e R s m args below meth c b D cA k0 z H locs ls Z hcx hR hS hL hs.tl hh hF) (fun cc => k2 (fun q => cc (hi.mpr q)) p l e R s m args below meth c b D cA k0 z H locs ls Z hcx hR hS hL hs.tl hh hF)
theorem g_icmp_le {x y off : Int} {tgt : Nat} (hdg : decode M.2.1 pc = .ok (.if_icmp .le off, 3)) (ht : (pc : Int) + off = (tgt : Int)) (k1 : x ≤ y → Go M d tgt loc st h Q) (k2 : ¬ x ≤ y → Go M d (pc + 3) loc st h Q) : Go M d pc loc (.inl y :: .inl x :: st) h Q := by
  intro p l e R s m args below meth c b D cA k0 z H locs ls Z hcx hR hS hL hs hh hF
  have hx : inR x := hs.tl.hd
  have hy : inR y := hs.hd
  have hi := le_of hx hy
  exact lv_icmp_le hcx.1 hcx.2.1 hdg ht (fun cc => k1 (hi.mp cc) p l e R s m args below meth c b D cA k0 z H locs ls Z hcx hR hS hL hs.tl.tl hh hF) (fun cc => k2 (fun q => cc (hi.mpr q)) p l e R s m args below meth c b D cA k0 z H locs ls Z hcx hR hS hL hs.tl.tl hh hF)
theorem g_if_le {x off : Int} {tgt : Nat} (hdg : decode M.2.1 pc = .ok (.ifCond .le off, 3)) (ht : (pc : Int) + off = (tgt : Int)) (k1 : x ≤ 0 → Go M d tgt loc st h Q) (k2 : ¬ x ≤ 0 → Go M d (pc + 3) loc st h Q) : Go M d pc loc (.inl x :: st) h Q := by
  intro p l e R s m args below meth c b D cA k0 z H locs ls Z hcx hR hS hL hs hh hF
  have hx : inR x := hs.hd
  have hy : inR 0 := inR_0
  have hi := le_of hx hy
  exact lv_if_le hcx.1 hcx.2.1 hdg ht (fun cc => k1 (hi.mp cc) p l e R s m args below meth c b D cA k0 z H locs ls Z hcx hR hS hL hs.tl hh hF) (fun cc => k2 (fun q => cc (hi.mpr q)) p l e R s m args below meth c b D cA k0 z H locs ls Z hcx hR hS hL hs.tl hh hF)
theorem g_ifnull {r : Nat} {off : Int} {tgt : Nat} (hdg : decode M.2.1 pc = .ok (.ifnull off, 3)) (ht : (pc : Int) + off = (tgt : Int)) (k1 : r = 0 → Go M d tgt loc st h Q) (k2 : ¬ r = 0 → Go M d (pc + 3) loc st h Q) : Go M d pc loc (.inr r :: st) h Q := by
  intro p l e R s m args below meth c b D cA k0 z H locs ls Z hcx hR hS hL hs hh hF
  rw [List.map_cons]
  cases r with
  | zero => rw [cV_0]; exact lv_ifnullN hcx.1 hcx.2.1 hdg ht (k1 rfl p l e R s m args below meth c b D cA k0 z H locs ls Z hcx hR hS hL hs.tl hh hF)
  | succ r => rw [cV_s]; exact lv_ifnull hcx.1 hcx.2.1 hdg (k2 (by omega) p l e R s m args below meth c b D cA k0 z H locs ls Z hcx hR hS hL hs.tl hh hF)
theorem g_ifnonnull {r : Nat} {off : Int} {tgt : Nat} (hdg : decode M.2.1 pc = .ok (.ifnonnull off, 3)) (ht : (pc : Int) + off = (tgt : Int)) (k1 : ¬ r = 0 → Go M d tgt loc st h Q) (k2 : r = 0 → Go M d (pc + 3) loc st h Q) : Go M d pc loc (.inr r :: st) h Q := by
  intro p l e R s m args below meth c b D cA k0 z H locs ls Z hcx hR hS hL hs hh hF
  rw [List.map_cons]
  cases r with
  | zero => rw [cV_0]; exact lv_ifnonnullN hcx.1 hcx.2.1 hdg (k2 rfl p l e R s m args below meth c b D cA k0 z H locs ls Z hcx hR hS hL hs.tl hh hF)
  | succ r => rw [cV_s]; exact lv_ifnonnull hcx.1 hcx.2.1 hdg ht (k1 (by omega) p l e R s m args below meth c b D cA k0 z H locs ls Z hcx hR hS hL hs.tl hh hF)
theorem g_ret {r : Option PV} {i : Instr} (hdg : decode M.2.1 pc = .ok (i, 1)) (hr : retOK M.2.2.2 i r) (hq : Q r h) : Go M d pc loc r.toList h Q := by
  intro p l e R s m args below meth c b D cA k0 z H locs ls Z hcx hR hS hL hs hh hF
  exact hF r h H locs ls pc i hdg hr hq hh (fun v hv => hs v (by rw [hv]; simp)) hR hS
theorem g_iret {x : Int} (hdg : decode M.2.1 pc = .ok (.ireturn, 1)) (hr : M.2.2.2 = some .int) (hq : Q (some (.inl x)) h) : Go M d pc loc [.inl x] h Q := g_ret (r := some (.inl x)) hdg (Or.inl ⟨rfl, hr, x, rfl⟩) hq
theorem g_zret {x : Int} (hdg : decode M.2.1 pc = .ok (.ireturn, 1)) (hr : M.2.2.2 = some .boolean) (h01 : x = 0 ∨ x = 1) (hq : Q (some (.inl x)) h) : Go M d pc loc [.inl x] h Q := g_ret (r := some (.inl x)) hdg (Or.inr (Or.inl ⟨rfl, hr, by rcases h01 with rfl | rfl; exact Or.inl rfl; exact Or.inr rfl⟩)) hq
theorem g_aret {x : Nat} {n : String} (hdg : decode M.2.1 pc = .ok (.areturn, 1)) (hr : M.2.2.2 = some (.object n)) (hq : Q (some (.inr x)) h) : Go M d pc loc [.inr x] h Q := g_ret (r := some (.inr x)) hdg (Or.inr (Or.inr (Or.inl ⟨rfl, ⟨n, hr⟩, x, rfl⟩))) hq
theorem g_vret (hdg : decode M.2.1 pc = .ok (.return_, 1)) (hr : M.2.2.2 = none) (hq : Q none h) : Go M d pc loc [] h Q := g_ret (r := none) hdg (Or.inr (Or.inr (Or.inr ⟨rfl, hr, rfl⟩))) hq
end ROWS
end
section
/-! THE ROWS OF THE HEAP -/
def Cls (ci : Nat) (C : String) (T : u_T) (N : Nat) : Prop := vwCl[ci]? = some (C, T, N) ∧ (∀ w ∈ u_ws C T N, w ∈ WS) ∧ (∀ k, k < N → parseFieldDescriptor (T k).2.2.1 = some (tyF ci k)) ∧ (∀ a, a < N → ∀ b, b < N → a ≠ b → (T a).2.1 ≠ (T b).2.1) ∧ N = nF ci
def FLk (own : String) (idx ci k : Nat) : Prop := ∃ (C : String) (T : u_T) (N : Nat), Cls ci C T N ∧ k < N ∧ Cond.fieldLink own idx (T k).1 (T k).2.1 (T k).2.2.1 ∈ WS ∧ ((tyF ci k = .int ∨ tyF ci k = .boolean) → (T k).2.2.2 = false)
section HEAP
variable {M : Mth} {d pc : Nat} {loc : List (Option PV)} {st : List PV} {h : Hp} {Q : Option PV → Hp → Prop}
theorem fV_i {b : Nat} {ty : FieldType} {x : Int} {r : Nat} (h : ty = .int ∨ ty = .boolean) : fV b ty x r = .int (Int32.ofInt x) := by rcases h with rfl | rfl <;> rfl
theorem g_getI {idx ci k c : Nat} {rs : List Nat} (hdg : decode M.2.1 pc = .ok (.getfield idx, 3)) (hf : FLk M.1.cls idx ci k) (hc : L0[c]? = some (.inl (ci, rs))) (hty : tyF ci k = .int ∨ tyF ci k = .boolean) (kk : Go M d (pc + 3) loc (.inl (h c k) :: st) h Q) : Go M d pc loc (.inr (c + 1) :: st) h Q := by
  intro p l e R s m args below meth cd b D cA k0 z H locs ls Z hcx hR hS hL hs hh hF
  obtain ⟨C, T, N, ⟨h1, h2, h3, h4, rfl⟩, hk, hl, -⟩ := hf
  have k2 := kk p l e R s m args below meth cd b D cA k0 z H locs ls Z hcx hR hS hL (hs.tl.cons (hh c k)) hh hF
  rw [List.map_cons] at k2
  rw [List.map_cons, cV_s]
  refine va_get hcx.1 hcx.2.1 hcx.2.2.2.2.2.1 h2 hcx.2.2.2.2.1 hcx.2.2.2.2.2.2.2.1 hR c (wd_get hc) h1 k hk (hcx.2.2.2.2.2.1 _ hl) (fun _ q => q) ?_ hdg k2
  rw [List.getElem?_map, List.getElem?_range hk]
  simp [fV_i hty, cV]
theorem g_getR {idx ci k c r : Nat} {rs : List Nat} (hdg : decode M.2.1 pc = .ok (.getfield idx, 3)) (hf : FLk M.1.cls idx ci k) (hc : L0[c]? = some (.inl (ci, rs))) (hty : ¬ tyF ci k = .int ∧ ¬ tyF ci k = .boolean) (hr : rs.getD k 0 = r) (hb : r ≤ 1000) (kk : Go M d (pc + 3) loc (.inr r :: st) h Q) : Go M d pc loc (.inr (c + 1) :: st) h Q := by
  intro p l e R s m args below meth cd b D cA k0 z H locs ls Z hcx hR hS hL hs hh hF
  obtain ⟨C, T, N, ⟨h1, h2, h3, h4, rfl⟩, hk, hl, -⟩ := hf
  have k2 := kk p l e R s m args below meth cd b D cA k0 z H locs ls Z hcx hR hS hL (hs.tl.cons hb) hh hF
  rw [List.map_cons] at k2
  rw [List.map_cons, cV_s]
  refine va_get hcx.1 hcx.2.1 hcx.2.2.2.2.2.1 h2 hcx.2.2.2.2.1 hcx.2.2.2.2.2.2.2.1 hR c (wd_get hc) h1 k hk (hcx.2.2.2.2.2.1 _ hl) (fun _ q => q) ?_ hdg k2
  rw [List.getElem?_map, List.getElem?_range hk]
  show some (fV b (tyF ci k) (h c k) (rs.getD k 0)) = some (va_rf (cR b r))
  rw [hr]
  congr 1
  unfold fV
  split
  · rename_i q; exact absurd q hty.1
  · rename_i q; exact absurd q hty.2
  · rfl
theorem Rp.set {D : va_G} {cA : Nat → ClassId} {b : Nat} {H1 : Heap} {c j : Nat} {v : Int} {dd : Dsc} {e : va_E} (hd : L0[c]? = some dd) (he : e = cE b cA dd (fun j' => if j' = j then v else h c j')) (h1 : va_P D vwCl ((wd b cA L0 h).set c (b + c, e)) H1) : Rp D cA b (hw h c j v) H1 := by
  rw [wd_set hd he] at h1
  rw [hw_S1]
  exact h1
theorem map_set_range {α : Type} (n k : Nat) (g g' : Nat → α) (x : α) (hx : g' k = x) (ho : ∀ j, j ≠ k → g' j = g j) : ((List.range n).map g).set k x = (List.range n).map g' := by
  apply List.ext_getElem?
  intro i
  by_cases hi : i = k
  · subst hi
    by_cases hl : i < n
    · rw [List.getElem?_set_self (by simpa using hl), List.getElem?_map, List.getElem?_range hl]
      simp [hx]
    · rw [List.getElem?_eq_none (by simp; omega), List.getElem?_eq_none (by simp; omega)]
  · rw [List.getElem?_set_ne (Ne.symm hi), List.getElem?_map, List.getElem?_map]
    by_cases hl : i < n
    · rw [List.getElem?_range hl]
      simp [ho i hi]
    · rw [List.getElem?_eq_none (by simp; omega)]
      rfl
theorem g_put {idx ci k c : Nat} {rs : List Nat} {v : Int} (hdg : decode M.2.1 pc = .ok (.putfield idx, 3)) (hf : FLk M.1.cls idx ci k) (hc : L0[c]? = some (.inl (ci, rs))) (hty : tyF ci k = .int ∨ (tyF ci k = .boolean ∧ (v = 0 ∨ v = 1))) (kk : Go M d (pc + 3) loc st (hw h c k v) Q) : Go M d pc loc (.inl v :: .inr (c + 1) :: st) h Q := by
  intro p l e R s m args below meth cd b D cA k0 z H locs ls Z hcx hR hS hL hs hh hF
  obtain ⟨C, T, N, ⟨h1, h2, h3, h4, rfl⟩, hk, hl, hfin⟩ := hf
  have hty2 : tyF ci k = .int ∨ tyF ci k = .boolean := hty.imp id And.left
  rw [List.map_cons, List.map_cons, cV_s]
  have hnf : narrow (tyF ci k) (cV b (.inl v)) = cV b (.inl v) ∧ fits (tyF ci k) (cV b (.inl v)) = true := by
    rcases hty with e | ⟨e, rfl | rfl⟩ <;> rw [e] <;> exact ⟨rfl, rfl⟩
  refine va_put hcx.1 hcx.2.1 hcx.2.2.2.2.2.1 h2 (tyF ci) h3 h4 hcx.2.2.2.2.1 hcx.2.2.2.2.2.2.2.1 hR wd_D hS c (wd_get hc) h1 k hk (hcx.2.2.2.2.2.1 _ hl) (fun _ q => q) (hfin hty2) (h3 k hk) hnf.1 hnf.2 (by simpa using hk) hdg fun H1 locs1 hP1 _ hS1 => ?_
  refine kk p l e R s m args below meth cd b D cA k0 z H1 locs1 ls Z hcx (Rp.set hc ?_ hP1) hS1 hL hs.tl.tl (okH_w hh hs.hd) hF
  show Sum.inr _ = Sum.inr _
  congr 2
  refine map_set_range _ _ _ _ _ ?_ fun j hj => ?_
  · simp [fV_i hty2, cV]
  · simp [hj]
theorem g_iald {c n : Nat} {i : Int} (hdg : decode M.2.1 pc = .ok (.iaload, 1)) (hc : L0[c]? = some (.inr (0, n))) (hi : 0 ≤ i ∧ i < n) (kk : Go M d (pc + 1) loc (.inl (h c i.toNat) :: st) h Q) : Go M d pc loc (.inl i :: .inr (c + 1) :: st) h Q := by
  intro p l e R s m args below meth cd b D cA k0 z H locs ls Z hcx hR hS hL hs hh hF
  have k2 := kk p l e R s m args below meth cd b D cA k0 z H locs ls Z hcx hR hS hL (hs.tl.tl.cons (hh c _)) hh hF
  rw [List.map_cons, List.map_cons, cV_s]
  rw [List.map_cons] at k2
  refine va_iald hcx.1 hcx.2.1 hcx.2.2.2.2.2.2.2.1 hR c 0 (wd_get hc) rfl (vp_of hs.hd hi) hdg ?_
  rw [cl_of hs.hd]
  exact k2
theorem g_bald {c n : Nat} {i : Int} (hdg : decode M.2.1 pc = .ok (.baload, 1)) (hc : L0[c]? = some (.inr (1, n))) (hi : 0 ≤ i ∧ i < n) (kk : Go M d (pc + 1) loc (.inl (h c i.toNat) :: st) h Q) : Go M d pc loc (.inl i :: .inr (c + 1) :: st) h Q := by
  intro p l e R s m args below meth cd b D cA k0 z H locs ls Z hcx hR hS hL hs hh hF
  have k2 := kk p l e R s m args below meth cd b D cA k0 z H locs ls Z hcx hR hS hL (hs.tl.tl.cons (hh c _)) hh hF
  rw [List.map_cons, List.map_cons, cV_s]
  rw [List.map_cons] at k2
  refine va_bald hcx.1 hcx.2.1 hcx.2.2.2.2.2.2.2.1 hR c 1 (wd_get hc) rfl (vp_of hs.hd hi) hdg ?_
  rw [cl_of hs.hd]
  exact k2
theorem g_zald {c n : Nat} {i : Int} (hdg : decode M.2.1 pc = .ok (.baload, 1)) (hc : L0[c]? = some (.inr (2, n))) (hi : 0 ≤ i ∧ i < n) (kk : Go M d (pc + 1) loc (.inl (h c i.toNat) :: st) h Q) : Go M d pc loc (.inl i :: .inr (c + 1) :: st) h Q := by
  intro p l e R s m args below meth cd b D cA k0 z H locs ls Z hcx hR hS hL hs hh hF
  have k2 := kk p l e R s m args below meth cd b D cA k0 z H locs ls Z hcx hR hS hL (hs.tl.tl.cons (hh c _)) hh hF
  rw [List.map_cons, List.map_cons, cV_s]
  rw [List.map_cons] at k2
  refine va_zald hcx.1 hcx.2.1 hcx.2.2.2.2.2.2.2.1 hR c 2 (wd_get hc) rfl (vp_of hs.hd hi) hdg ?_
  rw [cl_of hs.hd]
  exact k2
theorem upd_of (f : Nat → Int) (i : Nat) (v : Int) (x : Int32) (hx : x = Int32.ofInt v) : upd (fun j => Int32.ofInt (f j)) i x = fun j => Int32.ofInt (if j = i then v else f j) := by
  funext j
  unfold upd
  split <;> rename_i h
  · exact hx
  · rfl
theorem g_iast {c n : Nat} {i v : Int} (hdg : decode M.2.1 pc = .ok (.iastore, 1)) (hc : L0[c]? = some (.inr (0, n))) (hi : 0 ≤ i ∧ i < n) (kk : Go M d (pc + 1) loc st (hw h c i.toNat v) Q) : Go M d pc loc (.inl v :: .inl i :: .inr (c + 1) :: st) h Q := by
  intro p l e R s m args below meth cd b D cA k0 z H locs ls Z hcx hR hS hL hs hh hF
  rw [List.map_cons, List.map_cons, List.map_cons, cV_s]
  refine va_iast hcx.1 hcx.2.1 hcx.2.2.2.2.2.2.2.1 hR wd_D hS c 0 (wd_get hc) rfl (vp_of hs.tl.hd hi) hdg fun H1 locs1 hP1 _ hS1 => ?_
  rw [cl_of hs.tl.hd, upd_of _ _ v _ rfl] at hP1
  exact kk p l e R s m args below meth cd b D cA k0 z H1 locs1 ls Z hcx (Rp.set hc rfl hP1) hS1 hL hs.tl.tl.tl (okH_w hh hs.hd) hF
theorem g_bast {c n : Nat} {i v : Int} (hdg : decode M.2.1 pc = .ok (.bastore, 1)) (hc : L0[c]? = some (.inr (1, n))) (hi : 0 ≤ i ∧ i < n) (kk : Go M d (pc + 1) loc st (hw h c i.toNat (i2b v)) Q) : Go M d pc loc (.inl v :: .inl i :: .inr (c + 1) :: st) h Q := by
  intro p l e R s m args below meth cd b D cA k0 z H locs ls Z hcx hR hS hL hs hh hF
  rw [List.map_cons, List.map_cons, List.map_cons, cV_s]
  refine va_bast hcx.1 hcx.2.1 hcx.2.2.2.2.2.2.2.1 hR wd_D hS c 1 (wd_get hc) rfl (vp_of hs.tl.hd hi) hdg fun H1 locs1 hP1 _ hS1 => ?_
  rw [cl_of hs.tl.hd, upd_of _ _ (i2b v) _ (by rw [vp_nar_byte, i2b, Int32.ofInt_toInt])] at hP1
  exact kk p l e R s m args below meth cd b D cA k0 z H1 locs1 ls Z hcx (Rp.set hc rfl hP1) hS1 hL hs.tl.tl.tl (okH_w hh (inR_t _)) hF
theorem g_zast {c n : Nat} {i v : Int} (hdg : decode M.2.1 pc = .ok (.bastore, 1)) (hc : L0[c]? = some (.inr (2, n))) (hi : 0 ≤ i ∧ i < n) (hv : v = 0 ∨ v = 1) (kk : Go M d (pc + 1) loc st (hw h c i.toNat v) Q) : Go M d pc loc (.inl v :: .inl i :: .inr (c + 1) :: st) h Q := by
  intro p l e R s m args below meth cd b D cA k0 z H locs ls Z hcx hR hS hL hs hh hF
  rw [List.map_cons, List.map_cons, List.map_cons, cV_s]
  refine va_zast hcx.1 hcx.2.1 hcx.2.2.2.2.2.2.2.1 hR wd_D hS c 2 (wd_get hc) rfl (vp_of hs.tl.hd hi) hdg fun H1 locs1 hP1 _ hS1 => ?_
  rw [cl_of hs.tl.hd, upd_of _ _ v _ (by rcases hv with rfl | rfl <;> rfl)] at hP1
  exact kk p l e R s m args below meth cd b D cA k0 z H1 locs1 ls Z hcx (Rp.set hc rfl hP1) hS1 hL hs.tl.tl.tl (okH_w hh hs.hd) hF
theorem g_aald {c n : Nat} {i : Int} (hdg : decode M.2.1 pc = .ok (.aaload, 1)) (hc : L0[c]? = some (.inr (3, n))) (hi : 0 ≤ i ∧ i < n) (hb : (h c i.toNat).toNat ≤ 1000) (kk : Go M d (pc + 1) loc (.inr (h c i.toNat).toNat :: st) h Q) : Go M d pc loc (.inl i :: .inr (c + 1) :: st) h Q := by
  intro p l e R s m args below meth cd b D cA k0 z H locs ls Z hcx hR hS hL hs hh hF
  have k2 := kk p l e R s m args below meth cd b D cA k0 z H locs ls Z hcx hR hS hL (hs.tl.tl.cons hb) hh hF
  rw [List.map_cons, List.map_cons, cV_s]
  rw [List.map_cons] at k2
  refine va_aldq hcx.1 hcx.2.1 hcx.2.2.2.2.2.2.2.1 hR c 3 (wd_get hc) rfl (vp_of hs.hd hi) hdg ?_
  rw [cl_of hs.hd]
  exact k2
theorem up_of (b : Nat) (f : Nat → Int) (i r : Nat) : va_up (fun j => cR b (f j).toNat) i (cR b r) = fun j => cR b (if j = i then (r : Int) else f j).toNat := by
  funext j
  unfold va_up
  split <;> rename_i h
  · simp
  · rfl
theorem g_aast {c n r : Nat} {i : Int} (hdg : decode M.2.1 pc = .ok (.aastore, 1)) (hc : L0[c]? = some (.inr (3, n))) (hi : 0 ≤ i ∧ i < n) (hr : r = 0 ∨ ∃ q rs, r = q + 1 ∧ L0[q]? = some (.inl (0, rs))) (kk : Go M d (pc + 1) loc st (hw h c i.toNat (r : Int)) Q) : Go M d pc loc (.inr r :: .inl i :: .inr (c + 1) :: st) h Q := by
  intro p l e R s m args below meth cd b D cA k0 z H locs ls Z hcx hR hS hL hs hh hF
  have hrb : r ≤ 1000 := hs.hd
  have hin : inR (r : Int) := ⟨by omega, by omega⟩
  have hup := up_of b (h c) i.toNat r
  rw [List.map_cons, List.map_cons, List.map_cons, cV_s]
  rcases hr with rfl | ⟨q, rs, rfl, hq⟩
  · rw [cV_0]
    refine va_astqN hcx.1 hcx.2.1 hcx.2.2.2.2.2.2.2.1 hR wd_D hS c 3 (wd_get hc) rfl (vp_of hs.tl.hd hi) hdg fun H1 locs1 hP1 _ hS1 => ?_
    rw [cl_of hs.tl.hd] at hP1
    rw [show cR b 0 = none from rfl] at hup
    rw [hup] at hP1
    exact kk p l e R s m args below meth cd b D cA k0 z H1 locs1 ls Z hcx (Rp.set hc rfl hP1) hS1 hL hs.tl.tl.tl (okH_w hh hin) hF
  · rw [cV_s]
    refine va_astq hcx.1 hcx.2.1 hcx.2.2.2.2.2.2.2.1 hR wd_D hS c 3 q 0 (r := (RX0, TX0, 5)) (wd_get hc) rfl (wd_get hq) rfl (vp_of hs.tl.hd hi) hdg fun H1 locs1 hP1 _ hS1 => ?_
    rw [cl_of hs.tl.hd] at hP1
    rw [show cR b (q + 1) = some (b + q) by simp [cR]] at hup
    rw [hup] at hP1
    exact kk p l e R s m args below meth cd b D cA k0 z H1 locs1 ls Z hcx (Rp.set hc rfl hP1) hS1 hL hs.tl.tl.tl (okH_w hh hin) hF
theorem g_alen {c k n : Nat} (hdg : decode M.2.1 pc = .ok (.arraylength, 1)) (hc : L0[c]? = some (.inr (k, n))) (hk : k < 3) (hn : n < 2147483648) (kk : Go M d (pc + 1) loc (.inl (n : Int) :: st) h Q) : Go M d pc loc (.inr (c + 1) :: st) h Q := by
  intro p l e R s m args below meth cd b D cA k0 z H locs ls Z hcx hR hS hL hs hh hF
  have k2 := kk p l e R s m args below meth cd b D cA k0 z H locs ls Z hcx hR hS hL (hs.tl.cons ⟨by omega, by omega⟩) hh hF
  rw [List.map_cons, cV_s]
  rw [List.map_cons] at k2
  have hof : Int32.ofNat n = Int32.ofInt (n : Int) := rfl
  rcases (show k = 0 ∨ k = 1 ∨ k = 2 by omega) with rfl | rfl | rfl
  · exact va_alen hcx.1 hcx.2.1 hcx.2.2.2.2.2.2.2.1 hR c 0 (wd_get hc) rfl (ty := .int) hof hdg k2
  · exact va_alen hcx.1 hcx.2.1 hcx.2.2.2.2.2.2.2.1 hR c 1 (wd_get hc) rfl (ty := .byte) hof hdg k2
  · exact va_alen hcx.1 hcx.2.1 hcx.2.2.2.2.2.2.2.1 hR c 2 (wd_get hc) rfl (ty := .boolean) hof hdg k2
end HEAP
end
section
/-! THE ROWS OF CALLS, SWITCHES, AND OF THE JDK'S OWN -/
section CALLS
variable {M : Mth} {d pc : Nat} {loc : List (Option PV)} {st : List PV} {h : Hp} {Q : Option PV → Hp → Prop}
/-- what a callee's words are -/
def CB (M' : Mth) (n : Nat) : Prop := Cond.code M'.1 M'.2.1 M'.2.2.1 M'.2.2.2 ∈ WS ∧ Cond.initialized M'.1.cls ∈ WS ∧ M'.1.cls ≠ "java/lang/invoke/MethodHandle" ∧ M'.1.cls ≠ "java/lang/invoke/VarHandle" ∧ (parseMethodDescriptor M'.1.desc).map (fun d => d.parameters.length) = some n ∧ M'.2.2.1 ≤ 45
def CBv (M' : Mth) (ci n : Nat) : Prop := CB M' n ∧ Cond.instanceMethod M'.1 ∈ WS ∧ Cond.selects M'.1.cls M'.1 M'.1 ∈ WS ∧ ∃ (T : u_T) (N : Nat), vwCl[ci]? = some (M'.1.cls, T, N)
def CBs (M' : Mth) (n : Nat) : Prop := CB M' n ∧ Cond.static M'.1 ∈ WS
theorem good_ws {M M' : Mth} (hc : Cond.code M'.1 M'.2.1 M'.2.2.1 M'.2.2.2 ∈ WS) : GoodIn WS (wsM M') := fun w hw => by
  rcases List.mem_cons.mp hw with rfl | hw
  · exact ⟨hc, WS_good _ hc⟩
  · exact ⟨hw, WS_good _ hw⟩
theorem NW_warm {s U : State} (hW : s.WarmedH U.vm) (h : ∀ w ∈ NW, va_Nw w s) : ∀ w ∈ NW, va_Nw w U := by
  intro w hw
  have h1 := h w hw
  have h2 := (List.mem_filter.mp hw).2
  cases w with
  | methodLinkNest a i x hh => exact va_Nw.warmM hW h1
  | _ => cases h2
theorem blind {D : va_G} {cA : Nat → ClassId} {b : Nat} {h : Hp} {av : List Value} : FrameBlind (va_Pc av (Wd D cA b h)) := by
  intro a U g mk q
  obtain ⟨q0, qP, qK, qN⟩ := q
  refine ⟨q0, qP, va_K.moved (u := U) (U := U.calling g mk a) (Vm.Alike.refl U.vm) qK, fun w hw => ?_⟩
  have h2 := (List.mem_filter.mp hw).2
  cases w with
  | methodLinkNest x i y hh => exact va_Nw.same (u := U) rfl rfl (qN _ hw)
  | _ => cases h2
theorem call_go {p : Program} {l : Launch} {e : Env} {R : Room} {s : State} {m : MethodId} {args : Array Value} {below : List Frame} {meth : Method} {c : Code} {H : Heap} {locs : List Loc} {k z b : Nat} {Z : State → Prop} {ls : Array Slot} {st0 rest : List Value} {a : Array Value} {D : va_G} {cA : Nat → ClassId} {Q1 : Option PV → Hp → Prop}
    (hr : va_Run p l e R s m args below meth c H locs k z 0 0 (F0 m pc ls st0) rest (Qg D cA b Q1 a) (fun q => b ≤ q)) (hS : va_S (fun q => b ≤ q) s.heap H locs)
    (kk : ∀ (r : Option PV) (h' : Hp) (H1 : Heap) (locs1 : List Loc), Q1 r h' → okH h' → okO r → Rp D cA b h' H1 → va_S (fun q => b ≤ q) s.heap H1 locs1 → W p l e R s m args below meth c H1 locs1 k z Z (F0 m (pc + 3) ls ((r.map (cV b)).toList ++ rest))) :
    W p l e R s m args below meth c H locs k z Z (F0 m pc ls st0) := by
  intro T hT X
  obtain ⟨v, st₀, t, T', L, h0, X', hL, e1, e2, ⟨⟨r, h', hv, hq, ho, hor, hR⟩, hz, hk⟩, st⟩ := hr T hT X
  cases hv
  rw [h0] at hz hk
  obtain ⟨t2, a1, b1⟩ := kk r h' T'.heap (locs ++ L) hq ho hor (by rw [e1]; exact hR)
    ⟨Nat.le_trans hS.1 (by rw [e1]; exact hz), fun q h1 h2 => by rw [e1, hk q (Nat.lt_of_lt_of_le h1 hS.1) h2]; exact hS.2.1 q h1 h2, fun q hq => by
      rcases List.mem_append.mp hq with h | h
      · exact hS.2.2 q h
      · exact hL q h⟩ T' rfl X'
  exact ⟨t2, st t2 a1, b1⟩
theorem okS_call {av : List PV} {c : Nat} (hs : okS (av.reverse ++ .inr (c + 1) :: st)) : okS (.inr (c + 1) :: av) ∧ okS st := by
  refine ⟨fun v hv => hs v ?_, fun v hv => hs v ?_⟩
  · rcases List.mem_cons.mp hv with rfl | hv
    · simp
    · simp [hv]
  · simp [hv]
theorem okS_callS {av : List PV} (hs : okS (av.reverse ++ st)) : okS av ∧ okS st := ⟨fun v hv => hs v (by simp [hv]), fun v hv => hs v (by simp [hv])⟩
theorem okS_ret {r : Option PV} (hr : okO r) (hs : okS st) : okS (r.toList ++ st) := fun v hv => by
  rcases List.mem_append.mp hv with h | h
  · exact hr v (by simpa using h)
  · exact hs v h
theorem room_of {b : Nat} {st : List PV} (h : st.length ≤ 8) : ((st.map (cV b)).map fun v => v.category).sum ≤ 8 := by
  have : ((st.map (cV b)).map fun v => v.category).sum = st.length := by
    clear h
    induction st with
    | nil => rfl
    | cons v t ih => simp only [List.map_cons, List.sum_cons, cV_cat, ih, List.length_cons]; omega
  rw [this]; exact h
theorem mapO {b : Nat} (r : Option PV) : (r.map (cV b)).toList = r.toList.map (cV b) := by cases r <;> rfl
theorem g_callV {M' : Mth} {d' idx ci n c : Nat} {av : List PV} {rs : List Nat} {Q1 : Option PV → Hp → Prop} (hdg : decode M.2.1 pc = .ok (.invokevirtual idx, 3)) (hlk : Cond.methodLink M.1.cls idx M'.1 ∈ WS) (hcb : CBv M' ci n) (hc : L0[c]? = some (.inl (ci, rs))) (hn : av.length = n) (hst : st.length ≤ 8) (hd : d' + 1 ≤ d) (hrun : Runs M' d' (.inr (c + 1) :: av) h Q1)
    (kk : ∀ r h', Q1 r h' → Go M d (pc + 3) loc (r.toList ++ st) h' Q) : Go M d pc loc (av.reverse ++ .inr (c + 1) :: st) h Q := by
  intro p l e R s m args below meth cd b D cA k0 z H locs ls Z hcx hR hS hL hs hh hF
  obtain ⟨ho1, ho2⟩ := okS_call hs
  obtain ⟨⟨hcode, hini, hy1, hy2, hpar, hml⟩, hinst, hsel, T, N, hcl⟩ := hcb
  obtain ⟨x1, x2, x3, x4, x5, x6, x7, x8, x9, x10, x11, x12, x13⟩ := id hcx
  have hM := hrun l D cA b hh ho1
  have cw : CallW R s args M.1.cls M'.1.cls idx M'.1 M'.2.1 M'.2.2.1 M'.2.2.2 (wsM M') (rmD d') 0 0 n := by
    refine cwV n x6 (Ts := WS) (fun w hw => ?_) rfl rfl rfl ⟨rfl, hy1, hy2, hpar⟩ ⟨by show d' + 1 ≤ R.frames; omega, by show 8 + (M'.2.2.1 + 11) + 64 * d' ≤ R.locals; omega⟩
    rcases List.mem_append.mp hw with h | h
    · simp only [List.mem_cons, List.not_mem_nil, or_false] at h
      rcases h with rfl | rfl | rfl | rfl
      · exact ⟨hlk, WS_good _ hlk⟩
      · exact ⟨hinst, WS_good _ hinst⟩
      · exact ⟨hsel, WS_good _ hsel⟩
      · exact ⟨hini, WS_good _ hini⟩
    · exact good_ws (M := M) hcode w h
  have hrecv := va_recv x8 hR hcl (wd_get hc)
  rw [List.map_append, List.map_cons, cV_s, List.map_reverse]
  refine call_go (va_runV (As := av.map (cV b)) (rest := st.map (cV b)) ⟨x1, x2, x4, x5, x6⟩ hM cw ⟨blind, hrecv, fun U hU hW => ⟨by rw [List.map_cons, cV_s], by show Rp D cA b h U.heap; rw [hU]; exact hR, va_K.moved hW.alike x8, NW_warm hW x9⟩⟩ rfl (by simpa using hn) hL.1 rfl (lv_room (room_of hst)) hdg ⟨x12, x13⟩) hS ?_
  intro r h' H1 locs1 hq ho hor hR1 hS1
  have := kk r h' hq p l e R s m args below meth cd b D cA k0 z H1 locs1 ls Z hcx hR1 hS1 hL (okS_ret hor ho2) ho hF
  rw [List.map_append] at this
  rw [mapO]
  exact this
theorem g_callS {M' : Mth} {d' idx n : Nat} {av : List PV} {Q1 : Option PV → Hp → Prop} (hdg : decode M.2.1 pc = .ok (.invokestatic idx, 3)) (hlk : Cond.methodLink M.1.cls idx M'.1 ∈ WS) (hcb : CBs M' n) (hn : av.length = n) (hst : st.length ≤ 8) (hd : d' + 1 ≤ d) (hrun : Runs M' d' av h Q1)
    (kk : ∀ r h', Q1 r h' → Go M d (pc + 3) loc (r.toList ++ st) h' Q) : Go M d pc loc (av.reverse ++ st) h Q := by
  intro p l e R s m args below meth cd b D cA k0 z H locs ls Z hcx hR hS hL hs hh hF
  obtain ⟨ho1, ho2⟩ := okS_callS hs
  obtain ⟨⟨hcode, hini, hy1, hy2, hpar, hml⟩, hst1⟩ := hcb
  obtain ⟨x1, x2, x3, x4, x5, x6, x7, x8, x9, x10, x11, x12, x13⟩ := id hcx
  have hM := hrun l D cA b hh ho1
  have cw : CallB R s args M.1.cls idx M'.1 M'.2.1 M'.2.2.1 M'.2.2.2 (wsM M') (rmD d') 0 0 n ∧ (Cond.static M'.1).before args s = true := by
    refine va_cwS n x6 (Ts := WS) (fun w hw => ?_) rfl rfl rfl ⟨hy1, hy2, hpar⟩ ⟨by show d' + 1 ≤ R.frames; omega, by show 8 + (M'.2.2.1 + 11) + 64 * d' ≤ R.locals; omega⟩
    rcases List.mem_append.mp hw with h | h
    · simp only [List.mem_cons, List.not_mem_nil, or_false] at h
      rcases h with rfl | rfl | rfl
      · exact ⟨hlk, WS_good _ hlk⟩
      · exact ⟨hst1, WS_good _ hst1⟩
      · exact ⟨hini, WS_good _ hini⟩
    · exact good_ws (M := M) hcode w h
  rw [List.map_append, List.map_reverse]
  refine call_go (va_runS (As := av.map (cV b)) (rest := st.map (cV b)) ⟨x1, x2, x4, x5, x6⟩ hM cw ⟨blind, fun U hU hW => ⟨rfl, by show Rp D cA b h U.heap; rw [hU]; exact hR, va_K.moved hW.alike x8, NW_warm hW x9⟩⟩ rfl (by simpa using hn) hL.1 rfl (lv_room (room_of hst)) hdg ⟨x12, x13⟩) hS ?_
  intro r h' H1 locs1 hq ho hor hR1 hS1
  have := kk r h' hq p l e R s m args below meth cd b D cA k0 z H1 locs1 ls Z hcx hR1 hS1 hL (okS_ret hor ho2) ho hF
  rw [List.map_append] at this
  rw [mapO]
  exact this
theorem g_callSN {M' : Mth} {d' idx n : Nat} {host : String} {av : List PV} {Q1 : Option PV → Hp → Prop} (hdg : decode M.2.1 pc = .ok (.invokestatic idx, 3)) (hlk : Cond.methodLinkNest M.1.cls idx M'.1 host ∈ NW) (hcb : CBs M' n) (hn : av.length = n) (hst : st.length ≤ 8) (hd : d' + 1 ≤ d) (hrun : Runs M' d' av h Q1)
    (kk : ∀ r h', Q1 r h' → Go M d (pc + 3) loc (r.toList ++ st) h' Q) : Go M d pc loc (av.reverse ++ st) h Q := by
  intro p l e R s m args below meth cd b D cA k0 z H locs ls Z hcx hR hS hL hs hh hF
  obtain ⟨ho1, ho2⟩ := okS_callS hs
  obtain ⟨⟨hcode, hini, hy1, hy2, hpar, hml⟩, hst1⟩ := hcb
  obtain ⟨x1, x2, x3, x4, x5, x6, x7, x8, x9, x10, x11, x12, x13⟩ := id hcx
  have hM := hrun l D cA b hh ho1
  have cw : va_CN R s args M.1.cls idx M'.1 host M'.2.1 M'.2.2.1 M'.2.2.2 (wsM M') (rmD d') 0 0 n ∧ (Cond.static M'.1).before args s = true ∧ True :=
    ⟨va_cnB n x6 (good_ws (M := M) hcode) rfl rfl rfl (x9 _ hlk) (x6 _ hini) ⟨hy1, hy2, hpar⟩ ⟨by show d' + 1 ≤ R.frames; omega, by show 8 + (M'.2.2.1 + 11) + 64 * d' ≤ R.locals; omega⟩, x6 _ hst1, trivial⟩
  rw [List.map_append, List.map_reverse]
  refine call_go (va_runSN (As := av.map (cV b)) (rest := st.map (cV b)) ⟨x1, x2, x4, x5, x6⟩ hM cw ⟨blind, fun U hU hW => ⟨rfl, by show Rp D cA b h U.heap; rw [hU]; exact hR, va_K.moved hW.alike x8, NW_warm hW x9⟩⟩ rfl (by simpa using hn) hL.1 rfl (lv_room (room_of hst)) hdg ⟨x12, x13⟩) hS ?_
  intro r h' H1 locs1 hq ho hor hR1 hS1
  have := kk r h' hq p l e R s m args below meth cd b D cA k0 z H1 locs1 ls Z hcx hR1 hS1 hL (okS_ret hor ho2) ho hF
  rw [List.map_append] at this
  rw [mapO]
  exact this
end CALLS
end
