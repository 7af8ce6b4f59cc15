section
-- ===== PART A: goes FIRST, ahead of the names: the tables' words, and 'selects' of the private methods out of them =====
/-- a private method of a class that the tables say can be made, by its rows of tables_1 -/
def lw_okq (q : MethodName × Nat) : Prop := (q.1.cls ≠ "java/lang/invoke/MethodHandle" ∧ q.1.cls ≠ "java/lang/invoke/VarHandle") ∧ Cond.instantiable q.1.cls q.2 ∈ tables_1 ∧ Cond.privateMethod q.1 ∈ tables_1 ∧ Cond.instanceMethod q.1 ∈ tables_1
theorem lw_p0 : lw_okq (⟨"NightCarts", "cartAt", "(I)LNightCarts$Cart;"⟩, 12) := ⟨⟨by decide +kernel, by decide +kernel⟩, List.mem_of_getElem? (i := 23) (by decide +kernel), List.mem_of_getElem? (i := 419) (by decide +kernel), List.mem_of_getElem? (i := 420) (by decide +kernel)⟩
theorem lw_p1 : lw_okq (⟨"NightCarts$LawReader", "readClause", "(LNightCarts$Tape;)V"⟩, 1) := ⟨⟨by decide +kernel, by decide +kernel⟩, List.mem_of_getElem? (i := 189) (by decide +kernel), List.mem_of_getElem? (i := 491) (by decide +kernel), List.mem_of_getElem? (i := 492) (by decide +kernel)⟩
theorem lw_p2 : lw_okq (⟨"NightCarts$LawReader", "readSum", "(LNightCarts$Tape;I)V"⟩, 1) := ⟨⟨by decide +kernel, by decide +kernel⟩, List.mem_of_getElem? (i := 189) (by decide +kernel), List.mem_of_getElem? (i := 515) (by decide +kernel), List.mem_of_getElem? (i := 516) (by decide +kernel)⟩
theorem lw_p3 : lw_okq (⟨"NightCarts$LawReader", "readProduct", "(LNightCarts$Tape;I)V"⟩, 1) := ⟨⟨by decide +kernel, by decide +kernel⟩, List.mem_of_getElem? (i := 189) (by decide +kernel), List.mem_of_getElem? (i := 519) (by decide +kernel), List.mem_of_getElem? (i := 520) (by decide +kernel)⟩
theorem lw_p4 : lw_okq (⟨"NightCarts$LawReader", "readFactor", "(LNightCarts$Tape;I)V"⟩, 1) := ⟨⟨by decide +kernel, by decide +kernel⟩, List.mem_of_getElem? (i := 189) (by decide +kernel), List.mem_of_getElem? (i := 523) (by decide +kernel), List.mem_of_getElem? (i := 524) (by decide +kernel)⟩
theorem lw_p5 : lw_okq (⟨"NightCarts$LawReader", "opens", "(LNightCarts$Tape;I)Z"⟩, 1) := ⟨⟨by decide +kernel, by decide +kernel⟩, List.mem_of_getElem? (i := 189) (by decide +kernel), List.mem_of_getElem? (i := 531) (by decide +kernel), List.mem_of_getElem? (i := 532) (by decide +kernel)⟩
theorem lw_p6 : lw_okq (⟨"NightCarts$LawReader", "readFact", "(LNightCarts$Tape;)V"⟩, 1) := ⟨⟨by decide +kernel, by decide +kernel⟩, List.mem_of_getElem? (i := 189) (by decide +kernel), List.mem_of_getElem? (i := 555) (by decide +kernel), List.mem_of_getElem? (i := 556) (by decide +kernel)⟩
theorem lw_p7 : lw_okq (⟨"NightCarts$LawReader", "readChoice", "(LNightCarts$Tape;I)V"⟩, 1) := ⟨⟨by decide +kernel, by decide +kernel⟩, List.mem_of_getElem? (i := 189) (by decide +kernel), List.mem_of_getElem? (i := 651) (by decide +kernel), List.mem_of_getElem? (i := 652) (by decide +kernel)⟩
theorem lw_p8 : lw_okq (⟨"NightCarts$LawReader", "readPart", "(LNightCarts$Tape;I)V"⟩, 1) := ⟨⟨by decide +kernel, by decide +kernel⟩, List.mem_of_getElem? (i := 189) (by decide +kernel), List.mem_of_getElem? (i := 655) (by decide +kernel), List.mem_of_getElem? (i := 656) (by decide +kernel)⟩
theorem lw_p9 : lw_okq (⟨"NightCarts$LawReader", "readTest", "(LNightCarts$Tape;I)V"⟩, 1) := ⟨⟨by decide +kernel, by decide +kernel⟩, List.mem_of_getElem? (i := 189) (by decide +kernel), List.mem_of_getElem? (i := 659) (by decide +kernel), List.mem_of_getElem? (i := 660) (by decide +kernel)⟩
theorem lw_p10 : lw_okq (⟨"NightCarts$LawReader", "readNegation", "(LNightCarts$Tape;I)V"⟩, 1) := ⟨⟨by decide +kernel, by decide +kernel⟩, List.mem_of_getElem? (i := 189) (by decide +kernel), List.mem_of_getElem? (i := 663) (by decide +kernel), List.mem_of_getElem? (i := 664) (by decide +kernel)⟩
theorem lw_p11 : lw_okq (⟨"NightCarts$LawReader", "readComparison", "(LNightCarts$Tape;I)V"⟩, 1) := ⟨⟨by decide +kernel, by decide +kernel⟩, List.mem_of_getElem? (i := 189) (by decide +kernel), List.mem_of_getElem? (i := 667) (by decide +kernel), List.mem_of_getElem? (i := 668) (by decide +kernel)⟩
theorem lw_p12 : lw_okq (⟨"NightCarts$Roads", "readLine", "(LNightCarts$Tape;LNightCarts$City;I)V"⟩, 4) := ⟨⟨by decide +kernel, by decide +kernel⟩, List.mem_of_getElem? (i := 78) (by decide +kernel), List.mem_of_getElem? (i := 710) (by decide +kernel), List.mem_of_getElem? (i := 711) (by decide +kernel)⟩
theorem lw_p13 : lw_okq (⟨"NightCarts$Roads", "readStreet", "(LNightCarts$Tape;LNightCarts$City;)V"⟩, 4) := ⟨⟨by decide +kernel, by decide +kernel⟩, List.mem_of_getElem? (i := 78) (by decide +kernel), List.mem_of_getElem? (i := 720) (by decide +kernel), List.mem_of_getElem? (i := 721) (by decide +kernel)⟩
theorem lw_p14 : lw_okq (⟨"NightCarts$Roads", "findWays", "()V"⟩, 4) := ⟨⟨by decide +kernel, by decide +kernel⟩, List.mem_of_getElem? (i := 78) (by decide +kernel), List.mem_of_getElem? (i := 739) (by decide +kernel), List.mem_of_getElem? (i := 740) (by decide +kernel)⟩
theorem lw_p15 : lw_okq (⟨"NightCarts$Roads", "shortenFrom", "(II)V"⟩, 4) := ⟨⟨by decide +kernel, by decide +kernel⟩, List.mem_of_getElem? (i := 78) (by decide +kernel), List.mem_of_getElem? (i := 743) (by decide +kernel), List.mem_of_getElem? (i := 744) (by decide +kernel)⟩
def lw_privs_1 : List (MethodName × Nat) := [(⟨"NightCarts", "cartAt", "(I)LNightCarts$Cart;"⟩, 12), (⟨"NightCarts$LawReader", "readClause", "(LNightCarts$Tape;)V"⟩, 1), (⟨"NightCarts$LawReader", "readSum", "(LNightCarts$Tape;I)V"⟩, 1), (⟨"NightCarts$LawReader", "readProduct", "(LNightCarts$Tape;I)V"⟩, 1), (⟨"NightCarts$LawReader", "readFactor", "(LNightCarts$Tape;I)V"⟩, 1), (⟨"NightCarts$LawReader", "opens", "(LNightCarts$Tape;I)Z"⟩, 1), (⟨"NightCarts$LawReader", "readFact", "(LNightCarts$Tape;)V"⟩, 1), (⟨"NightCarts$LawReader", "readChoice", "(LNightCarts$Tape;I)V"⟩, 1), (⟨"NightCarts$LawReader", "readPart", "(LNightCarts$Tape;I)V"⟩, 1), (⟨"NightCarts$LawReader", "readTest", "(LNightCarts$Tape;I)V"⟩, 1), (⟨"NightCarts$LawReader", "readNegation", "(LNightCarts$Tape;I)V"⟩, 1), (⟨"NightCarts$LawReader", "readComparison", "(LNightCarts$Tape;I)V"⟩, 1), (⟨"NightCarts$Roads", "readLine", "(LNightCarts$Tape;LNightCarts$City;I)V"⟩, 4), (⟨"NightCarts$Roads", "readStreet", "(LNightCarts$Tape;LNightCarts$City;)V"⟩, 4), (⟨"NightCarts$Roads", "findWays", "()V"⟩, 4), (⟨"NightCarts$Roads", "shortenFrom", "(II)V"⟩, 4)]
theorem lw_r1 : ∀ q ∈ lw_privs_1, lw_okq q := List.forall_mem_cons.mpr ⟨lw_p0, List.forall_mem_cons.mpr ⟨lw_p1, List.forall_mem_cons.mpr ⟨lw_p2, List.forall_mem_cons.mpr ⟨lw_p3, List.forall_mem_cons.mpr ⟨lw_p4, List.forall_mem_cons.mpr ⟨lw_p5, List.forall_mem_cons.mpr ⟨lw_p6, List.forall_mem_cons.mpr ⟨lw_p7, List.forall_mem_cons.mpr ⟨lw_p8, List.forall_mem_cons.mpr ⟨lw_p9, List.forall_mem_cons.mpr ⟨lw_p10, List.forall_mem_cons.mpr ⟨lw_p11, List.forall_mem_cons.mpr ⟨lw_p12, List.forall_mem_cons.mpr ⟨lw_p13, List.forall_mem_cons.mpr ⟨lw_p14, List.forall_mem_cons.mpr ⟨lw_p15, fun _ h => absurd h List.not_mem_nil⟩⟩⟩⟩⟩⟩⟩⟩⟩⟩⟩⟩⟩⟩⟩⟩
theorem lw_p16 : lw_okq (⟨"NightCarts$Cart", "readStop", "(LNightCarts$Tape;)V"⟩, 5) := ⟨⟨by decide +kernel, by decide +kernel⟩, List.mem_of_getElem? (i := 141) (by decide +kernel), List.mem_of_getElem? (i := 756) (by decide +kernel), List.mem_of_getElem? (i := 757) (by decide +kernel)⟩
theorem lw_p17 : lw_okq (⟨"NightCarts$Cart", "addStop", "(ZII)V"⟩, 5) := ⟨⟨by decide +kernel, by decide +kernel⟩, List.mem_of_getElem? (i := 141) (by decide +kernel), List.mem_of_getElem? (i := 766) (by decide +kernel), List.mem_of_getElem? (i := 767) (by decide +kernel)⟩
theorem lw_p18 : lw_okq (⟨"NightCarts", "sendCarts", "(I)V"⟩, 12) := ⟨⟨by decide +kernel, by decide +kernel⟩, List.mem_of_getElem? (i := 23) (by decide +kernel), List.mem_of_getElem? (i := 798) (by decide +kernel), List.mem_of_getElem? (i := 799) (by decide +kernel)⟩
theorem lw_p19 : lw_okq (⟨"NightCarts", "isToldCart", "(I)Z"⟩, 12) := ⟨⟨by decide +kernel, by decide +kernel⟩, List.mem_of_getElem? (i := 23) (by decide +kernel), List.mem_of_getElem? (i := 812) (by decide +kernel), List.mem_of_getElem? (i := 813) (by decide +kernel)⟩
theorem lw_p20 : lw_okq (⟨"NightCarts$Night", "goOn", "(III)V"⟩, 16) := ⟨⟨by decide +kernel, by decide +kernel⟩, List.mem_of_getElem? (i := 201) (by decide +kernel), List.mem_of_getElem? (i := 825) (by decide +kernel), List.mem_of_getElem? (i := 826) (by decide +kernel)⟩
theorem lw_p21 : lw_okq (⟨"NightCarts$Night", "isIdle", "()Z"⟩, 16) := ⟨⟨by decide +kernel, by decide +kernel⟩, List.mem_of_getElem? (i := 201) (by decide +kernel), List.mem_of_getElem? (i := 843) (by decide +kernel), List.mem_of_getElem? (i := 844) (by decide +kernel)⟩
theorem lw_p22 : lw_okq (⟨"NightCarts$Night", "earliestCart", "()I"⟩, 16) := ⟨⟨by decide +kernel, by decide +kernel⟩, List.mem_of_getElem? (i := 201) (by decide +kernel), List.mem_of_getElem? (i := 847) (by decide +kernel), List.mem_of_getElem? (i := 848) (by decide +kernel)⟩
theorem lw_p23 : lw_okq (⟨"NightCarts$Night", "serveBefore", "(I)V"⟩, 16) := ⟨⟨by decide +kernel, by decide +kernel⟩, List.mem_of_getElem? (i := 201) (by decide +kernel), List.mem_of_getElem? (i := 851) (by decide +kernel), List.mem_of_getElem? (i := 852) (by decide +kernel)⟩
theorem lw_p24 : lw_okq (⟨"NightCarts$Night", "serve", "(I)V"⟩, 16) := ⟨⟨by decide +kernel, by decide +kernel⟩, List.mem_of_getElem? (i := 201) (by decide +kernel), List.mem_of_getElem? (i := 855) (by decide +kernel), List.mem_of_getElem? (i := 856) (by decide +kernel)⟩
theorem lw_p25 : lw_okq (⟨"NightCarts$Night", "askOf", "(II)I"⟩, 16) := ⟨⟨by decide +kernel, by decide +kernel⟩, List.mem_of_getElem? (i := 201) (by decide +kernel), List.mem_of_getElem? (i := 864) (by decide +kernel), List.mem_of_getElem? (i := 865) (by decide +kernel)⟩
theorem lw_p26 : lw_okq (⟨"NightCarts$Law", "reckon", "(II)I"⟩, 12) := ⟨⟨by decide +kernel, by decide +kernel⟩, List.mem_of_getElem? (i := 97) (by decide +kernel), List.mem_of_getElem? (i := 892) (by decide +kernel), List.mem_of_getElem? (i := 893) (by decide +kernel)⟩
theorem lw_p27 : lw_okq (⟨"NightCarts$Law", "push", "(I)V"⟩, 12) := ⟨⟨by decide +kernel, by decide +kernel⟩, List.mem_of_getElem? (i := 97) (by decide +kernel), List.mem_of_getElem? (i := 896) (by decide +kernel), List.mem_of_getElem? (i := 897) (by decide +kernel)⟩
theorem lw_p28 : lw_okq (⟨"NightCarts$Law", "factAt", "(I)I"⟩, 12) := ⟨⟨by decide +kernel, by decide +kernel⟩, List.mem_of_getElem? (i := 97) (by decide +kernel), List.mem_of_getElem? (i := 900) (by decide +kernel), List.mem_of_getElem? (i := 901) (by decide +kernel)⟩
theorem lw_p29 : lw_okq (⟨"NightCarts$Law", "pop", "()I"⟩, 12) := ⟨⟨by decide +kernel, by decide +kernel⟩, List.mem_of_getElem? (i := 97) (by decide +kernel), List.mem_of_getElem? (i := 904) (by decide +kernel), List.mem_of_getElem? (i := 905) (by decide +kernel)⟩
theorem lw_p30 : lw_okq (⟨"NightCarts$Law", "join", "(III)I"⟩, 12) := ⟨⟨by decide +kernel, by decide +kernel⟩, List.mem_of_getElem? (i := 97) (by decide +kernel), List.mem_of_getElem? (i := 909) (by decide +kernel), List.mem_of_getElem? (i := 910) (by decide +kernel)⟩
theorem lw_p31 : lw_okq (⟨"NightCarts$Night", "takeOn", "(II)I"⟩, 16) := ⟨⟨by decide +kernel, by decide +kernel⟩, List.mem_of_getElem? (i := 201) (by decide +kernel), List.mem_of_getElem? (i := 921) (by decide +kernel), List.mem_of_getElem? (i := 922) (by decide +kernel)⟩
def lw_privs_2 : List (MethodName × Nat) := [(⟨"NightCarts$Cart", "readStop", "(LNightCarts$Tape;)V"⟩, 5), (⟨"NightCarts$Cart", "addStop", "(ZII)V"⟩, 5), (⟨"NightCarts", "sendCarts", "(I)V"⟩, 12), (⟨"NightCarts", "isToldCart", "(I)Z"⟩, 12), (⟨"NightCarts$Night", "goOn", "(III)V"⟩, 16), (⟨"NightCarts$Night", "isIdle", "()Z"⟩, 16), (⟨"NightCarts$Night", "earliestCart", "()I"⟩, 16), (⟨"NightCarts$Night", "serveBefore", "(I)V"⟩, 16), (⟨"NightCarts$Night", "serve", "(I)V"⟩, 16), (⟨"NightCarts$Night", "askOf", "(II)I"⟩, 16), (⟨"NightCarts$Law", "reckon", "(II)I"⟩, 12), (⟨"NightCarts$Law", "push", "(I)V"⟩, 12), (⟨"NightCarts$Law", "factAt", "(I)I"⟩, 12), (⟨"NightCarts$Law", "pop", "()I"⟩, 12), (⟨"NightCarts$Law", "join", "(III)I"⟩, 12), (⟨"NightCarts$Night", "takeOn", "(II)I"⟩, 16)]
theorem lw_r2 : ∀ q ∈ lw_privs_2, lw_okq q := List.forall_mem_cons.mpr ⟨lw_p16, List.forall_mem_cons.mpr ⟨lw_p17, List.forall_mem_cons.mpr ⟨lw_p18, List.forall_mem_cons.mpr ⟨lw_p19, List.forall_mem_cons.mpr ⟨lw_p20, List.forall_mem_cons.mpr ⟨lw_p21, List.forall_mem_cons.mpr ⟨lw_p22, List.forall_mem_cons.mpr ⟨lw_p23, List.forall_mem_cons.mpr ⟨lw_p24, List.forall_mem_cons.mpr ⟨lw_p25, List.forall_mem_cons.mpr ⟨lw_p26, List.forall_mem_cons.mpr ⟨lw_p27, List.forall_mem_cons.mpr ⟨lw_p28, List.forall_mem_cons.mpr ⟨lw_p29, List.forall_mem_cons.mpr ⟨lw_p30, List.forall_mem_cons.mpr ⟨lw_p31, fun _ h => absurd h List.not_mem_nil⟩⟩⟩⟩⟩⟩⟩⟩⟩⟩⟩⟩⟩⟩⟩⟩
theorem lw_p32 : lw_okq (⟨"NightCarts$Night", "leave", "(III)I"⟩, 16) := ⟨⟨by decide +kernel, by decide +kernel⟩, List.mem_of_getElem? (i := 201) (by decide +kernel), List.mem_of_getElem? (i := 925) (by decide +kernel), List.mem_of_getElem? (i := 926) (by decide +kernel)⟩
theorem lw_p33 : lw_okq (⟨"NightCarts$Night", "sleepsAfter", "(II)Z"⟩, 16) := ⟨⟨by decide +kernel, by decide +kernel⟩, List.mem_of_getElem? (i := 201) (by decide +kernel), List.mem_of_getElem? (i := 929) (by decide +kernel), List.mem_of_getElem? (i := 930) (by decide +kernel)⟩
theorem lw_p34 : lw_okq (⟨"NightCarts$Night", "lose", "(II)I"⟩, 16) := ⟨⟨by decide +kernel, by decide +kernel⟩, List.mem_of_getElem? (i := 201) (by decide +kernel), List.mem_of_getElem? (i := 933) (by decide +kernel), List.mem_of_getElem? (i := 934) (by decide +kernel)⟩
theorem lw_p35 : lw_okq (⟨"NightCarts", "canBeTried", "(I)Z"⟩, 12) := ⟨⟨by decide +kernel, by decide +kernel⟩, List.mem_of_getElem? (i := 23) (by decide +kernel), List.mem_of_getElem? (i := 954) (by decide +kernel), List.mem_of_getElem? (i := 955) (by decide +kernel)⟩
theorem lw_p36 : lw_okq (⟨"NightCarts$Rounds", "leastFrom", "(II)I"⟩, 5) := ⟨⟨by decide +kernel, by decide +kernel⟩, List.mem_of_getElem? (i := 257) (by decide +kernel), List.mem_of_getElem? (i := 1000) (by decide +kernel), List.mem_of_getElem? (i := 1001) (by decide +kernel)⟩
theorem lw_p37 : lw_okq (⟨"NightCarts$Rounds", "minutesBetween", "(II)I"⟩, 5) := ⟨⟨by decide +kernel, by decide +kernel⟩, List.mem_of_getElem? (i := 257) (by decide +kernel), List.mem_of_getElem? (i := 1004) (by decide +kernel), List.mem_of_getElem? (i := 1005) (by decide +kernel)⟩
theorem lw_p38 : lw_okq (⟨"NightCarts$Rounds", "minutesOver", "(III)I"⟩, 5) := ⟨⟨by decide +kernel, by decide +kernel⟩, List.mem_of_getElem? (i := 257) (by decide +kernel), List.mem_of_getElem? (i := 1009) (by decide +kernel), List.mem_of_getElem? (i := 1010) (by decide +kernel)⟩
theorem lw_p39 : lw_okq (⟨"NightCarts$Rounds", "writeRow", "()V"⟩, 5) := ⟨⟨by decide +kernel, by decide +kernel⟩, List.mem_of_getElem? (i := 257) (by decide +kernel), List.mem_of_getElem? (i := 1014) (by decide +kernel), List.mem_of_getElem? (i := 1015) (by decide +kernel)⟩
theorem lw_p40 : lw_okq (⟨"NightCarts$Rounds", "firstThatMeets", "(III)I"⟩, 5) := ⟨⟨by decide +kernel, by decide +kernel⟩, List.mem_of_getElem? (i := 257) (by decide +kernel), List.mem_of_getElem? (i := 1018) (by decide +kernel), List.mem_of_getElem? (i := 1019) (by decide +kernel)⟩
theorem lw_p41 : lw_okq (⟨"NightCarts$Shares", "neededFor", "(I)I"⟩, 9) := ⟨⟨by decide +kernel, by decide +kernel⟩, List.mem_of_getElem? (i := 279) (by decide +kernel), List.mem_of_getElem? (i := 1044) (by decide +kernel), List.mem_of_getElem? (i := 1045) (by decide +kernel)⟩
theorem lw_p42 : lw_okq (⟨"NightCarts$Shares", "greatestLevel", "(I)I"⟩, 9) := ⟨⟨by decide +kernel, by decide +kernel⟩, List.mem_of_getElem? (i := 279) (by decide +kernel), List.mem_of_getElem? (i := 1050) (by decide +kernel), List.mem_of_getElem? (i := 1051) (by decide +kernel)⟩
theorem lw_p43 : lw_okq (⟨"NightCarts$Shares", "missingToSleep", "(ILNightCarts$Law;)I"⟩, 9) := ⟨⟨by decide +kernel, by decide +kernel⟩, List.mem_of_getElem? (i := 279) (by decide +kernel), List.mem_of_getElem? (i := 1071) (by decide +kernel), List.mem_of_getElem? (i := 1072) (by decide +kernel)⟩
theorem lw_p44 : lw_okq (⟨"NightCarts$Shares", "weigh", "(II)V"⟩, 9) := ⟨⟨by decide +kernel, by decide +kernel⟩, List.mem_of_getElem? (i := 279) (by decide +kernel), List.mem_of_getElem? (i := 1080) (by decide +kernel), List.mem_of_getElem? (i := 1081) (by decide +kernel)⟩
theorem lw_p45 : lw_okq (⟨"NightCarts$Roads", "reachedFrom", "(I)I"⟩, 4) := ⟨⟨by decide +kernel, by decide +kernel⟩, List.mem_of_getElem? (i := 78) (by decide +kernel), List.mem_of_getElem? (i := 1109) (by decide +kernel), List.mem_of_getElem? (i := 1110) (by decide +kernel)⟩
theorem lw_p46 : lw_okq (⟨"NightCarts$Roads", "isCut", "(I)Z"⟩, 4) := ⟨⟨by decide +kernel, by decide +kernel⟩, List.mem_of_getElem? (i := 78) (by decide +kernel), List.mem_of_getElem? (i := 1133) (by decide +kernel), List.mem_of_getElem? (i := 1134) (by decide +kernel)⟩
theorem lw_p47 : lw_okq (⟨"NightCarts$Roads", "neighboursOf", "(III)I"⟩, 4) := ⟨⟨by decide +kernel, by decide +kernel⟩, List.mem_of_getElem? (i := 78) (by decide +kernel), List.mem_of_getElem? (i := 1139) (by decide +kernel), List.mem_of_getElem? (i := 1140) (by decide +kernel)⟩
def lw_privs_3 : List (MethodName × Nat) := [(⟨"NightCarts$Night", "leave", "(III)I"⟩, 16), (⟨"NightCarts$Night", "sleepsAfter", "(II)Z"⟩, 16), (⟨"NightCarts$Night", "lose", "(II)I"⟩, 16), (⟨"NightCarts", "canBeTried", "(I)Z"⟩, 12), (⟨"NightCarts$Rounds", "leastFrom", "(II)I"⟩, 5), (⟨"NightCarts$Rounds", "minutesBetween", "(II)I"⟩, 5), (⟨"NightCarts$Rounds", "minutesOver", "(III)I"⟩, 5), (⟨"NightCarts$Rounds", "writeRow", "()V"⟩, 5), (⟨"NightCarts$Rounds", "firstThatMeets", "(III)I"⟩, 5), (⟨"NightCarts$Shares", "neededFor", "(I)I"⟩, 9), (⟨"NightCarts$Shares", "greatestLevel", "(I)I"⟩, 9), (⟨"NightCarts$Shares", "missingToSleep", "(ILNightCarts$Law;)I"⟩, 9), (⟨"NightCarts$Shares", "weigh", "(II)V"⟩, 9), (⟨"NightCarts$Roads", "reachedFrom", "(I)I"⟩, 4), (⟨"NightCarts$Roads", "isCut", "(I)Z"⟩, 4), (⟨"NightCarts$Roads", "neighboursOf", "(III)I"⟩, 4)]
theorem lw_r3 : ∀ q ∈ lw_privs_3, lw_okq q := List.forall_mem_cons.mpr ⟨lw_p32, List.forall_mem_cons.mpr ⟨lw_p33, List.forall_mem_cons.mpr ⟨lw_p34, List.forall_mem_cons.mpr ⟨lw_p35, List.forall_mem_cons.mpr ⟨lw_p36, List.forall_mem_cons.mpr ⟨lw_p37, List.forall_mem_cons.mpr ⟨lw_p38, List.forall_mem_cons.mpr ⟨lw_p39, List.forall_mem_cons.mpr ⟨lw_p40, List.forall_mem_cons.mpr ⟨lw_p41, List.forall_mem_cons.mpr ⟨lw_p42, List.forall_mem_cons.mpr ⟨lw_p43, List.forall_mem_cons.mpr ⟨lw_p44, List.forall_mem_cons.mpr ⟨lw_p45, List.forall_mem_cons.mpr ⟨lw_p46, List.forall_mem_cons.mpr ⟨lw_p47, fun _ h => absurd h List.not_mem_nil⟩⟩⟩⟩⟩⟩⟩⟩⟩⟩⟩⟩⟩⟩⟩⟩
theorem lw_p48 : lw_okq (⟨"NightCarts", "sendOneCart", "(III)V"⟩, 12) := ⟨⟨by decide +kernel, by decide +kernel⟩, List.mem_of_getElem? (i := 23) (by decide +kernel), List.mem_of_getElem? (i := 1165) (by decide +kernel), List.mem_of_getElem? (i := 1166) (by decide +kernel)⟩
theorem lw_p49 : lw_okq (⟨"NightCarts$Shares", "wastedBy", "(IILNightCarts$Law;)I"⟩, 9) := ⟨⟨by decide +kernel, by decide +kernel⟩, List.mem_of_getElem? (i := 279) (by decide +kernel), List.mem_of_getElem? (i := 1183) (by decide +kernel), List.mem_of_getElem? (i := 1184) (by decide +kernel)⟩
theorem lw_p50 : lw_okq (⟨"NightCarts", "partJobs", "(III)I"⟩, 12) := ⟨⟨by decide +kernel, by decide +kernel⟩, List.mem_of_getElem? (i := 23) (by decide +kernel), List.mem_of_getElem? (i := 1200) (by decide +kernel), List.mem_of_getElem? (i := 1201) (by decide +kernel)⟩
theorem lw_p51 : lw_okq (⟨"NightCarts$Parting", "give", "(I)V"⟩, 7) := ⟨⟨by decide +kernel, by decide +kernel⟩, List.mem_of_getElem? (i := 313) (by decide +kernel), List.mem_of_getElem? (i := 1211) (by decide +kernel), List.mem_of_getElem? (i := 1212) (by decide +kernel)⟩
theorem lw_p52 : lw_okq (⟨"NightCarts$Parting", "keepRow", "()V"⟩, 7) := ⟨⟨by decide +kernel, by decide +kernel⟩, List.mem_of_getElem? (i := 313) (by decide +kernel), List.mem_of_getElem? (i := 1215) (by decide +kernel), List.mem_of_getElem? (i := 1216) (by decide +kernel)⟩
theorem lw_p53 : lw_okq (⟨"NightCarts$Parting", "giveTo", "(II)V"⟩, 7) := ⟨⟨by decide +kernel, by decide +kernel⟩, List.mem_of_getElem? (i := 313) (by decide +kernel), List.mem_of_getElem? (i := 1221) (by decide +kernel), List.mem_of_getElem? (i := 1222) (by decide +kernel)⟩
theorem lw_p54 : lw_okq (⟨"NightCarts", "matchBrides", "(II)I"⟩, 12) := ⟨⟨by decide +kernel, by decide +kernel⟩, List.mem_of_getElem? (i := 23) (by decide +kernel), List.mem_of_getElem? (i := 1247) (by decide +kernel), List.mem_of_getElem? (i := 1248) (by decide +kernel)⟩
theorem lw_p55 : lw_okq (⟨"NightCarts$Matching", "match", "(III)V"⟩, 6) := ⟨⟨by decide +kernel, by decide +kernel⟩, List.mem_of_getElem? (i := 341) (by decide +kernel), List.mem_of_getElem? (i := 1260) (by decide +kernel), List.mem_of_getElem? (i := 1261) (by decide +kernel)⟩
theorem lw_p56 : lw_okq (⟨"NightCarts$Matching", "matchWith", "(IIII)V"⟩, 6) := ⟨⟨by decide +kernel, by decide +kernel⟩, List.mem_of_getElem? (i := 341) (by decide +kernel), List.mem_of_getElem? (i := 1266) (by decide +kernel), List.mem_of_getElem? (i := 1267) (by decide +kernel)⟩
theorem lw_p57 : lw_okq (⟨"NightCarts", "latestStart", "(I)I"⟩, 12) := ⟨⟨by decide +kernel, by decide +kernel⟩, List.mem_of_getElem? (i := 23) (by decide +kernel), List.mem_of_getElem? (i := 1288) (by decide +kernel), List.mem_of_getElem? (i := 1289) (by decide +kernel)⟩
theorem lw_p58 : lw_okq (⟨"NightCarts", "countOfStreet", "(I)I"⟩, 12) := ⟨⟨by decide +kernel, by decide +kernel⟩, List.mem_of_getElem? (i := 23) (by decide +kernel), List.mem_of_getElem? (i := 1324) (by decide +kernel), List.mem_of_getElem? (i := 1325) (by decide +kernel)⟩
theorem lw_p59 : lw_okq (⟨"NightCarts", "toldCarts", "()I"⟩, 12) := ⟨⟨by decide +kernel, by decide +kernel⟩, List.mem_of_getElem? (i := 23) (by decide +kernel), List.mem_of_getElem? (i := 1339) (by decide +kernel), List.mem_of_getElem? (i := 1340) (by decide +kernel)⟩
theorem lw_p60 : lw_okq (⟨"NightCartsModel", "laysWays", "(II)V"⟩, 59) := ⟨⟨by decide +kernel, by decide +kernel⟩, List.mem_of_getElem? (i := 1348) (by decide +kernel), List.mem_of_getElem? (i := 1354) (by decide +kernel), List.mem_of_getElem? (i := 1355) (by decide +kernel)⟩
theorem lw_p61 : lw_okq (⟨"NightCartsModel", "isStreet", "(I)Z"⟩, 59) := ⟨⟨by decide +kernel, by decide +kernel⟩, List.mem_of_getElem? (i := 1348) (by decide +kernel), List.mem_of_getElem? (i := 1358) (by decide +kernel), List.mem_of_getElem? (i := 1359) (by decide +kernel)⟩
theorem lw_p62 : lw_okq (⟨"NightCartsModel", "types", "(I)V"⟩, 59) := ⟨⟨by decide +kernel, by decide +kernel⟩, List.mem_of_getElem? (i := 1348) (by decide +kernel), List.mem_of_getElem? (i := 1566) (by decide +kernel), List.mem_of_getElem? (i := 1567) (by decide +kernel)⟩
theorem lw_p63 : lw_okq (⟨"NightCartsModel", "readsClause", "()Z"⟩, 59) := ⟨⟨by decide +kernel, by decide +kernel⟩, List.mem_of_getElem? (i := 1348) (by decide +kernel), List.mem_of_getElem? (i := 1574) (by decide +kernel), List.mem_of_getElem? (i := 1575) (by decide +kernel)⟩
def lw_privs_4 : List (MethodName × Nat) := [(⟨"NightCarts", "sendOneCart", "(III)V"⟩, 12), (⟨"NightCarts$Shares", "wastedBy", "(IILNightCarts$Law;)I"⟩, 9), (⟨"NightCarts", "partJobs", "(III)I"⟩, 12), (⟨"NightCarts$Parting", "give", "(I)V"⟩, 7), (⟨"NightCarts$Parting", "keepRow", "()V"⟩, 7), (⟨"NightCarts$Parting", "giveTo", "(II)V"⟩, 7), (⟨"NightCarts", "matchBrides", "(II)I"⟩, 12), (⟨"NightCarts$Matching", "match", "(III)V"⟩, 6), (⟨"NightCarts$Matching", "matchWith", "(IIII)V"⟩, 6), (⟨"NightCarts", "latestStart", "(I)I"⟩, 12), (⟨"NightCarts", "countOfStreet", "(I)I"⟩, 12), (⟨"NightCarts", "toldCarts", "()I"⟩, 12), (⟨"NightCartsModel", "laysWays", "(II)V"⟩, 59), (⟨"NightCartsModel", "isStreet", "(I)Z"⟩, 59), (⟨"NightCartsModel", "types", "(I)V"⟩, 59), (⟨"NightCartsModel", "readsClause", "()Z"⟩, 59)]
theorem lw_r4 : ∀ q ∈ lw_privs_4, lw_okq q := List.forall_mem_cons.mpr ⟨lw_p48, List.forall_mem_cons.mpr ⟨lw_p49, List.forall_mem_cons.mpr ⟨lw_p50, List.forall_mem_cons.mpr ⟨lw_p51, List.forall_mem_cons.mpr ⟨lw_p52, List.forall_mem_cons.mpr ⟨lw_p53, List.forall_mem_cons.mpr ⟨lw_p54, List.forall_mem_cons.mpr ⟨lw_p55, List.forall_mem_cons.mpr ⟨lw_p56, List.forall_mem_cons.mpr ⟨lw_p57, List.forall_mem_cons.mpr ⟨lw_p58, List.forall_mem_cons.mpr ⟨lw_p59, List.forall_mem_cons.mpr ⟨lw_p60, List.forall_mem_cons.mpr ⟨lw_p61, List.forall_mem_cons.mpr ⟨lw_p62, List.forall_mem_cons.mpr ⟨lw_p63, fun _ h => absurd h List.not_mem_nil⟩⟩⟩⟩⟩⟩⟩⟩⟩⟩⟩⟩⟩⟩⟩⟩
theorem lw_p64 : lw_okq (⟨"NightCartsModel", "here", "()I"⟩, 59) := ⟨⟨by decide +kernel, by decide +kernel⟩, List.mem_of_getElem? (i := 1348) (by decide +kernel), List.mem_of_getElem? (i := 1578) (by decide +kernel), List.mem_of_getElem? (i := 1579) (by decide +kernel)⟩
theorem lw_p65 : lw_okq (⟨"NightCartsModel", "wrongAt", "(II)Z"⟩, 59) := ⟨⟨by decide +kernel, by decide +kernel⟩, List.mem_of_getElem? (i := 1348) (by decide +kernel), List.mem_of_getElem? (i := 1585) (by decide +kernel), List.mem_of_getElem? (i := 1586) (by decide +kernel)⟩
theorem lw_p66 : lw_okq (⟨"NightCartsModel", "readsSum", "()Z"⟩, 59) := ⟨⟨by decide +kernel, by decide +kernel⟩, List.mem_of_getElem? (i := 1348) (by decide +kernel), List.mem_of_getElem? (i := 1589) (by decide +kernel), List.mem_of_getElem? (i := 1590) (by decide +kernel)⟩
theorem lw_p67 : lw_okq (⟨"NightCartsModel", "readsFactor", "()Z"⟩, 59) := ⟨⟨by decide +kernel, by decide +kernel⟩, List.mem_of_getElem? (i := 1348) (by decide +kernel), List.mem_of_getElem? (i := 1593) (by decide +kernel), List.mem_of_getElem? (i := 1594) (by decide +kernel)⟩
theorem lw_p68 : lw_okq (⟨"NightCartsModel", "opens", "(I)Z"⟩, 59) := ⟨⟨by decide +kernel, by decide +kernel⟩, List.mem_of_getElem? (i := 1348) (by decide +kernel), List.mem_of_getElem? (i := 1597) (by decide +kernel), List.mem_of_getElem? (i := 1598) (by decide +kernel)⟩
theorem lw_p69 : lw_okq (⟨"NightCartsModel", "isDigit", "()Z"⟩, 59) := ⟨⟨by decide +kernel, by decide +kernel⟩, List.mem_of_getElem? (i := 1348) (by decide +kernel), List.mem_of_getElem? (i := 1602) (by decide +kernel), List.mem_of_getElem? (i := 1603) (by decide +kernel)⟩
theorem lw_p70 : lw_okq (⟨"NightCartsModel", "readsNumber", "()Z"⟩, 59) := ⟨⟨by decide +kernel, by decide +kernel⟩, List.mem_of_getElem? (i := 1348) (by decide +kernel), List.mem_of_getElem? (i := 1606) (by decide +kernel), List.mem_of_getElem? (i := 1607) (by decide +kernel)⟩
theorem lw_p71 : lw_okq (⟨"NightCartsModel", "notes", "(II)V"⟩, 59) := ⟨⟨by decide +kernel, by decide +kernel⟩, List.mem_of_getElem? (i := 1348) (by decide +kernel), List.mem_of_getElem? (i := 1610) (by decide +kernel), List.mem_of_getElem? (i := 1611) (by decide +kernel)⟩
theorem lw_p72 : lw_okq (⟨"NightCartsModel", "closesSums", "(Z)V"⟩, 59) := ⟨⟨by decide +kernel, by decide +kernel⟩, List.mem_of_getElem? (i := 1348) (by decide +kernel), List.mem_of_getElem? (i := 1620) (by decide +kernel), List.mem_of_getElem? (i := 1621) (by decide +kernel)⟩
theorem lw_p73 : lw_okq (⟨"NightCartsModel", "waitTop", "()I"⟩, 59) := ⟨⟨by decide +kernel, by decide +kernel⟩, List.mem_of_getElem? (i := 1348) (by decide +kernel), List.mem_of_getElem? (i := 1624) (by decide +kernel), List.mem_of_getElem? (i := 1625) (by decide +kernel)⟩
theorem lw_p74 : lw_okq (⟨"NightCartsModel", "hasOpenSum", "(I)Z"⟩, 59) := ⟨⟨by decide +kernel, by decide +kernel⟩, List.mem_of_getElem? (i := 1348) (by decide +kernel), List.mem_of_getElem? (i := 1628) (by decide +kernel), List.mem_of_getElem? (i := 1629) (by decide +kernel)⟩
theorem lw_p75 : lw_okq (⟨"NightCartsModel", "readsCondition", "()Z"⟩, 59) := ⟨⟨by decide +kernel, by decide +kernel⟩, List.mem_of_getElem? (i := 1348) (by decide +kernel), List.mem_of_getElem? (i := 1632) (by decide +kernel), List.mem_of_getElem? (i := 1633) (by decide +kernel)⟩
theorem lw_p76 : lw_okq (⟨"NightCartsModel", "readsCompared", "()Z"⟩, 59) := ⟨⟨by decide +kernel, by decide +kernel⟩, List.mem_of_getElem? (i := 1348) (by decide +kernel), List.mem_of_getElem? (i := 1636) (by decide +kernel), List.mem_of_getElem? (i := 1637) (by decide +kernel)⟩
theorem lw_p77 : lw_okq (⟨"NightCartsModel", "endsPiece", "()V"⟩, 59) := ⟨⟨by decide +kernel, by decide +kernel⟩, List.mem_of_getElem? (i := 1348) (by decide +kernel), List.mem_of_getElem? (i := 1640) (by decide +kernel), List.mem_of_getElem? (i := 1641) (by decide +kernel)⟩
theorem lw_p78 : lw_okq (⟨"NightCartsModel", "lands", "(Z)V"⟩, 59) := ⟨⟨by decide +kernel, by decide +kernel⟩, List.mem_of_getElem? (i := 1348) (by decide +kernel), List.mem_of_getElem? (i := 1644) (by decide +kernel), List.mem_of_getElem? (i := 1645) (by decide +kernel)⟩
theorem lw_p79 : lw_okq (⟨"NightCartsModel", "jumps", "(I)V"⟩, 59) := ⟨⟨by decide +kernel, by decide +kernel⟩, List.mem_of_getElem? (i := 1348) (by decide +kernel), List.mem_of_getElem? (i := 1648) (by decide +kernel), List.mem_of_getElem? (i := 1649) (by decide +kernel)⟩
def lw_privs_5 : List (MethodName × Nat) := [(⟨"NightCartsModel", "here", "()I"⟩, 59), (⟨"NightCartsModel", "wrongAt", "(II)Z"⟩, 59), (⟨"NightCartsModel", "readsSum", "()Z"⟩, 59), (⟨"NightCartsModel", "readsFactor", "()Z"⟩, 59), (⟨"NightCartsModel", "opens", "(I)Z"⟩, 59), (⟨"NightCartsModel", "isDigit", "()Z"⟩, 59), (⟨"NightCartsModel", "readsNumber", "()Z"⟩, 59), (⟨"NightCartsModel", "notes", "(II)V"⟩, 59), (⟨"NightCartsModel", "closesSums", "(Z)V"⟩, 59), (⟨"NightCartsModel", "waitTop", "()I"⟩, 59), (⟨"NightCartsModel", "hasOpenSum", "(I)Z"⟩, 59), (⟨"NightCartsModel", "readsCondition", "()Z"⟩, 59), (⟨"NightCartsModel", "readsCompared", "()Z"⟩, 59), (⟨"NightCartsModel", "endsPiece", "()V"⟩, 59), (⟨"NightCartsModel", "lands", "(Z)V"⟩, 59), (⟨"NightCartsModel", "jumps", "(I)V"⟩, 59)]
theorem lw_r5 : ∀ q ∈ lw_privs_5, lw_okq q := List.forall_mem_cons.mpr ⟨lw_p64, List.forall_mem_cons.mpr ⟨lw_p65, List.forall_mem_cons.mpr ⟨lw_p66, List.forall_mem_cons.mpr ⟨lw_p67, List.forall_mem_cons.mpr ⟨lw_p68, List.forall_mem_cons.mpr ⟨lw_p69, List.forall_mem_cons.mpr ⟨lw_p70, List.forall_mem_cons.mpr ⟨lw_p71, List.forall_mem_cons.mpr ⟨lw_p72, List.forall_mem_cons.mpr ⟨lw_p73, List.forall_mem_cons.mpr ⟨lw_p74, List.forall_mem_cons.mpr ⟨lw_p75, List.forall_mem_cons.mpr ⟨lw_p76, List.forall_mem_cons.mpr ⟨lw_p77, List.forall_mem_cons.mpr ⟨lw_p78, List.forall_mem_cons.mpr ⟨lw_p79, fun _ h => absurd h List.not_mem_nil⟩⟩⟩⟩⟩⟩⟩⟩⟩⟩⟩⟩⟩⟩⟩⟩
theorem lw_p80 : lw_okq (⟨"NightCartsModel", "takes", "(I)Z"⟩, 59) := ⟨⟨by decide +kernel, by decide +kernel⟩, List.mem_of_getElem? (i := 1348) (by decide +kernel), List.mem_of_getElem? (i := 1652) (by decide +kernel), List.mem_of_getElem? (i := 1653) (by decide +kernel)⟩
theorem lw_p81 : lw_okq (⟨"NightCartsModel", "readsLine", "()Z"⟩, 59) := ⟨⟨by decide +kernel, by decide +kernel⟩, List.mem_of_getElem? (i := 1348) (by decide +kernel), List.mem_of_getElem? (i := 1660) (by decide +kernel), List.mem_of_getElem? (i := 1661) (by decide +kernel)⟩
theorem lw_p82 : lw_okq (⟨"NightCartsModel", "isLetterHere", "()Z"⟩, 59) := ⟨⟨by decide +kernel, by decide +kernel⟩, List.mem_of_getElem? (i := 1348) (by decide +kernel), List.mem_of_getElem? (i := 1664) (by decide +kernel), List.mem_of_getElem? (i := 1665) (by decide +kernel)⟩
theorem lw_p83 : lw_okq (⟨"NightCartsModel", "readsTwo", "()Z"⟩, 59) := ⟨⟨by decide +kernel, by decide +kernel⟩, List.mem_of_getElem? (i := 1348) (by decide +kernel), List.mem_of_getElem? (i := 1668) (by decide +kernel), List.mem_of_getElem? (i := 1669) (by decide +kernel)⟩
theorem lw_p84 : lw_okq (⟨"NightCartsModel", "readsStop", "()Z"⟩, 59) := ⟨⟨by decide +kernel, by decide +kernel⟩, List.mem_of_getElem? (i := 1348) (by decide +kernel), List.mem_of_getElem? (i := 1676) (by decide +kernel), List.mem_of_getElem? (i := 1677) (by decide +kernel)⟩
theorem lw_p85 : lw_okq (⟨"NightCartsModel", "goesNight", "()V"⟩, 59) := ⟨⟨by decide +kernel, by decide +kernel⟩, List.mem_of_getElem? (i := 1348) (by decide +kernel), List.mem_of_getElem? (i := 1684) (by decide +kernel), List.mem_of_getElem? (i := 1685) (by decide +kernel)⟩
theorem lw_p86 : lw_okq (⟨"NightCartsModel", "isCart", "(I)Z"⟩, 59) := ⟨⟨by decide +kernel, by decide +kernel⟩, List.mem_of_getElem? (i := 1348) (by decide +kernel), List.mem_of_getElem? (i := 1688) (by decide +kernel), List.mem_of_getElem? (i := 1689) (by decide +kernel)⟩
theorem lw_p87 : lw_okq (⟨"NightCartsModel", "goesOn", "(II)V"⟩, 59) := ⟨⟨by decide +kernel, by decide +kernel⟩, List.mem_of_getElem? (i := 1348) (by decide +kernel), List.mem_of_getElem? (i := 1692) (by decide +kernel), List.mem_of_getElem? (i := 1693) (by decide +kernel)⟩
theorem lw_p88 : lw_okq (⟨"NightCartsModel", "canCome", "(II)Z"⟩, 59) := ⟨⟨by decide +kernel, by decide +kernel⟩, List.mem_of_getElem? (i := 1348) (by decide +kernel), List.mem_of_getElem? (i := 1696) (by decide +kernel), List.mem_of_getElem? (i := 1697) (by decide +kernel)⟩
theorem lw_p89 : lw_okq (⟨"NightCartsModel", "farOf", "(II)I"⟩, 59) := ⟨⟨by decide +kernel, by decide +kernel⟩, List.mem_of_getElem? (i := 1348) (by decide +kernel), List.mem_of_getElem? (i := 1703) (by decide +kernel), List.mem_of_getElem? (i := 1704) (by decide +kernel)⟩
theorem lw_p90 : lw_okq (⟨"NightCartsModel", "arrives", "(II)V"⟩, 59) := ⟨⟨by decide +kernel, by decide +kernel⟩, List.mem_of_getElem? (i := 1348) (by decide +kernel), List.mem_of_getElem? (i := 1707) (by decide +kernel), List.mem_of_getElem? (i := 1708) (by decide +kernel)⟩
theorem lw_p91 : lw_okq (⟨"NightCartsModel", "feels", "(III)V"⟩, 59) := ⟨⟨by decide +kernel, by decide +kernel⟩, List.mem_of_getElem? (i := 1348) (by decide +kernel), List.mem_of_getElem? (i := 1711) (by decide +kernel), List.mem_of_getElem? (i := 1712) (by decide +kernel)⟩
theorem lw_p92 : lw_okq (⟨"NightCartsModel", "byLaw", "(II)I"⟩, 59) := ⟨⟨by decide +kernel, by decide +kernel⟩, List.mem_of_getElem? (i := 1348) (by decide +kernel), List.mem_of_getElem? (i := 1715) (by decide +kernel), List.mem_of_getElem? (i := 1716) (by decide +kernel)⟩
theorem lw_p93 : lw_okq (⟨"NightCartsModel", "comesTo", "(II)I"⟩, 59) := ⟨⟨by decide +kernel, by decide +kernel⟩, List.mem_of_getElem? (i := 1348) (by decide +kernel), List.mem_of_getElem? (i := 1719) (by decide +kernel), List.mem_of_getElem? (i := 1720) (by decide +kernel)⟩
theorem lw_p94 : lw_okq (⟨"NightCartsModel", "hourEnds", "(I)V"⟩, 59) := ⟨⟨by decide +kernel, by decide +kernel⟩, List.mem_of_getElem? (i := 1348) (by decide +kernel), List.mem_of_getElem? (i := 1726) (by decide +kernel), List.mem_of_getElem? (i := 1727) (by decide +kernel)⟩
theorem lw_p95 : lw_okq (⟨"NightCartsModel", "byStreet", "(III)I"⟩, 59) := ⟨⟨by decide +kernel, by decide +kernel⟩, List.mem_of_getElem? (i := 1348) (by decide +kernel), List.mem_of_getElem? (i := 1730) (by decide +kernel), List.mem_of_getElem? (i := 1731) (by decide +kernel)⟩
def lw_privs_6 : List (MethodName × Nat) := [(⟨"NightCartsModel", "takes", "(I)Z"⟩, 59), (⟨"NightCartsModel", "readsLine", "()Z"⟩, 59), (⟨"NightCartsModel", "isLetterHere", "()Z"⟩, 59), (⟨"NightCartsModel", "readsTwo", "()Z"⟩, 59), (⟨"NightCartsModel", "readsStop", "()Z"⟩, 59), (⟨"NightCartsModel", "goesNight", "()V"⟩, 59), (⟨"NightCartsModel", "isCart", "(I)Z"⟩, 59), (⟨"NightCartsModel", "goesOn", "(II)V"⟩, 59), (⟨"NightCartsModel", "canCome", "(II)Z"⟩, 59), (⟨"NightCartsModel", "farOf", "(II)I"⟩, 59), (⟨"NightCartsModel", "arrives", "(II)V"⟩, 59), (⟨"NightCartsModel", "feels", "(III)V"⟩, 59), (⟨"NightCartsModel", "byLaw", "(II)I"⟩, 59), (⟨"NightCartsModel", "comesTo", "(II)I"⟩, 59), (⟨"NightCartsModel", "hourEnds", "(I)V"⟩, 59), (⟨"NightCartsModel", "byStreet", "(III)I"⟩, 59)]
theorem lw_r6 : ∀ q ∈ lw_privs_6, lw_okq q := List.forall_mem_cons.mpr ⟨lw_p80, List.forall_mem_cons.mpr ⟨lw_p81, List.forall_mem_cons.mpr ⟨lw_p82, List.forall_mem_cons.mpr ⟨lw_p83, List.forall_mem_cons.mpr ⟨lw_p84, List.forall_mem_cons.mpr ⟨lw_p85, List.forall_mem_cons.mpr ⟨lw_p86, List.forall_mem_cons.mpr ⟨lw_p87, List.forall_mem_cons.mpr ⟨lw_p88, List.forall_mem_cons.mpr ⟨lw_p89, List.forall_mem_cons.mpr ⟨lw_p90, List.forall_mem_cons.mpr ⟨lw_p91, List.forall_mem_cons.mpr ⟨lw_p92, List.forall_mem_cons.mpr ⟨lw_p93, List.forall_mem_cons.mpr ⟨lw_p94, List.forall_mem_cons.mpr ⟨lw_p95, fun _ h => absurd h List.not_mem_nil⟩⟩⟩⟩⟩⟩⟩⟩⟩⟩⟩⟩⟩⟩⟩⟩
theorem lw_p96 : lw_okq (⟨"NightCartsModel", "yardsAll", "()I"⟩, 59) := ⟨⟨by decide +kernel, by decide +kernel⟩, List.mem_of_getElem? (i := 1348) (by decide +kernel), List.mem_of_getElem? (i := 1734) (by decide +kernel), List.mem_of_getElem? (i := 1735) (by decide +kernel)⟩
theorem lw_p97 : lw_okq (⟨"NightCartsModel", "lastOf", "(I)I"⟩, 59) := ⟨⟨by decide +kernel, by decide +kernel⟩, List.mem_of_getElem? (i := 1348) (by decide +kernel), List.mem_of_getElem? (i := 1745) (by decide +kernel), List.mem_of_getElem? (i := 1746) (by decide +kernel)⟩
theorem lw_p98 : lw_okq (⟨"NightCartsModel", "sleptBy", "()I"⟩, 59) := ⟨⟨by decide +kernel, by decide +kernel⟩, List.mem_of_getElem? (i := 1348) (by decide +kernel), List.mem_of_getElem? (i := 1753) (by decide +kernel), List.mem_of_getElem? (i := 1754) (by decide +kernel)⟩
theorem lw_p99 : lw_okq (⟨"NightCartsModel", "sleepsAll", "(I)Z"⟩, 59) := ⟨⟨by decide +kernel, by decide +kernel⟩, List.mem_of_getElem? (i := 1348) (by decide +kernel), List.mem_of_getElem? (i := 1761) (by decide +kernel), List.mem_of_getElem? (i := 1762) (by decide +kernel)⟩
theorem lw_p100 : lw_okq (⟨"NightCartsModel", "laysWho", "(I)I"⟩, 59) := ⟨⟨by decide +kernel, by decide +kernel⟩, List.mem_of_getElem? (i := 1348) (by decide +kernel), List.mem_of_getElem? (i := 1780) (by decide +kernel), List.mem_of_getElem? (i := 1781) (by decide +kernel)⟩
theorem lw_p101 : lw_okq (⟨"NightCartsModel", "readsRow", "(II)Z"⟩, 59) := ⟨⟨by decide +kernel, by decide +kernel⟩, List.mem_of_getElem? (i := 1348) (by decide +kernel), List.mem_of_getElem? (i := 1787) (by decide +kernel), List.mem_of_getElem? (i := 1788) (by decide +kernel)⟩
theorem lw_p102 : lw_okq (⟨"NightCartsModel", "roundBy", "(II)I"⟩, 59) := ⟨⟨by decide +kernel, by decide +kernel⟩, List.mem_of_getElem? (i := 1348) (by decide +kernel), List.mem_of_getElem? (i := 1791) (by decide +kernel), List.mem_of_getElem? (i := 1792) (by decide +kernel)⟩
theorem lw_p103 : lw_okq (⟨"NightCartsModel", "needFor", "(II)I"⟩, 59) := ⟨⟨by decide +kernel, by decide +kernel⟩, List.mem_of_getElem? (i := 1348) (by decide +kernel), List.mem_of_getElem? (i := 1799) (by decide +kernel), List.mem_of_getElem? (i := 1800) (by decide +kernel)⟩
theorem lw_p104 : lw_okq (⟨"NightCartsModel", "laysReach", "()V"⟩, 59) := ⟨⟨by decide +kernel, by decide +kernel⟩, List.mem_of_getElem? (i := 1348) (by decide +kernel), List.mem_of_getElem? (i := 1814) (by decide +kernel), List.mem_of_getElem? (i := 1815) (by decide +kernel)⟩
theorem lw_p105 : lw_okq (⟨"NightCartsModel", "bestBy", "([I)I"⟩, 59) := ⟨⟨by decide +kernel, by decide +kernel⟩, List.mem_of_getElem? (i := 1348) (by decide +kernel), List.mem_of_getElem? (i := 1818) (by decide +kernel), List.mem_of_getElem? (i := 1819) (by decide +kernel)⟩
theorem lw_p106 : lw_okq (⟨"NightCartsModel", "spared", "(I)I"⟩, 59) := ⟨⟨by decide +kernel, by decide +kernel⟩, List.mem_of_getElem? (i := 1348) (by decide +kernel), List.mem_of_getElem? (i := 1830) (by decide +kernel), List.mem_of_getElem? (i := 1831) (by decide +kernel)⟩
theorem lw_p107 : lw_okq (⟨"NightCartsModel", "longestBy", "(III)I"⟩, 59) := ⟨⟨by decide +kernel, by decide +kernel⟩, List.mem_of_getElem? (i := 1348) (by decide +kernel), List.mem_of_getElem? (i := 1838) (by decide +kernel), List.mem_of_getElem? (i := 1839) (by decide +kernel)⟩
theorem lw_p108 : lw_okq (⟨"NightCartsModel", "missingBy", "(I)I"⟩, 59) := ⟨⟨by decide +kernel, by decide +kernel⟩, List.mem_of_getElem? (i := 1348) (by decide +kernel), List.mem_of_getElem? (i := 1850) (by decide +kernel), List.mem_of_getElem? (i := 1851) (by decide +kernel)⟩
theorem lw_p109 : lw_okq (⟨"NightCartsModel", "roadMany", "()I"⟩, 59) := ⟨⟨by decide +kernel, by decide +kernel⟩, List.mem_of_getElem? (i := 1348) (by decide +kernel), List.mem_of_getElem? (i := 1878) (by decide +kernel), List.mem_of_getElem? (i := 1879) (by decide +kernel)⟩
theorem lw_p110 : lw_okq (⟨"NightCartsModel", "streetIs", "(II)I"⟩, 59) := ⟨⟨by decide +kernel, by decide +kernel⟩, List.mem_of_getElem? (i := 1348) (by decide +kernel), List.mem_of_getElem? (i := 1882) (by decide +kernel), List.mem_of_getElem? (i := 1883) (by decide +kernel)⟩
def lw_privs_7 : List (MethodName × Nat) := [(⟨"NightCartsModel", "yardsAll", "()I"⟩, 59), (⟨"NightCartsModel", "lastOf", "(I)I"⟩, 59), (⟨"NightCartsModel", "sleptBy", "()I"⟩, 59), (⟨"NightCartsModel", "sleepsAll", "(I)Z"⟩, 59), (⟨"NightCartsModel", "laysWho", "(I)I"⟩, 59), (⟨"NightCartsModel", "readsRow", "(II)Z"⟩, 59), (⟨"NightCartsModel", "roundBy", "(II)I"⟩, 59), (⟨"NightCartsModel", "needFor", "(II)I"⟩, 59), (⟨"NightCartsModel", "laysReach", "()V"⟩, 59), (⟨"NightCartsModel", "bestBy", "([I)I"⟩, 59), (⟨"NightCartsModel", "spared", "(I)I"⟩, 59), (⟨"NightCartsModel", "longestBy", "(III)I"⟩, 59), (⟨"NightCartsModel", "missingBy", "(I)I"⟩, 59), (⟨"NightCartsModel", "roadMany", "()I"⟩, 59), (⟨"NightCartsModel", "streetIs", "(II)I"⟩, 59)]
theorem lw_r7 : ∀ q ∈ lw_privs_7, lw_okq q := List.forall_mem_cons.mpr ⟨lw_p96, List.forall_mem_cons.mpr ⟨lw_p97, List.forall_mem_cons.mpr ⟨lw_p98, List.forall_mem_cons.mpr ⟨lw_p99, List.forall_mem_cons.mpr ⟨lw_p100, List.forall_mem_cons.mpr ⟨lw_p101, List.forall_mem_cons.mpr ⟨lw_p102, List.forall_mem_cons.mpr ⟨lw_p103, List.forall_mem_cons.mpr ⟨lw_p104, List.forall_mem_cons.mpr ⟨lw_p105, List.forall_mem_cons.mpr ⟨lw_p106, List.forall_mem_cons.mpr ⟨lw_p107, List.forall_mem_cons.mpr ⟨lw_p108, List.forall_mem_cons.mpr ⟨lw_p109, List.forall_mem_cons.mpr ⟨lw_p110, fun _ h => absurd h List.not_mem_nil⟩⟩⟩⟩⟩⟩⟩⟩⟩⟩⟩⟩⟩⟩⟩
def lw_privs : List (MethodName × Nat) := lw_privs_1 ++ (lw_privs_2 ++ (lw_privs_3 ++ (lw_privs_4 ++ (lw_privs_5 ++ (lw_privs_6 ++ (lw_privs_7))))))
def lw_tbl : List Cond := k2_sels lw_privs ++ tables_1
theorem lw_privs_ok : ∀ q ∈ lw_privs, lw_okq q := by
  show ∀ q ∈ lw_privs_1 ++ (lw_privs_2 ++ (lw_privs_3 ++ (lw_privs_4 ++ (lw_privs_5 ++ (lw_privs_6 ++ (lw_privs_7)))))), lw_okq q
  exact List.forall_mem_append.mpr ⟨lw_r1, List.forall_mem_append.mpr ⟨lw_r2, List.forall_mem_append.mpr ⟨lw_r3, List.forall_mem_append.mpr ⟨lw_r4, List.forall_mem_append.mpr ⟨lw_r5, List.forall_mem_append.mpr ⟨lw_r6, lw_r7⟩⟩⟩⟩⟩⟩
def RX0 : String := "NightCarts$Cart"
def TX0 : u_T := fun k => match k with
  | 0 => ("NightCarts$Cart", "streets", "[I", true)
  | 1 => ("NightCarts$Cart", "yards", "[I", true)
  | 2 => ("NightCarts$Cart", "takes", "[Z", true)
  | 3 => ("NightCarts$Cart", "stops", "I", false)
  | _ => ("NightCarts$Cart", "room", "I", false)
def tyX0 : Nat → FieldType := fun k => match k with
  | 0 => .array .int
  | 1 => .array .int
  | 2 => .array .boolean
  | 3 => .int
  | _ => .int
abbrev wsX00 : List Cond := u_ws RX0 TX0 5
theorem nmX0 : ∀ a, a < 5 → ∀ b, b < 5 → a ≠ b → (TX0 a).2.1 ≠ (TX0 b).2.1 := by decide +kernel
theorem tyX0_ok : ∀ k, k < 5 → parseFieldDescriptor (TX0 k).2.2.1 = some (tyX0 k) := by decide +kernel
abbrev cX0_init : ByteArray := prog_2_method_1_code
def yX0_init : MethodName := ⟨RX0, "<init>", "()V"⟩
abbrev cX0_isTold : ByteArray := prog_2_method_2_code
def yX0_isTold : MethodName := ⟨RX0, "isTold", "()Z"⟩
abbrev cX0_room : ByteArray := prog_2_method_3_code
def yX0_room : MethodName := ⟨RX0, "room", "()I"⟩
abbrev cX0_tellRoom : ByteArray := prog_2_method_4_code
def yX0_tellRoom : MethodName := ⟨RX0, "tellRoom", "(I)V"⟩
abbrev cX0_stops : ByteArray := prog_2_method_5_code
def yX0_stops : MethodName := ⟨RX0, "stops", "()I"⟩
abbrev cX0_streetOf : ByteArray := prog_2_method_6_code
def yX0_streetOf : MethodName := ⟨RX0, "streetOf", "(I)I"⟩
abbrev cX0_yardsOf : ByteArray := prog_2_method_7_code
def yX0_yardsOf : MethodName := ⟨RX0, "yardsOf", "(I)I"⟩
abbrev cX0_takesOnAt : ByteArray := prog_2_method_8_code
def yX0_takesOnAt : MethodName := ⟨RX0, "takesOnAt", "(I)Z"⟩
abbrev cX0_readStops : ByteArray := prog_2_method_9_code
def yX0_readStops : MethodName := ⟨RX0, "readStops", "(LNightCarts$Tape;)I"⟩
abbrev cX0_readStop : ByteArray := prog_2_method_10_code
def yX0_readStop : MethodName := ⟨RX0, "readStop", "(LNightCarts$Tape;)V"⟩
abbrev cX0_addStop : ByteArray := prog_2_method_11_code
def yX0_addStop : MethodName := ⟨RX0, "addStop", "(ZII)V"⟩
abbrev cX0_planOneStop : ByteArray := prog_2_method_12_code
def yX0_planOneStop : MethodName := ⟨RX0, "planOneStop", "(II)V"⟩
abbrev cX0_takeStopsOf : ByteArray := prog_2_method_13_code
def yX0_takeStopsOf : MethodName := ⟨RX0, "takeStopsOf", "(LNightCarts$Cart;)V"⟩
def RX1 : String := "NightCarts$City"
def TX1 : u_T := fun k => match k with
  | 0 => ("NightCarts$City", "houses", "[I", true)
  | 1 => ("NightCarts$City", "lamps", "[I", true)
  | 2 => ("NightCarts$City", "stars", "[I", true)
  | 3 => ("NightCarts$City", "depths", "[I", true)
  | 4 => ("NightCarts$City", "told", "I", false)
  | 5 => ("NightCarts$City", "night", "I", false)
  | 6 => ("NightCarts$City", "slept", "I", false)
  | 7 => ("NightCarts$City", "swept", "I", false)
  | 8 => ("NightCarts$City", "keptDepths", "[I", true)
  | 9 => ("NightCarts$City", "isKept", "Z", false)
  | 10 => ("NightCarts$City", "keptNight", "I", false)
  | 11 => ("NightCarts$City", "keptSlept", "I", false)
  | _ => ("NightCarts$City", "keptSwept", "I", false)
def tyX1 : Nat → FieldType := fun k => match k with
  | 0 => .array .int
  | 1 => .array .int
  | 2 => .array .int
  | 3 => .array .int
  | 4 => .int
  | 5 => .int
  | 6 => .int
  | 7 => .int
  | 8 => .array .int
  | 9 => .boolean
  | 10 => .int
  | 11 => .int
  | _ => .int
abbrev wsX10 : List Cond := u_ws RX1 TX1 13
theorem nmX1 : ∀ a, a < 13 → ∀ b, b < 13 → a ≠ b → (TX1 a).2.1 ≠ (TX1 b).2.1 := by decide +kernel
theorem tyX1_ok : ∀ k, k < 13 → parseFieldDescriptor (TX1 k).2.2.1 = some (tyX1 k) := by decide +kernel
abbrev cX1_init : ByteArray := prog_3_method_1_code
def yX1_init : MethodName := ⟨RX1, "<init>", "()V"⟩
abbrev cX1_isTold : ByteArray := prog_3_method_2_code
def yX1_isTold : MethodName := ⟨RX1, "isTold", "(I)Z"⟩
abbrev cX1_areTold : ByteArray := prog_3_method_3_code
def yX1_areTold : MethodName := ⟨RX1, "areTold", "(II)Z"⟩
abbrev cX1_toldStreets : ByteArray := prog_3_method_4_code
def yX1_toldStreets : MethodName := ⟨RX1, "toldStreets", "()I"⟩
abbrev cX1_tell : ByteArray := prog_3_method_5_code
def yX1_tell : MethodName := ⟨RX1, "tell", "(IIII)V"⟩
abbrev cX1_housesOf : ByteArray := prog_3_method_6_code
def yX1_housesOf : MethodName := ⟨RX1, "housesOf", "(I)I"⟩
abbrev cX1_lampsOf : ByteArray := prog_3_method_7_code
def yX1_lampsOf : MethodName := ⟨RX1, "lampsOf", "(I)I"⟩
abbrev cX1_starsOf : ByteArray := prog_3_method_8_code
def yX1_starsOf : MethodName := ⟨RX1, "starsOf", "(I)I"⟩
abbrev cX1_depthOf : ByteArray := prog_3_method_9_code
def yX1_depthOf : MethodName := ⟨RX1, "depthOf", "(I)I"⟩
abbrev cX1_deepen : ByteArray := prog_3_method_10_code
def yX1_deepen : MethodName := ⟨RX1, "deepen", "(II)I"⟩
abbrev cX1_copyDepths : ByteArray := prog_3_method_11_code
def yX1_copyDepths : MethodName := ⟨RX1, "copyDepths", "([I)V"⟩
abbrev cX1_night : ByteArray := prog_3_method_12_code
def yX1_night : MethodName := ⟨RX1, "night", "()I"⟩
abbrev cX1_slept : ByteArray := prog_3_method_13_code
def yX1_slept : MethodName := ⟨RX1, "slept", "()I"⟩
abbrev cX1_swept : ByteArray := prog_3_method_14_code
def yX1_swept : MethodName := ⟨RX1, "swept", "()I"⟩
abbrev cX1_endNight : ByteArray := prog_3_method_15_code
def yX1_endNight : MethodName := ⟨RX1, "endNight", "(II)V"⟩
abbrev cX1_store : ByteArray := prog_3_method_16_code
def yX1_store : MethodName := ⟨RX1, "store", "()I"⟩
abbrev cX1_restore : ByteArray := prog_3_method_17_code
def yX1_restore : MethodName := ⟨RX1, "restore", "()Z"⟩
def RX2 : String := "NightCarts$Law"
def TX2 : u_T := fun k => match k with
  | 0 => ("NightCarts$Law", "letters", "[I", true)
  | 1 => ("NightCarts$Law", "starts", "[I", true)
  | 2 => ("NightCarts$Law", "middles", "[I", true)
  | 3 => ("NightCarts$Law", "ends", "[I", true)
  | 4 => ("NightCarts$Law", "clauses", "I", false)
  | 5 => ("NightCarts$Law", "signs", "[I", true)
  | 6 => ("NightCarts$Law", "worths", "[I", true)
  | 7 => ("NightCarts$Law", "length", "I", false)
  | 8 => ("NightCarts$Law", "facts", "[I", true)
  | 9 => ("NightCarts$Law", "stack", "[I", true)
  | 10 => ("NightCarts$Law", "top", "I", false)
  | _ => ("NightCarts$Law", "isRefused", "Z", false)
def tyX2 : Nat → FieldType := fun k => match k with
  | 0 => .array .int
  | 1 => .array .int
  | 2 => .array .int
  | 3 => .array .int
  | 4 => .int
  | 5 => .array .int
  | 6 => .array .int
  | 7 => .int
  | 8 => .array .int
  | 9 => .array .int
  | 10 => .int
  | _ => .boolean
abbrev wsX20 : List Cond := u_ws RX2 TX2 12
theorem nmX2 : ∀ a, a < 12 → ∀ b, b < 12 → a ≠ b → (TX2 a).2.1 ≠ (TX2 b).2.1 := by decide +kernel
theorem tyX2_ok : ∀ k, k < 12 → parseFieldDescriptor (TX2 k).2.2.1 = some (tyX2 k) := by decide +kernel
abbrev cX2_init : ByteArray := prog_4_method_1_code
def yX2_init : MethodName := ⟨RX2, "<init>", "()V"⟩
abbrev cX2_clauses : ByteArray := prog_4_method_2_code
def yX2_clauses : MethodName := ⟨RX2, "clauses", "()I"⟩
abbrev cX2_length : ByteArray := prog_4_method_3_code
def yX2_length : MethodName := ⟨RX2, "length", "()I"⟩
abbrev cX2_clear : ByteArray := prog_4_method_4_code
def yX2_clear : MethodName := ⟨RX2, "clear", "()V"⟩
abbrev cX2_addClause : ByteArray := prog_4_method_5_code
def yX2_addClause : MethodName := ⟨RX2, "addClause", "(III)V"⟩
abbrev cX2_addSign : ByteArray := prog_4_method_6_code
def yX2_addSign : MethodName := ⟨RX2, "addSign", "(II)V"⟩
abbrev cX2_leadToEnd : ByteArray := prog_4_method_7_code
def yX2_leadToEnd : MethodName := ⟨RX2, "leadToEnd", "(I)V"⟩
abbrev cX2_takeOver : ByteArray := prog_4_method_8_code
def yX2_takeOver : MethodName := ⟨RX2, "takeOver", "(LNightCarts$Law;)V"⟩
abbrev cX2_regardStreet : ByteArray := prog_4_method_9_code
def yX2_regardStreet : MethodName := ⟨RX2, "regardStreet", "(LNightCarts$City;III)V"⟩
abbrev cX2_regardTime : ByteArray := prog_4_method_10_code
def yX2_regardTime : MethodName := ⟨RX2, "regardTime", "(III)V"⟩
abbrev cX2_ask : ByteArray := prog_4_method_11_code
def yX2_ask : MethodName := ⟨RX2, "ask", "(I)I"⟩
abbrev cX2_reckon : ByteArray := prog_4_method_12_code
def yX2_reckon : MethodName := ⟨RX2, "reckon", "(II)I"⟩
abbrev cX2_join : ByteArray := prog_4_method_13_code
def yX2_join : MethodName := ⟨RX2, "join", "(III)I"⟩
abbrev cX2_factAt : ByteArray := prog_4_method_14_code
def yX2_factAt : MethodName := ⟨RX2, "factAt", "(I)I"⟩
abbrev cX2_push : ByteArray := prog_4_method_15_code
def yX2_push : MethodName := ⟨RX2, "push", "(I)V"⟩
abbrev cX2_pop : ByteArray := prog_4_method_16_code
def yX2_pop : MethodName := ⟨RX2, "pop", "()I"⟩
def RX3 : String := "NightCarts$LawReader"
def TX3 : u_T := fun k => match k with
  | _ => ("NightCarts$LawReader", "fresh", "LNightCarts$Law;", true)
def tyX3 : Nat → FieldType := fun k => match k with
  | _ => .object "NightCarts$Law"
abbrev wsX30 : List Cond := u_ws RX3 TX3 1
theorem nmX3 : ∀ a, a < 1 → ∀ b, b < 1 → a ≠ b → (TX3 a).2.1 ≠ (TX3 b).2.1 := by decide +kernel
theorem tyX3_ok : ∀ k, k < 1 → parseFieldDescriptor (TX3 k).2.2.1 = some (tyX3 k) := by decide +kernel
abbrev cX3_init : ByteArray := prog_5_method_1_code
def yX3_init : MethodName := ⟨RX3, "<init>", "()V"⟩
abbrev cX3_fresh : ByteArray := prog_5_method_2_code
def yX3_fresh : MethodName := ⟨RX3, "fresh", "()LNightCarts$Law;"⟩
abbrev cX3_read : ByteArray := prog_5_method_3_code
def yX3_read : MethodName := ⟨RX3, "read", "(LNightCarts$Tape;)I"⟩
abbrev cX3_readClause : ByteArray := prog_5_method_4_code
def yX3_readClause : MethodName := ⟨RX3, "readClause", "(LNightCarts$Tape;)V"⟩
abbrev cX3_readSum : ByteArray := prog_5_method_5_code
def yX3_readSum : MethodName := ⟨RX3, "readSum", "(LNightCarts$Tape;I)V"⟩
abbrev cX3_readProduct : ByteArray := prog_5_method_6_code
def yX3_readProduct : MethodName := ⟨RX3, "readProduct", "(LNightCarts$Tape;I)V"⟩
abbrev cX3_seesProductSign : ByteArray := prog_5_method_7_code
def yX3_seesProductSign : MethodName := ⟨RX3, "seesProductSign", "(LNightCarts$Tape;)Z"⟩
abbrev cX3_readFactor : ByteArray := prog_5_method_8_code
def yX3_readFactor : MethodName := ⟨RX3, "readFactor", "(LNightCarts$Tape;I)V"⟩
abbrev cX3_readFact : ByteArray := prog_5_method_9_code
def yX3_readFact : MethodName := ⟨RX3, "readFact", "(LNightCarts$Tape;)V"⟩
abbrev cX3_opens : ByteArray := prog_5_method_10_code
def yX3_opens : MethodName := ⟨RX3, "opens", "(LNightCarts$Tape;I)Z"⟩
abbrev cX3_readChoice : ByteArray := prog_5_method_11_code
def yX3_readChoice : MethodName := ⟨RX3, "readChoice", "(LNightCarts$Tape;I)V"⟩
abbrev cX3_readPart : ByteArray := prog_5_method_12_code
def yX3_readPart : MethodName := ⟨RX3, "readPart", "(LNightCarts$Tape;I)V"⟩
abbrev cX3_readTest : ByteArray := prog_5_method_13_code
def yX3_readTest : MethodName := ⟨RX3, "readTest", "(LNightCarts$Tape;I)V"⟩
abbrev cX3_readNegation : ByteArray := prog_5_method_14_code
def yX3_readNegation : MethodName := ⟨RX3, "readNegation", "(LNightCarts$Tape;I)V"⟩
abbrev cX3_readComparison : ByteArray := prog_5_method_15_code
def yX3_readComparison : MethodName := ⟨RX3, "readComparison", "(LNightCarts$Tape;I)V"⟩
def RX4 : String := "NightCarts$Matching"
def TX4 : u_T := fun k => match k with
  | 0 => ("NightCarts$Matching", "wishes", "[I", true)
  | 1 => ("NightCarts$Matching", "stars", "[I", true)
  | 2 => ("NightCarts$Matching", "row", "[I", true)
  | 3 => ("NightCarts$Matching", "bestRow", "[I", true)
  | 4 => ("NightCarts$Matching", "many", "I", false)
  | _ => ("NightCarts$Matching", "missing", "I", false)
def tyX4 : Nat → FieldType := fun k => match k with
  | 0 => .array .int
  | 1 => .array .int
  | 2 => .array .int
  | 3 => .array .int
  | 4 => .int
  | _ => .int
abbrev wsX40 : List Cond := u_ws RX4 TX4 6
theorem nmX4 : ∀ a, a < 6 → ∀ b, b < 6 → a ≠ b → (TX4 a).2.1 ≠ (TX4 b).2.1 := by decide +kernel
theorem tyX4_ok : ∀ k, k < 6 → parseFieldDescriptor (TX4 k).2.2.1 = some (tyX4 k) := by decide +kernel
abbrev cX4_init : ByteArray := prog_6_method_1_code
def yX4_init : MethodName := ⟨RX4, "<init>", "()V"⟩
abbrev cX4_missing : ByteArray := prog_6_method_2_code
def yX4_missing : MethodName := ⟨RX4, "missing", "()I"⟩
abbrev cX4_placeFor : ByteArray := prog_6_method_3_code
def yX4_placeFor : MethodName := ⟨RX4, "placeFor", "(I)I"⟩
abbrev cX4_find : ByteArray := prog_6_method_4_code
def yX4_find : MethodName := ⟨RX4, "find", "(LNightCarts$Tape;ILNightCarts$City;)V"⟩
abbrev cX4_match : ByteArray := prog_6_method_5_code
def yX4_match : MethodName := ⟨RX4, "match", "(III)V"⟩
abbrev cX4_matchWith : ByteArray := prog_6_method_6_code
def yX4_matchWith : MethodName := ⟨RX4, "matchWith", "(IIII)V"⟩
def RX5 : String := "NightCarts$Night"
def TX5 : u_T := fun k => match k with
  | 0 => ("NightCarts$Night", "city", "LNightCarts$City;", true)
  | 1 => ("NightCarts$Night", "roads", "LNightCarts$Roads;", true)
  | 2 => ("NightCarts$Night", "law", "LNightCarts$Law;", true)
  | 3 => ("NightCarts$Night", "depths", "[I", true)
  | 4 => ("NightCarts$Night", "carts", "[LNightCarts$Cart;", true)
  | 5 => ("NightCarts$Night", "stops", "[I", true)
  | 6 => ("NightCarts$Night", "places", "[I", true)
  | 7 => ("NightCarts$Night", "arrivals", "[I", true)
  | 8 => ("NightCarts$Night", "loads", "[I", true)
  | 9 => ("NightCarts$Night", "lastMinutes", "[I", true)
  | 10 => ("NightCarts$Night", "slept", "I", false)
  | 11 => ("NightCarts$Night", "swept", "I", false)
  | 12 => ("NightCarts$Night", "wasted", "I", false)
  | 13 => ("NightCarts$Night", "carried", "I", false)
  | 14 => ("NightCarts$Night", "left", "I", false)
  | _ => ("NightCarts$Night", "arrived", "I", false)
def tyX5 : Nat → FieldType := fun k => match k with
  | 0 => .object "NightCarts$City"
  | 1 => .object "NightCarts$Roads"
  | 2 => .object "NightCarts$Law"
  | 3 => .array .int
  | 4 => .array (.object "NightCarts$Cart")
  | 5 => .array .int
  | 6 => .array .int
  | 7 => .array .int
  | 8 => .array .int
  | 9 => .array .int
  | 10 => .int
  | 11 => .int
  | 12 => .int
  | 13 => .int
  | 14 => .int
  | _ => .int
abbrev wsX50 : List Cond := u_ws RX5 TX5 16
theorem nmX5 : ∀ a, a < 16 → ∀ b, b < 16 → a ≠ b → (TX5 a).2.1 ≠ (TX5 b).2.1 := by decide +kernel
theorem tyX5_ok : ∀ k, k < 16 → parseFieldDescriptor (TX5 k).2.2.1 = some (tyX5 k) := by decide +kernel
abbrev cX5_init : ByteArray := prog_7_method_1_code
def yX5_init : MethodName := ⟨RX5, "<init>", "(LNightCarts$City;LNightCarts$Roads;LNightCarts$Law;)V"⟩
abbrev cX5_slept : ByteArray := prog_7_method_2_code
def yX5_slept : MethodName := ⟨RX5, "slept", "()I"⟩
abbrev cX5_swept : ByteArray := prog_7_method_3_code
def yX5_swept : MethodName := ⟨RX5, "swept", "()I"⟩
abbrev cX5_total : ByteArray := prog_7_method_4_code
def yX5_total : MethodName := ⟨RX5, "total", "(I)I"⟩
abbrev cX5_depthOf : ByteArray := prog_7_method_5_code
def yX5_depthOf : MethodName := ⟨RX5, "depthOf", "(I)I"⟩
abbrev cX5_loadOf : ByteArray := prog_7_method_6_code
def yX5_loadOf : MethodName := ⟨RX5, "loadOf", "(I)I"⟩
abbrev cX5_lastMinuteOf : ByteArray := prog_7_method_7_code
def yX5_lastMinuteOf : MethodName := ⟨RX5, "lastMinuteOf", "(I)I"⟩
abbrev cX5_prepare : ByteArray := prog_7_method_8_code
def yX5_prepare : MethodName := ⟨RX5, "prepare", "()V"⟩
abbrev cX5_send : ByteArray := prog_7_method_9_code
def yX5_send : MethodName := ⟨RX5, "send", "(ILNightCarts$Cart;I)V"⟩
abbrev cX5_goThrough : ByteArray := prog_7_method_10_code
def yX5_goThrough : MethodName := ⟨RX5, "goThrough", "()V"⟩
abbrev cX5_isIdle : ByteArray := prog_7_method_11_code
def yX5_isIdle : MethodName := ⟨RX5, "isIdle", "()Z"⟩
abbrev cX5_sleepsThrough : ByteArray := prog_7_method_12_code
def yX5_sleepsThrough : MethodName := ⟨RX5, "sleepsThrough", "(II)Z"⟩
abbrev cX5_sleepsAfter : ByteArray := prog_7_method_13_code
def yX5_sleepsAfter : MethodName := ⟨RX5, "sleepsAfter", "(II)Z"⟩
abbrev cX5_lose : ByteArray := prog_7_method_14_code
def yX5_lose : MethodName := ⟨RX5, "lose", "(II)I"⟩
abbrev cX5_askOf : ByteArray := prog_7_method_15_code
def yX5_askOf : MethodName := ⟨RX5, "askOf", "(II)I"⟩
abbrev cX5_serveBefore : ByteArray := prog_7_method_16_code
def yX5_serveBefore : MethodName := ⟨RX5, "serveBefore", "(I)V"⟩
abbrev cX5_earliestCart : ByteArray := prog_7_method_17_code
def yX5_earliestCart : MethodName := ⟨RX5, "earliestCart", "()I"⟩
abbrev cX5_serve : ByteArray := prog_7_method_18_code
def yX5_serve : MethodName := ⟨RX5, "serve", "(I)V"⟩
abbrev cX5_takeOn : ByteArray := prog_7_method_19_code
def yX5_takeOn : MethodName := ⟨RX5, "takeOn", "(II)I"⟩
abbrev cX5_leave : ByteArray := prog_7_method_20_code
def yX5_leave : MethodName := ⟨RX5, "leave", "(III)I"⟩
abbrev cX5_goOn : ByteArray := prog_7_method_21_code
def yX5_goOn : MethodName := ⟨RX5, "goOn", "(III)V"⟩
def RX6 : String := "NightCarts$Parting"
def TX6 : u_T := fun k => match k with
  | 0 => ("NightCarts$Parting", "minutes", "[I", true)
  | 1 => ("NightCarts$Parting", "row", "[I", true)
  | 2 => ("NightCarts$Parting", "bestRow", "[I", true)
  | 3 => ("NightCarts$Parting", "sums", "[I", true)
  | 4 => ("NightCarts$Parting", "jobs", "I", false)
  | 5 => ("NightCarts$Parting", "carts", "I", false)
  | _ => ("NightCarts$Parting", "longest", "I", false)
def tyX6 : Nat → FieldType := fun k => match k with
  | 0 => .array .int
  | 1 => .array .int
  | 2 => .array .int
  | 3 => .array .int
  | 4 => .int
  | 5 => .int
  | _ => .int
abbrev wsX60 : List Cond := u_ws RX6 TX6 7
theorem nmX6 : ∀ a, a < 7 → ∀ b, b < 7 → a ≠ b → (TX6 a).2.1 ≠ (TX6 b).2.1 := by decide +kernel
theorem tyX6_ok : ∀ k, k < 7 → parseFieldDescriptor (TX6 k).2.2.1 = some (tyX6 k) := by decide +kernel
abbrev cX6_init : ByteArray := prog_8_method_1_code
def yX6_init : MethodName := ⟨RX6, "<init>", "()V"⟩
abbrev cX6_longest : ByteArray := prog_8_method_2_code
def yX6_longest : MethodName := ⟨RX6, "longest", "()I"⟩
abbrev cX6_cartOf : ByteArray := prog_8_method_3_code
def yX6_cartOf : MethodName := ⟨RX6, "cartOf", "(I)I"⟩
abbrev cX6_find : ByteArray := prog_8_method_4_code
def yX6_find : MethodName := ⟨RX6, "find", "(LNightCarts$Tape;II)V"⟩
abbrev cX6_give : ByteArray := prog_8_method_5_code
def yX6_give : MethodName := ⟨RX6, "give", "(I)V"⟩
abbrev cX6_giveTo : ByteArray := prog_8_method_6_code
def yX6_giveTo : MethodName := ⟨RX6, "giveTo", "(II)V"⟩
abbrev cX6_keepRow : ByteArray := prog_8_method_7_code
def yX6_keepRow : MethodName := ⟨RX6, "keepRow", "()V"⟩
def RX7 : String := "NightCarts$Roads"
def TX7 : u_T := fun k => match k with
  | 0 => ("NightCarts$Roads", "minutes", "[I", true)
  | 1 => ("NightCarts$Roads", "fresh", "[I", true)
  | 2 => ("NightCarts$Roads", "ways", "[I", true)
  | _ => ("NightCarts$Roads", "count", "I", false)
def tyX7 : Nat → FieldType := fun k => match k with
  | 0 => .array .int
  | 1 => .array .int
  | 2 => .array .int
  | _ => .int
abbrev wsX70 : List Cond := u_ws RX7 TX7 4
theorem nmX7 : ∀ a, a < 4 → ∀ b, b < 4 → a ≠ b → (TX7 a).2.1 ≠ (TX7 b).2.1 := by decide +kernel
theorem tyX7_ok : ∀ k, k < 4 → parseFieldDescriptor (TX7 k).2.2.1 = some (tyX7 k) := by decide +kernel
abbrev cX7_init : ByteArray := prog_9_method_1_code
def yX7_init : MethodName := ⟨RX7, "<init>", "()V"⟩
abbrev cX7_howMany : ByteArray := prog_9_method_2_code
def yX7_howMany : MethodName := ⟨RX7, "howMany", "()I"⟩
abbrev cX7_read : ByteArray := prog_9_method_3_code
def yX7_read : MethodName := ⟨RX7, "read", "(LNightCarts$Tape;LNightCarts$City;)I"⟩
abbrev cX7_readLine : ByteArray := prog_9_method_4_code
def yX7_readLine : MethodName := ⟨RX7, "readLine", "(LNightCarts$Tape;LNightCarts$City;I)V"⟩
abbrev cX7_readStreet : ByteArray := prog_9_method_5_code
def yX7_readStreet : MethodName := ⟨RX7, "readStreet", "(LNightCarts$Tape;LNightCarts$City;)V"⟩
abbrev cX7_findWays : ByteArray := prog_9_method_6_code
def yX7_findWays : MethodName := ⟨RX7, "findWays", "()V"⟩
abbrev cX7_shortenFrom : ByteArray := prog_9_method_7_code
def yX7_shortenFrom : MethodName := ⟨RX7, "shortenFrom", "(II)V"⟩
abbrev cX7_between : ByteArray := prog_9_method_8_code
def yX7_between : MethodName := ⟨RX7, "between", "(II)I"⟩
abbrev cX7_reachedFrom : ByteArray := prog_9_method_9_code
def yX7_reachedFrom : MethodName := ⟨RX7, "reachedFrom", "(I)I"⟩
abbrev cX7_farthestFrom : ByteArray := prog_9_method_10_code
def yX7_farthestFrom : MethodName := ⟨RX7, "farthestFrom", "(I)I"⟩
abbrev cX7_sumFrom : ByteArray := prog_9_method_11_code
def yX7_sumFrom : MethodName := ⟨RX7, "sumFrom", "(I)I"⟩
abbrev cX7_bestPit : ByteArray := prog_9_method_12_code
def yX7_bestPit : MethodName := ⟨RX7, "bestPit", "(LNightCarts$City;Z)I"⟩
abbrev cX7_countCuts : ByteArray := prog_9_method_13_code
def yX7_countCuts : MethodName := ⟨RX7, "countCuts", "()I"⟩
abbrev cX7_firstCut : ByteArray := prog_9_method_14_code
def yX7_firstCut : MethodName := ⟨RX7, "firstCut", "()I"⟩
abbrev cX7_isCut : ByteArray := prog_9_method_15_code
def yX7_isCut : MethodName := ⟨RX7, "isCut", "(I)Z"⟩
abbrev cX7_neighboursOf : ByteArray := prog_9_method_16_code
def yX7_neighboursOf : MethodName := ⟨RX7, "neighboursOf", "(III)I"⟩
def RX8 : String := "NightCarts$Rounds"
def TX8 : u_T := fun k => match k with
  | 0 => ("NightCarts$Rounds", "roads", "LNightCarts$Roads;", true)
  | 1 => ("NightCarts$Rounds", "streets", "[I", true)
  | 2 => ("NightCarts$Rounds", "rest", "[I", true)
  | 3 => ("NightCarts$Rounds", "row", "[I", true)
  | _ => ("NightCarts$Rounds", "many", "I", false)
def tyX8 : Nat → FieldType := fun k => match k with
  | 0 => .object "NightCarts$Roads"
  | 1 => .array .int
  | 2 => .array .int
  | 3 => .array .int
  | _ => .int
abbrev wsX80 : List Cond := u_ws RX8 TX8 5
theorem nmX8 : ∀ a, a < 5 → ∀ b, b < 5 → a ≠ b → (TX8 a).2.1 ≠ (TX8 b).2.1 := by decide +kernel
theorem tyX8_ok : ∀ k, k < 5 → parseFieldDescriptor (TX8 k).2.2.1 = some (tyX8 k) := by decide +kernel
abbrev cX8_init : ByteArray := prog_10_method_1_code
def yX8_init : MethodName := ⟨RX8, "<init>", "(LNightCarts$Roads;)V"⟩
abbrev cX8_find : ByteArray := prog_10_method_2_code
def yX8_find : MethodName := ⟨RX8, "find", "(II)Z"⟩
abbrev cX8_minutes : ByteArray := prog_10_method_3_code
def yX8_minutes : MethodName := ⟨RX8, "minutes", "()I"⟩
abbrev cX8_streetAt : ByteArray := prog_10_method_4_code
def yX8_streetAt : MethodName := ⟨RX8, "streetAt", "(I)I"⟩
abbrev cX8_leastFrom : ByteArray := prog_10_method_5_code
def yX8_leastFrom : MethodName := ⟨RX8, "leastFrom", "(II)I"⟩
abbrev cX8_minutesOver : ByteArray := prog_10_method_6_code
def yX8_minutesOver : MethodName := ⟨RX8, "minutesOver", "(III)I"⟩
abbrev cX8_minutesBetween : ByteArray := prog_10_method_7_code
def yX8_minutesBetween : MethodName := ⟨RX8, "minutesBetween", "(II)I"⟩
abbrev cX8_writeRow : ByteArray := prog_10_method_8_code
def yX8_writeRow : MethodName := ⟨RX8, "writeRow", "()V"⟩
abbrev cX8_firstThatMeets : ByteArray := prog_10_method_9_code
def yX8_firstThatMeets : MethodName := ⟨RX8, "firstThatMeets", "(III)I"⟩
def RX9 : String := "NightCarts$Shares"
def TX9 : u_T := fun k => match k with
  | 0 => ("NightCarts$Shares", "city", "LNightCarts$City;", true)
  | 1 => ("NightCarts$Shares", "streets", "[I", true)
  | 2 => ("NightCarts$Shares", "yards", "[I", true)
  | 3 => ("NightCarts$Shares", "gains", "[I", true)
  | 4 => ("NightCarts$Shares", "many", "I", false)
  | 5 => ("NightCarts$Shares", "least", "I", false)
  | 6 => ("NightCarts$Shares", "best", "I", false)
  | 7 => ("NightCarts$Shares", "houses", "I", false)
  | _ => ("NightCarts$Shares", "spent", "I", false)
def tyX9 : Nat → FieldType := fun k => match k with
  | 0 => .object "NightCarts$City"
  | 1 => .array .int
  | 2 => .array .int
  | 3 => .array .int
  | 4 => .int
  | 5 => .int
  | 6 => .int
  | 7 => .int
  | _ => .int
abbrev wsX90 : List Cond := u_ws RX9 TX9 9
theorem nmX9 : ∀ a, a < 9 → ∀ b, b < 9 → a ≠ b → (TX9 a).2.1 ≠ (TX9 b).2.1 := by decide +kernel
theorem tyX9_ok : ∀ k, k < 9 → parseFieldDescriptor (TX9 k).2.2.1 = some (tyX9 k) := by decide +kernel
abbrev cX9_init : ByteArray := prog_11_method_1_code
def yX9_init : MethodName := ⟨RX9, "<init>", "(LNightCarts$City;)V"⟩
abbrev cX9_choose : ByteArray := prog_11_method_2_code
def yX9_choose : MethodName := ⟨RX9, "choose", "(I)V"⟩
abbrev cX9_least : ByteArray := prog_11_method_3_code
def yX9_least : MethodName := ⟨RX9, "least", "()I"⟩
abbrev cX9_yardsFor : ByteArray := prog_11_method_4_code
def yX9_yardsFor : MethodName := ⟨RX9, "yardsFor", "(I)I"⟩
abbrev cX9_spread : ByteArray := prog_11_method_5_code
def yX9_spread : MethodName := ⟨RX9, "spread", "(I)Z"⟩
abbrev cX9_neededFor : ByteArray := prog_11_method_6_code
def yX9_neededFor : MethodName := ⟨RX9, "neededFor", "(I)I"⟩
abbrev cX9_greatestLevel : ByteArray := prog_11_method_7_code
def yX9_greatestLevel : MethodName := ⟨RX9, "greatestLevel", "(I)I"⟩
abbrev cX9_houses : ByteArray := prog_11_method_8_code
def yX9_houses : MethodName := ⟨RX9, "houses", "()I"⟩
abbrev cX9_spent : ByteArray := prog_11_method_9_code
def yX9_spent : MethodName := ⟨RX9, "spent", "()I"⟩
abbrev cX9_sleepingStreets : ByteArray := prog_11_method_10_code
def yX9_sleepingStreets : MethodName := ⟨RX9, "sleepingStreets", "()I"⟩
abbrev cX9_findSleepful : ByteArray := prog_11_method_11_code
def yX9_findSleepful : MethodName := ⟨RX9, "findSleepful", "(ILNightCarts$Law;)V"⟩
abbrev cX9_missingToSleep : ByteArray := prog_11_method_12_code
def yX9_missingToSleep : MethodName := ⟨RX9, "missingToSleep", "(ILNightCarts$Law;)I"⟩
abbrev cX9_weigh : ByteArray := prog_11_method_13_code
def yX9_weigh : MethodName := ⟨RX9, "weigh", "(II)V"⟩
abbrev cX9_reckonGains : ByteArray := prog_11_method_14_code
def yX9_reckonGains : MethodName := ⟨RX9, "reckonGains", "(LNightCarts$Law;)V"⟩
abbrev cX9_wastedBy : ByteArray := prog_11_method_15_code
def yX9_wastedBy : MethodName := ⟨RX9, "wastedBy", "(IILNightCarts$Law;)I"⟩
abbrev cX9_gainOf : ByteArray := prog_11_method_16_code
def yX9_gainOf : MethodName := ⟨RX9, "gainOf", "(I)I"⟩
abbrev cX9_bestGainBeside : ByteArray := prog_11_method_17_code
def yX9_bestGainBeside : MethodName := ⟨RX9, "bestGainBeside", "(I)I"⟩
def RX10 : String := "NightCarts$Tape"
def TX10 : u_T := fun k => match k with
  | 0 => ("NightCarts$Tape", "bytes", "[I", true)
  | 1 => ("NightCarts$Tape", "length", "I", false)
  | 2 => ("NightCarts$Tape", "place", "I", false)
  | 3 => ("NightCarts$Tape", "end", "I", false)
  | 4 => ("NightCarts$Tape", "sign", "I", false)
  | _ => ("NightCarts$Tape", "fault", "I", false)
def tyX10 : Nat → FieldType := fun k => match k with
  | 0 => .array .int
  | 1 => .int
  | 2 => .int
  | 3 => .int
  | 4 => .int
  | _ => .int
abbrev wsX100 : List Cond := u_ws RX10 TX10 6
theorem nmX10 : ∀ a, a < 6 → ∀ b, b < 6 → a ≠ b → (TX10 a).2.1 ≠ (TX10 b).2.1 := by decide +kernel
theorem tyX10_ok : ∀ k, k < 6 → parseFieldDescriptor (TX10 k).2.2.1 = some (tyX10 k) := by decide +kernel
abbrev cX10_init : ByteArray := prog_12_method_1_code
def yX10_init : MethodName := ⟨RX10, "<init>", "()V"⟩
abbrev cX10_hasRoomFor : ByteArray := prog_12_method_2_code
def yX10_hasRoomFor : MethodName := ⟨RX10, "hasRoomFor", "(I)Z"⟩
abbrev cX10_holds : ByteArray := prog_12_method_3_code
def yX10_holds : MethodName := ⟨RX10, "holds", "(I)Z"⟩
abbrev cX10_length : ByteArray := prog_12_method_4_code
def yX10_length : MethodName := ⟨RX10, "length", "()I"⟩
abbrev cX10_clear : ByteArray := prog_12_method_5_code
def yX10_clear : MethodName := ⟨RX10, "clear", "()V"⟩
abbrev cX10_addWord : ByteArray := prog_12_method_6_code
def yX10_addWord : MethodName := ⟨RX10, "addWord", "(I)V"⟩
abbrev cX10_at : ByteArray := prog_12_method_7_code
def yX10_at : MethodName := ⟨RX10, "at", "(I)I"⟩
abbrev cX10_pairAt : ByteArray := prog_12_method_8_code
def yX10_pairAt : MethodName := ⟨RX10, "pairAt", "(I)I"⟩
abbrev cX10_sumOf : ByteArray := prog_12_method_9_code
def yX10_sumOf : MethodName := ⟨RX10, "sumOf", "(IIII)I"⟩
abbrev cX10_open : ByteArray := prog_12_method_10_code
def yX10_open : MethodName := ⟨RX10, "open", "(I)V"⟩
abbrev cX10_place : ByteArray := prog_12_method_11_code
def yX10_place : MethodName := ⟨RX10, "place", "()I"⟩
abbrev cX10_sign : ByteArray := prog_12_method_12_code
def yX10_sign : MethodName := ⟨RX10, "sign", "()I"⟩
abbrev cX10_isAtEnd : ByteArray := prog_12_method_13_code
def yX10_isAtEnd : MethodName := ⟨RX10, "isAtEnd", "()Z"⟩
abbrev cX10_isSound : ByteArray := prog_12_method_14_code
def yX10_isSound : MethodName := ⟨RX10, "isSound", "()Z"⟩
abbrev cX10_fault : ByteArray := prog_12_method_15_code
def yX10_fault : MethodName := ⟨RX10, "fault", "()I"⟩
abbrev cX10_step : ByteArray := prog_12_method_16_code
def yX10_step : MethodName := ⟨RX10, "step", "()V"⟩
abbrev cX10_failAt : ByteArray := prog_12_method_17_code
def yX10_failAt : MethodName := ⟨RX10, "failAt", "(II)V"⟩
abbrev cX10_fail : ByteArray := prog_12_method_18_code
def yX10_fail : MethodName := ⟨RX10, "fail", "(I)V"⟩
abbrev cX10_sees : ByteArray := prog_12_method_19_code
def yX10_sees : MethodName := ⟨RX10, "sees", "(I)Z"⟩
abbrev cX10_seesDigit : ByteArray := prog_12_method_20_code
def yX10_seesDigit : MethodName := ⟨RX10, "seesDigit", "()Z"⟩
abbrev cX10_seesStreet : ByteArray := prog_12_method_21_code
def yX10_seesStreet : MethodName := ⟨RX10, "seesStreet", "()Z"⟩
abbrev cX10_need : ByteArray := prog_12_method_22_code
def yX10_need : MethodName := ⟨RX10, "need", "(I)V"⟩
abbrev cX10_readNumber : ByteArray := prog_12_method_23_code
def yX10_readNumber : MethodName := ⟨RX10, "readNumber", "(I)I"⟩
def RX11 : String := "NightCarts"
def TX11 : u_T := fun k => match k with
  | 0 => ("NightCarts", "tape", "LNightCarts$Tape;", true)
  | 1 => ("NightCarts", "city", "LNightCarts$City;", true)
  | 2 => ("NightCarts", "roads", "LNightCarts$Roads;", true)
  | 3 => ("NightCarts", "law", "LNightCarts$Law;", true)
  | 4 => ("NightCarts", "lawReader", "LNightCarts$LawReader;", true)
  | 5 => ("NightCarts", "carts", "[LNightCarts$Cart;", true)
  | 6 => ("NightCarts", "spareCart", "LNightCarts$Cart;", true)
  | 7 => ("NightCarts", "night", "LNightCarts$Night;", true)
  | 8 => ("NightCarts", "rounds", "LNightCarts$Rounds;", true)
  | 9 => ("NightCarts", "shares", "LNightCarts$Shares;", true)
  | 10 => ("NightCarts", "parting", "LNightCarts$Parting;", true)
  | _ => ("NightCarts", "matching", "LNightCarts$Matching;", true)
def tyX11 : Nat → FieldType := fun k => match k with
  | 0 => .object "NightCarts$Tape"
  | 1 => .object "NightCarts$City"
  | 2 => .object "NightCarts$Roads"
  | 3 => .object "NightCarts$Law"
  | 4 => .object "NightCarts$LawReader"
  | 5 => .array (.object "NightCarts$Cart")
  | 6 => .object "NightCarts$Cart"
  | 7 => .object "NightCarts$Night"
  | 8 => .object "NightCarts$Rounds"
  | 9 => .object "NightCarts$Shares"
  | 10 => .object "NightCarts$Parting"
  | _ => .object "NightCarts$Matching"
abbrev wsX110 : List Cond := u_ws RX11 TX11 12
theorem nmX11 : ∀ a, a < 12 → ∀ b, b < 12 → a ≠ b → (TX11 a).2.1 ≠ (TX11 b).2.1 := by decide +kernel
theorem tyX11_ok : ∀ k, k < 12 → parseFieldDescriptor (TX11 k).2.2.1 = some (tyX11 k) := by decide +kernel
abbrev cX11_init : ByteArray := prog_1_method_1_code
def yX11_init : MethodName := ⟨RX11, "<init>", "()V"⟩
abbrev cX11_street : ByteArray := prog_1_method_2_code
def yX11_street : MethodName := ⟨RX11, "street", "(IIII)Z"⟩
abbrev cX11_cart : ByteArray := prog_1_method_3_code
def yX11_cart : MethodName := ⟨RX11, "cart", "(II)Z"⟩
abbrev cX11_pour : ByteArray := prog_1_method_4_code
def yX11_pour : MethodName := ⟨RX11, "pour", "(II)I"⟩
abbrev cX11_feed : ByteArray := prog_1_method_5_code
def yX11_feed : MethodName := ⟨RX11, "feed", "(IIIII)I"⟩
abbrev cX11_law : ByteArray := prog_1_method_6_code
def yX11_law : MethodName := ⟨RX11, "law", "(I)I"⟩
abbrev cX11_roads : ByteArray := prog_1_method_7_code
def yX11_roads : MethodName := ⟨RX11, "roads", "(I)I"⟩
abbrev cX11_plan : ByteArray := prog_1_method_8_code
def yX11_plan : MethodName := ⟨RX11, "plan", "(II)I"⟩
abbrev cX11_nights : ByteArray := prog_1_method_9_code
def yX11_nights : MethodName := ⟨RX11, "nights", "(I)I"⟩
abbrev cX11_tried : ByteArray := prog_1_method_10_code
def yX11_tried : MethodName := ⟨RX11, "tried", "(I)I"⟩
abbrev cX11_way : ByteArray := prog_1_method_11_code
def yX11_way : MethodName := ⟨RX11, "way", "(II)I"⟩
abbrev cX11_round : ByteArray := prog_1_method_12_code
def yX11_round : MethodName := ⟨RX11, "round", "(III)I"⟩
abbrev cX11_share : ByteArray := prog_1_method_13_code
def yX11_share : MethodName := ⟨RX11, "share", "(III)I"⟩
abbrev cX11_sleepful : ByteArray := prog_1_method_14_code
def yX11_sleepful : MethodName := ⟨RX11, "sleepful", "(III)I"⟩
abbrev cX11_pitAt : ByteArray := prog_1_method_15_code
def yX11_pitAt : MethodName := ⟨RX11, "pitAt", "(I)I"⟩
abbrev cX11_cut : ByteArray := prog_1_method_16_code
def yX11_cut : MethodName := ⟨RX11, "cut", "(I)I"⟩
abbrev cX11_strike : ByteArray := prog_1_method_17_code
def yX11_strike : MethodName := ⟨RX11, "strike", "(I)I"⟩
abbrev cX11_enough : ByteArray := prog_1_method_18_code
def yX11_enough : MethodName := ⟨RX11, "enough", "(I)I"⟩
abbrev cX11_oneStop : ByteArray := prog_1_method_19_code
def yX11_oneStop : MethodName := ⟨RX11, "oneStop", "(III)I"⟩
abbrev cX11_out : ByteArray := prog_1_method_20_code
def yX11_out : MethodName := ⟨RX11, "out", "(II)I"⟩
abbrev cX11_jobs : ByteArray := prog_1_method_21_code
def yX11_jobs : MethodName := ⟨RX11, "jobs", "(III)I"⟩
abbrev cX11_load : ByteArray := prog_1_method_22_code
def yX11_load : MethodName := ⟨RX11, "load", "(III)I"⟩
abbrev cX11_brides : ByteArray := prog_1_method_23_code
def yX11_brides : MethodName := ⟨RX11, "brides", "(II)I"⟩
abbrev cX11_thieves : ByteArray := prog_1_method_24_code
def yX11_thieves : MethodName := ⟨RX11, "thieves", "(III)I"⟩
abbrev cX11_latest : ByteArray := prog_1_method_25_code
def yX11_latest : MethodName := ⟨RX11, "latest", "(I)I"⟩
abbrev cX11_keep : ByteArray := prog_1_method_26_code
def yX11_keep : MethodName := ⟨RX11, "keep", "()I"⟩
abbrev cX11_undo : ByteArray := prog_1_method_27_code
def yX11_undo : MethodName := ⟨RX11, "undo", "()Z"⟩
abbrev cX11_check : ByteArray := prog_1_method_28_code
def yX11_check : MethodName := ⟨RX11, "check", "(I)I"⟩
abbrev cX11_count : ByteArray := prog_1_method_29_code
def yX11_count : MethodName := ⟨RX11, "count", "(I)I"⟩
abbrev cX11_isWithin : ByteArray := prog_1_method_30_code
def yX11_isWithin : MethodName := ⟨RX11, "isWithin", "(III)Z"⟩
abbrev cX11_hasBit : ByteArray := prog_1_method_31_code
def yX11_hasBit : MethodName := ⟨RX11, "hasBit", "(II)Z"⟩
abbrev cX11_cartAt : ByteArray := prog_1_method_32_code
def yX11_cartAt : MethodName := ⟨RX11, "cartAt", "(I)LNightCarts$Cart;"⟩
abbrev cX11_isToldCart : ByteArray := prog_1_method_33_code
def yX11_isToldCart : MethodName := ⟨RX11, "isToldCart", "(I)Z"⟩
abbrev cX11_toldCarts : ByteArray := prog_1_method_34_code
def yX11_toldCarts : MethodName := ⟨RX11, "toldCarts", "()I"⟩
abbrev cX11_countOfStreet : ByteArray := prog_1_method_35_code
def yX11_countOfStreet : MethodName := ⟨RX11, "countOfStreet", "(I)I"⟩
abbrev cX11_canBeTried : ByteArray := prog_1_method_36_code
def yX11_canBeTried : MethodName := ⟨RX11, "canBeTried", "(I)Z"⟩
abbrev cX11_sendCarts : ByteArray := prog_1_method_37_code
def yX11_sendCarts : MethodName := ⟨RX11, "sendCarts", "(I)V"⟩
abbrev cX11_sendOneCart : ByteArray := prog_1_method_38_code
def yX11_sendOneCart : MethodName := ⟨RX11, "sendOneCart", "(III)V"⟩
abbrev cX11_partJobs : ByteArray := prog_1_method_39_code
def yX11_partJobs : MethodName := ⟨RX11, "partJobs", "(III)I"⟩
abbrev cX11_matchBrides : ByteArray := prog_1_method_40_code
def yX11_matchBrides : MethodName := ⟨RX11, "matchBrides", "(II)I"⟩
abbrev cX11_latestStart : ByteArray := prog_1_method_41_code
def yX11_latestStart : MethodName := ⟨RX11, "latestStart", "(I)I"⟩
def RX12 : String := "NightCartsModel"
def TX12 : u_T := fun k => match k with
  | 0 => ("NightCartsModel", "now", "[I", true)
  | 1 => ("NightCartsModel", "aside", "[I", true)
  | 2 => ("NightCartsModel", "kept", "[I", true)
  | 3 => ("NightCartsModel", "houses", "[I", true)
  | 4 => ("NightCartsModel", "lamps", "[I", true)
  | 5 => ("NightCartsModel", "stars", "[I", true)
  | 6 => ("NightCartsModel", "road", "[I", true)
  | 7 => ("NightCartsModel", "wayOf", "[I", true)
  | 8 => ("NightCartsModel", "roomOf", "[I", true)
  | 9 => ("NightCartsModel", "stopMany", "[I", true)
  | 10 => ("NightCartsModel", "stopAt", "[I", true)
  | 11 => ("NightCartsModel", "stopYards", "[I", true)
  | 12 => ("NightCartsModel", "streets", "I", false)
  | 13 => ("NightCartsModel", "carts", "I", false)
  | 14 => ("NightCartsModel", "tape", "[B", true)
  | 15 => ("NightCartsModel", "taped", "I", false)
  | 16 => ("NightCartsModel", "place0", "I", false)
  | 17 => ("NightCartsModel", "length0", "I", false)
  | 18 => ("NightCartsModel", "fault", "I", false)
  | 19 => ("NightCartsModel", "number0", "I", false)
  | 20 => ("NightCartsModel", "open", "I", false)
  | 21 => ("NightCartsModel", "codeMany", "I", false)
  | 22 => ("NightCartsModel", "waiting", "I", false)
  | 23 => ("NightCartsModel", "saidMany", "I", false)
  | 24 => ("NightCartsModel", "clauses", "I", false)
  | 25 => ("NightCartsModel", "said", "[I", true)
  | 26 => ("NightCartsModel", "waitsAt", "[I", true)
  | 27 => ("NightCartsModel", "saidLetter", "[I", true)
  | 28 => ("NightCartsModel", "saidFrom", "[I", true)
  | 29 => ("NightCartsModel", "saidHalf", "[I", true)
  | 30 => ("NightCartsModel", "saidTo", "[I", true)
  | 31 => ("NightCartsModel", "codes", "[I", true)
  | 32 => ("NightCartsModel", "clauseOf", "[I", true)
  | 33 => ("NightCartsModel", "codeFrom", "[I", true)
  | 34 => ("NightCartsModel", "codeHalf", "[I", true)
  | 35 => ("NightCartsModel", "codeTo", "[I", true)
  | 36 => ("NightCartsModel", "stack", "[I", true)
  | 37 => ("NightCartsModel", "facts", "[I", true)
  | 38 => ("NightCartsModel", "newRoad", "[I", true)
  | 39 => ("NightCartsModel", "newAt", "[I", true)
  | 40 => ("NightCartsModel", "newYards", "[I", true)
  | 41 => ("NightCartsModel", "lines", "I", false)
  | 42 => ("NightCartsModel", "cartAt", "[I", true)
  | 43 => ("NightCartsModel", "cartHas", "[I", true)
  | 44 => ("NightCartsModel", "cartStop", "[I", true)
  | 45 => ("NightCartsModel", "cartComes", "[I", true)
  | 46 => ("NightCartsModel", "cartLast", "[I", true)
  | 47 => ("NightCartsModel", "wastedNow", "I", false)
  | 48 => ("NightCartsModel", "carriedNow", "I", false)
  | 49 => ("NightCartsModel", "leftNow", "I", false)
  | 50 => ("NightCartsModel", "arrivedNow", "I", false)
  | 51 => ("NightCartsModel", "startMinute", "I", false)
  | 52 => ("NightCartsModel", "whoOf", "[I", true)
  | 53 => ("NightCartsModel", "rowNow", "[I", true)
  | 54 => ("NightCartsModel", "reachOf", "[I", true)
  | 55 => ("NightCartsModel", "farthestOf", "[I", true)
  | 56 => ("NightCartsModel", "sumOf", "[I", true)
  | 57 => ("NightCartsModel", "cartSum", "[I", true)
  | _ => ("NightCartsModel", "isKept", "Z", false)
def tyX12 : Nat → FieldType := fun k => match k with
  | 0 => .array .int
  | 1 => .array .int
  | 2 => .array .int
  | 3 => .array .int
  | 4 => .array .int
  | 5 => .array .int
  | 6 => .array .int
  | 7 => .array .int
  | 8 => .array .int
  | 9 => .array .int
  | 10 => .array .int
  | 11 => .array .int
  | 12 => .int
  | 13 => .int
  | 14 => .array .byte
  | 15 => .int
  | 16 => .int
  | 17 => .int
  | 18 => .int
  | 19 => .int
  | 20 => .int
  | 21 => .int
  | 22 => .int
  | 23 => .int
  | 24 => .int
  | 25 => .array .int
  | 26 => .array .int
  | 27 => .array .int
  | 28 => .array .int
  | 29 => .array .int
  | 30 => .array .int
  | 31 => .array .int
  | 32 => .array .int
  | 33 => .array .int
  | 34 => .array .int
  | 35 => .array .int
  | 36 => .array .int
  | 37 => .array .int
  | 38 => .array .int
  | 39 => .array .int
  | 40 => .array .int
  | 41 => .int
  | 42 => .array .int
  | 43 => .array .int
  | 44 => .array .int
  | 45 => .array .int
  | 46 => .array .int
  | 47 => .int
  | 48 => .int
  | 49 => .int
  | 50 => .int
  | 51 => .int
  | 52 => .array .int
  | 53 => .array .int
  | 54 => .array .int
  | 55 => .array .int
  | 56 => .array .int
  | 57 => .array .int
  | _ => .boolean
abbrev wsX120 : List Cond := u_ws RX12 TX12 59
theorem nmX12 : ∀ a, a < 59 → ∀ b, b < 59 → a ≠ b → (TX12 a).2.1 ≠ (TX12 b).2.1 := by decide +kernel
theorem tyX12_ok : ∀ k, k < 59 → parseFieldDescriptor (TX12 k).2.2.1 = some (tyX12 k) := by decide +kernel
abbrev cX12_init : ByteArray := prog_14_method_1_code
def yX12_init : MethodName := ⟨RX12, "<init>", "()V"⟩
abbrev cX12_in : ByteArray := prog_14_method_2_code
def yX12_in : MethodName := ⟨RX12, "in", "(III)Z"⟩
abbrev cX12_min : ByteArray := prog_14_method_3_code
def yX12_min : MethodName := ⟨RX12, "min", "(II)I"⟩
abbrev cX12_max : ByteArray := prog_14_method_4_code
def yX12_max : MethodName := ⟨RX12, "max", "(II)I"⟩
abbrev cX12_has : ByteArray := prog_14_method_5_code
def yX12_has : MethodName := ⟨RX12, "has", "(II)Z"⟩
abbrev cX12_bits : ByteArray := prog_14_method_6_code
def yX12_bits : MethodName := ⟨RX12, "bits", "(I)I"⟩
abbrev cX12_copies : ByteArray := prog_14_method_7_code
def yX12_copies : MethodName := ⟨RX12, "copies", "([I[I)V"⟩
abbrev cX12_isStreet : ByteArray := prog_14_method_8_code
def yX12_isStreet : MethodName := ⟨RX12, "isStreet", "(I)Z"⟩
abbrev cX12_isCart : ByteArray := prog_14_method_9_code
def yX12_isCart : MethodName := ⟨RX12, "isCart", "(I)Z"⟩
abbrev cX12_laysWays : ByteArray := prog_14_method_10_code
def yX12_laysWays : MethodName := ⟨RX12, "laysWays", "(II)V"⟩
abbrev cX12_farOf : ByteArray := prog_14_method_11_code
def yX12_farOf : MethodName := ⟨RX12, "farOf", "(II)I"⟩
abbrev cX12_street : ByteArray := prog_14_method_12_code
def yX12_street : MethodName := ⟨RX12, "street", "(IIII)Z"⟩
abbrev cX12_cart : ByteArray := prog_14_method_13_code
def yX12_cart : MethodName := ⟨RX12, "cart", "(II)Z"⟩
abbrev cX12_pour : ByteArray := prog_14_method_14_code
def yX12_pour : MethodName := ⟨RX12, "pour", "(II)I"⟩
abbrev cX12_types : ByteArray := prog_14_method_15_code
def yX12_types : MethodName := ⟨RX12, "types", "(I)V"⟩
abbrev cX12_feed : ByteArray := prog_14_method_16_code
def yX12_feed : MethodName := ⟨RX12, "feed", "(IIIII)I"⟩
abbrev cX12_here : ByteArray := prog_14_method_17_code
def yX12_here : MethodName := ⟨RX12, "here", "()I"⟩
abbrev cX12_isDigit : ByteArray := prog_14_method_18_code
def yX12_isDigit : MethodName := ⟨RX12, "isDigit", "()Z"⟩
abbrev cX12_wrongAt : ByteArray := prog_14_method_19_code
def yX12_wrongAt : MethodName := ⟨RX12, "wrongAt", "(II)Z"⟩
abbrev cX12_takes : ByteArray := prog_14_method_20_code
def yX12_takes : MethodName := ⟨RX12, "takes", "(I)Z"⟩
abbrev cX12_readsNumber : ByteArray := prog_14_method_21_code
def yX12_readsNumber : MethodName := ⟨RX12, "readsNumber", "()Z"⟩
abbrev cX12_notes : ByteArray := prog_14_method_22_code
def yX12_notes : MethodName := ⟨RX12, "notes", "(II)V"⟩
abbrev cX12_opens : ByteArray := prog_14_method_23_code
def yX12_opens : MethodName := ⟨RX12, "opens", "(I)Z"⟩
abbrev cX12_waitTop : ByteArray := prog_14_method_24_code
def yX12_waitTop : MethodName := ⟨RX12, "waitTop", "()I"⟩
abbrev cX12_factOf : ByteArray := prog_14_method_25_code
def yX12_factOf : MethodName := ⟨RX12, "factOf", "(I)I"⟩
abbrev cX12_sumSign : ByteArray := prog_14_method_26_code
def yX12_sumSign : MethodName := ⟨RX12, "sumSign", "(I)I"⟩
abbrev cX12_closesSums : ByteArray := prog_14_method_27_code
def yX12_closesSums : MethodName := ⟨RX12, "closesSums", "(Z)V"⟩
abbrev cX12_readsFactor : ByteArray := prog_14_method_28_code
def yX12_readsFactor : MethodName := ⟨RX12, "readsFactor", "()Z"⟩
abbrev cX12_hasOpenSum : ByteArray := prog_14_method_29_code
def yX12_hasOpenSum : MethodName := ⟨RX12, "hasOpenSum", "(I)Z"⟩
abbrev cX12_readsSum : ByteArray := prog_14_method_30_code
def yX12_readsSum : MethodName := ⟨RX12, "readsSum", "()Z"⟩
abbrev cX12_endsPiece : ByteArray := prog_14_method_31_code
def yX12_endsPiece : MethodName := ⟨RX12, "endsPiece", "()V"⟩
abbrev cX12_lands : ByteArray := prog_14_method_32_code
def yX12_lands : MethodName := ⟨RX12, "lands", "(Z)V"⟩
abbrev cX12_jumps : ByteArray := prog_14_method_33_code
def yX12_jumps : MethodName := ⟨RX12, "jumps", "(I)V"⟩
abbrev cX12_readsCompared : ByteArray := prog_14_method_34_code
def yX12_readsCompared : MethodName := ⟨RX12, "readsCompared", "()Z"⟩
abbrev cX12_readsCondition : ByteArray := prog_14_method_35_code
def yX12_readsCondition : MethodName := ⟨RX12, "readsCondition", "()Z"⟩
abbrev cX12_isClause : ByteArray := prog_14_method_36_code
def yX12_isClause : MethodName := ⟨RX12, "isClause", "(I)Z"⟩
abbrev cX12_readsClause : ByteArray := prog_14_method_37_code
def yX12_readsClause : MethodName := ⟨RX12, "readsClause", "()Z"⟩
abbrev cX12_law : ByteArray := prog_14_method_38_code
def yX12_law : MethodName := ⟨RX12, "law", "(I)I"⟩
abbrev cX12_reckon : ByteArray := prog_14_method_39_code
def yX12_reckon : MethodName := ⟨RX12, "reckon", "(III)I"⟩
abbrev cX12_comesTo : ByteArray := prog_14_method_40_code
def yX12_comesTo : MethodName := ⟨RX12, "comesTo", "(II)I"⟩
abbrev cX12_byLaw : ByteArray := prog_14_method_41_code
def yX12_byLaw : MethodName := ⟨RX12, "byLaw", "(II)I"⟩
abbrev cX12_feels : ByteArray := prog_14_method_42_code
def yX12_feels : MethodName := ⟨RX12, "feels", "(III)V"⟩
abbrev cX12_byStreet : ByteArray := prog_14_method_43_code
def yX12_byStreet : MethodName := ⟨RX12, "byStreet", "(III)I"⟩
abbrev cX12_readsTwo : ByteArray := prog_14_method_44_code
def yX12_readsTwo : MethodName := ⟨RX12, "readsTwo", "()Z"⟩
abbrev cX12_isLetterHere : ByteArray := prog_14_method_45_code
def yX12_isLetterHere : MethodName := ⟨RX12, "isLetterHere", "()Z"⟩
abbrev cX12_readsLine : ByteArray := prog_14_method_46_code
def yX12_readsLine : MethodName := ⟨RX12, "readsLine", "()Z"⟩
abbrev cX12_roads : ByteArray := prog_14_method_47_code
def yX12_roads : MethodName := ⟨RX12, "roads", "(I)I"⟩
abbrev cX12_readsStop : ByteArray := prog_14_method_48_code
def yX12_readsStop : MethodName := ⟨RX12, "readsStop", "()Z"⟩
abbrev cX12_plan : ByteArray := prog_14_method_49_code
def yX12_plan : MethodName := ⟨RX12, "plan", "(II)I"⟩
abbrev cX12_placeOf : ByteArray := prog_14_method_50_code
def yX12_placeOf : MethodName := ⟨RX12, "placeOf", "(I)I"⟩
abbrev cX12_canCome : ByteArray := prog_14_method_51_code
def yX12_canCome : MethodName := ⟨RX12, "canCome", "(II)Z"⟩
abbrev cX12_goesOn : ByteArray := prog_14_method_52_code
def yX12_goesOn : MethodName := ⟨RX12, "goesOn", "(II)V"⟩
abbrev cX12_arrives : ByteArray := prog_14_method_53_code
def yX12_arrives : MethodName := ⟨RX12, "arrives", "(II)V"⟩
abbrev cX12_hourEnds : ByteArray := prog_14_method_54_code
def yX12_hourEnds : MethodName := ⟨RX12, "hourEnds", "(I)V"⟩
abbrev cX12_goesNight : ByteArray := prog_14_method_55_code
def yX12_goesNight : MethodName := ⟨RX12, "goesNight", "()V"⟩
abbrev cX12_yardsAll : ByteArray := prog_14_method_56_code
def yX12_yardsAll : MethodName := ⟨RX12, "yardsAll", "()I"⟩
abbrev cX12_nights : ByteArray := prog_14_method_57_code
def yX12_nights : MethodName := ⟨RX12, "nights", "(I)I"⟩
abbrev cX12_tried : ByteArray := prog_14_method_58_code
def yX12_tried : MethodName := ⟨RX12, "tried", "(I)I"⟩
abbrev cX12_lastOf : ByteArray := prog_14_method_59_code
def yX12_lastOf : MethodName := ⟨RX12, "lastOf", "(I)I"⟩
abbrev cX12_sleptBy : ByteArray := prog_14_method_60_code
def yX12_sleptBy : MethodName := ⟨RX12, "sleptBy", "()I"⟩
abbrev cX12_strike : ByteArray := prog_14_method_61_code
def yX12_strike : MethodName := ⟨RX12, "strike", "(I)I"⟩
abbrev cX12_sleepsAll : ByteArray := prog_14_method_62_code
def yX12_sleepsAll : MethodName := ⟨RX12, "sleepsAll", "(I)Z"⟩
abbrev cX12_enough : ByteArray := prog_14_method_63_code
def yX12_enough : MethodName := ⟨RX12, "enough", "(I)I"⟩
abbrev cX12_oneStop : ByteArray := prog_14_method_64_code
def yX12_oneStop : MethodName := ⟨RX12, "oneStop", "(III)I"⟩
abbrev cX12_way : ByteArray := prog_14_method_65_code
def yX12_way : MethodName := ⟨RX12, "way", "(II)I"⟩
abbrev cX12_laysWho : ByteArray := prog_14_method_66_code
def yX12_laysWho : MethodName := ⟨RX12, "laysWho", "(I)I"⟩
abbrev cX12_readsRow : ByteArray := prog_14_method_67_code
def yX12_readsRow : MethodName := ⟨RX12, "readsRow", "(II)Z"⟩
abbrev cX12_codesFor : ByteArray := prog_14_method_68_code
def yX12_codesFor : MethodName := ⟨RX12, "codesFor", "(II)I"⟩
abbrev cX12_roundBy : ByteArray := prog_14_method_69_code
def yX12_roundBy : MethodName := ⟨RX12, "roundBy", "(II)I"⟩
abbrev cX12_round : ByteArray := prog_14_method_70_code
def yX12_round : MethodName := ⟨RX12, "round", "(III)I"⟩
abbrev cX12_needFor : ByteArray := prog_14_method_71_code
def yX12_needFor : MethodName := ⟨RX12, "needFor", "(II)I"⟩
abbrev cX12_share : ByteArray := prog_14_method_72_code
def yX12_share : MethodName := ⟨RX12, "share", "(III)I"⟩
abbrev cX12_sleepful : ByteArray := prog_14_method_73_code
def yX12_sleepful : MethodName := ⟨RX12, "sleepful", "(III)I"⟩
abbrev cX12_laysReach : ByteArray := prog_14_method_74_code
def yX12_laysReach : MethodName := ⟨RX12, "laysReach", "()V"⟩
abbrev cX12_bestBy : ByteArray := prog_14_method_75_code
def yX12_bestBy : MethodName := ⟨RX12, "bestBy", "([I)I"⟩
abbrev cX12_pitAt : ByteArray := prog_14_method_76_code
def yX12_pitAt : MethodName := ⟨RX12, "pitAt", "(I)I"⟩
abbrev cX12_cut : ByteArray := prog_14_method_77_code
def yX12_cut : MethodName := ⟨RX12, "cut", "(I)I"⟩
abbrev cX12_spared : ByteArray := prog_14_method_78_code
def yX12_spared : MethodName := ⟨RX12, "spared", "(I)I"⟩
abbrev cX12_out : ByteArray := prog_14_method_79_code
def yX12_out : MethodName := ⟨RX12, "out", "(II)I"⟩
abbrev cX12_longestBy : ByteArray := prog_14_method_80_code
def yX12_longestBy : MethodName := ⟨RX12, "longestBy", "(III)I"⟩
abbrev cX12_jobs : ByteArray := prog_14_method_81_code
def yX12_jobs : MethodName := ⟨RX12, "jobs", "(III)I"⟩
abbrev cX12_load : ByteArray := prog_14_method_82_code
def yX12_load : MethodName := ⟨RX12, "load", "(III)I"⟩
abbrev cX12_missingBy : ByteArray := prog_14_method_83_code
def yX12_missingBy : MethodName := ⟨RX12, "missingBy", "(I)I"⟩
abbrev cX12_brides : ByteArray := prog_14_method_84_code
def yX12_brides : MethodName := ⟨RX12, "brides", "(II)I"⟩
abbrev cX12_thieves : ByteArray := prog_14_method_85_code
def yX12_thieves : MethodName := ⟨RX12, "thieves", "(III)I"⟩
abbrev cX12_latest : ByteArray := prog_14_method_86_code
def yX12_latest : MethodName := ⟨RX12, "latest", "(I)I"⟩
abbrev cX12_keep : ByteArray := prog_14_method_87_code
def yX12_keep : MethodName := ⟨RX12, "keep", "()I"⟩
abbrev cX12_undo : ByteArray := prog_14_method_88_code
def yX12_undo : MethodName := ⟨RX12, "undo", "()Z"⟩
abbrev cX12_check : ByteArray := prog_14_method_89_code
def yX12_check : MethodName := ⟨RX12, "check", "(I)I"⟩
abbrev cX12_roadMany : ByteArray := prog_14_method_90_code
def yX12_roadMany : MethodName := ⟨RX12, "roadMany", "()I"⟩
abbrev cX12_streetIs : ByteArray := prog_14_method_91_code
def yX12_streetIs : MethodName := ⟨RX12, "streetIs", "(II)I"⟩
abbrev cX12_count : ByteArray := prog_14_method_92_code
def yX12_count : MethodName := ⟨RX12, "count", "(I)I"⟩
def RJ11 : String := "java/lang/Character"
def TJ11 : u_T := fun k => match k with
  | _ => ("", "", "", false)
def tyJ11 : Nat → FieldType := fun k => match k with
  | _ => .int
abbrev wsJ110 : List Cond := u_ws RJ11 TJ11 0
theorem nmJ11 : ∀ a, a < 0 → ∀ b, b < 0 → a ≠ b → (TJ11 a).2.1 ≠ (TJ11 b).2.1 := by decide +kernel
theorem tyJ11_ok : ∀ k, k < 0 → parseFieldDescriptor (TJ11 k).2.2.1 = some (tyJ11 k) := by decide +kernel
abbrev cJ11_isValidCodePoint_9a6ad : ByteArray := prog_15_method_11_code
def yJ11_isValidCodePoint_9a6ad : MethodName := ⟨RJ11, "isValidCodePoint", "(I)Z"⟩
abbrev cJ11_highSurrogate_5068e : ByteArray := prog_15_method_28_code
def yJ11_highSurrogate_5068e : MethodName := ⟨RJ11, "highSurrogate", "(I)C"⟩
abbrev cJ11_lowSurrogate_5068e : ByteArray := prog_15_method_29_code
def yJ11_lowSurrogate_5068e : MethodName := ⟨RJ11, "lowSurrogate", "(I)C"⟩
def RJ6 : String := "java/lang/Integer"
def TJ6 : u_T := fun k => match k with
  | _ => ("", "", "", false)
def tyJ6 : Nat → FieldType := fun k => match k with
  | _ => .int
abbrev wsJ60 : List Cond := u_ws RJ6 TJ6 0
theorem nmJ6 : ∀ a, a < 0 → ∀ b, b < 0 → a ≠ b → (TJ6 a).2.1 ≠ (TJ6 b).2.1 := by decide +kernel
theorem tyJ6_ok : ∀ k, k < 0 → parseFieldDescriptor (TJ6 k).2.2.1 = some (tyJ6 k) := by decide +kernel
abbrev cJ6_bitCount_0f7a4 : ByteArray := prog_16_method_49_code
def yJ6_bitCount_0f7a4 : MethodName := ⟨RJ6, "bitCount", "(I)I"⟩
def RJ9 : String := "java/lang/Math"
def TJ9 : u_T := fun k => match k with
  | _ => ("", "", "", false)
def tyJ9 : Nat → FieldType := fun k => match k with
  | _ => .int
abbrev wsJ90 : List Cond := u_ws RJ9 TJ9 0
theorem nmJ9 : ∀ a, a < 0 → ∀ b, b < 0 → a ≠ b → (TJ9 a).2.1 ≠ (TJ9 b).2.1 := by decide +kernel
theorem tyJ9_ok : ∀ k, k < 0 → parseFieldDescriptor (TJ9 k).2.2.1 = some (tyJ9 k) := by decide +kernel
abbrev cJ9_max_7cf53 : ByteArray := prog_17_method_65_code
def yJ9_max_7cf53 : MethodName := ⟨RJ9, "max", "(II)I"⟩
abbrev cJ9_min_7cf53 : ByteArray := prog_17_method_69_code
def yJ9_min_7cf53 : MethodName := ⟨RJ9, "min", "(II)I"⟩
def RJ0 : String := "java/lang/String"
def TJ0 : u_T := fun k => match k with
  | _ => ("", "", "", false)
def tyJ0 : Nat → FieldType := fun k => match k with
  | _ => .int
abbrev wsJ00 : List Cond := u_ws RJ0 TJ0 0
theorem nmJ0 : ∀ a, a < 0 → ∀ b, b < 0 → a ≠ b → (TJ0 a).2.1 ≠ (TJ0 b).2.1 := by decide +kernel
theorem tyJ0_ok : ∀ k, k < 0 → parseFieldDescriptor (TJ0 k).2.2.1 = some (tyJ0 k) := by decide +kernel
abbrev cJ0_length_8abf5 : ByteArray := prog_18_method_54_code
def yJ0_length_8abf5 : MethodName := ⟨RJ0, "length", "()I"⟩
abbrev cJ0_indexOf_0f7a4 : ByteArray := prog_18_method_79_code
def yJ0_indexOf_0f7a4 : MethodName := ⟨RJ0, "indexOf", "(I)I"⟩
abbrev cJ0_indexOf_7cf53 : ByteArray := prog_18_method_80_code
def yJ0_indexOf_7cf53 : MethodName := ⟨RJ0, "indexOf", "(II)I"⟩
abbrev cJ0_coder_7d493 : ByteArray := prog_18_method_152_code
def yJ0_coder_7d493 : MethodName := ⟨RJ0, "coder", "()B"⟩
abbrev cJ0_isLatin1_aae02 : ByteArray := prog_18_method_154_code
def yJ0_isLatin1_aae02 : MethodName := ⟨RJ0, "isLatin1", "()Z"⟩
abbrev cJ0_checkBoundsBeginEnd_23922 : ByteArray := prog_18_method_158_code
def yJ0_checkBoundsBeginEnd_23922 : MethodName := ⟨RJ0, "checkBoundsBeginEnd", "(III)V"⟩
def RJ1 : String := "java/lang/StringLatin1"
def TJ1 : u_T := fun k => match k with
  | _ => ("", "", "", false)
def tyJ1 : Nat → FieldType := fun k => match k with
  | _ => .int
abbrev wsJ10 : List Cond := u_ws RJ1 TJ1 0
theorem nmJ1 : ∀ a, a < 0 → ∀ b, b < 0 → a ≠ b → (TJ1 a).2.1 ≠ (TJ1 b).2.1 := by decide +kernel
theorem tyJ1_ok : ∀ k, k < 0 → parseFieldDescriptor (TJ1 k).2.2.1 = some (tyJ1 k) := by decide +kernel
abbrev cJ1_canEncode_9a6ad : ByteArray := prog_19_method_4_code
def yJ1_canEncode_9a6ad : MethodName := ⟨RJ1, "canEncode", "(I)Z"⟩
abbrev cJ1_indexOf_4cfef : ByteArray := prog_19_method_22_code
def yJ1_indexOf_4cfef : MethodName := ⟨RJ1, "indexOf", "([BIII)I"⟩
abbrev cJ1_indexOfChar_4cfef : ByteArray := prog_19_method_23_code
def yJ1_indexOfChar_4cfef : MethodName := ⟨RJ1, "indexOfChar", "([BIII)I"⟩
def RJ2 : String := "java/lang/StringUTF16"
def TJ2 : u_T := fun k => match k with
  | _ => ("", "", "", false)
def tyJ2 : Nat → FieldType := fun k => match k with
  | _ => .int
abbrev wsJ20 : List Cond := u_ws RJ2 TJ2 0
theorem nmJ2 : ∀ a, a < 0 → ∀ b, b < 0 → a ≠ b → (TJ2 a).2.1 ≠ (TJ2 b).2.1 := by decide +kernel
theorem tyJ2_ok : ∀ k, k < 0 → parseFieldDescriptor (TJ2 k).2.2.1 = some (tyJ2 k) := by decide +kernel
abbrev cJ2_getChar_3b067 : ByteArray := prog_20_method_5_code
def yJ2_getChar_3b067 : MethodName := ⟨RJ2, "getChar", "([BI)C"⟩
abbrev cJ2_length_9d52b : ByteArray := prog_20_method_6_code
def yJ2_length_9d52b : MethodName := ⟨RJ2, "length", "([B)I"⟩
abbrev cJ2_indexOf_4cfef : ByteArray := prog_20_method_40_code
def yJ2_indexOf_4cfef : MethodName := ⟨RJ2, "indexOf", "([BIII)I"⟩
abbrev cJ2_indexOfChar_4cfef : ByteArray := prog_20_method_47_code
def yJ2_indexOfChar_4cfef : MethodName := ⟨RJ2, "indexOfChar", "([BIII)I"⟩
abbrev cJ2_indexOfCharUnsafe_4cfef : ByteArray := prog_20_method_48_code
def yJ2_indexOfCharUnsafe_4cfef : MethodName := ⟨RJ2, "indexOfCharUnsafe", "([BIII)I"⟩
abbrev cJ2_indexOfSupplementary_4cfef : ByteArray := prog_20_method_49_code
def yJ2_indexOfSupplementary_4cfef : MethodName := ⟨RJ2, "indexOfSupplementary", "([BIII)I"⟩
abbrev cJ2_checkBoundsBeginEnd_d044e : ByteArray := prog_20_method_93_code
def yJ2_checkBoundsBeginEnd_d044e : MethodName := ⟨RJ2, "checkBoundsBeginEnd", "(II[B)V"⟩
def RJ10 : String := "java/lang/System"
def TJ10 : u_T := fun k => match k with
  | _ => ("", "", "", false)
def tyJ10 : Nat → FieldType := fun k => match k with
  | _ => .int
abbrev wsJ100 : List Cond := u_ws RJ10 TJ10 0
theorem nmJ10 : ∀ a, a < 0 → ∀ b, b < 0 → a ≠ b → (TJ10 a).2.1 ≠ (TJ10 b).2.1 := by decide +kernel
theorem tyJ10_ok : ∀ k, k < 0 → parseFieldDescriptor (TJ10 k).2.2.1 = some (tyJ10 k) := by decide +kernel
def RJ3 : String := "jdk/internal/util/Preconditions"
def TJ3 : u_T := fun k => match k with
  | _ => ("", "", "", false)
def tyJ3 : Nat → FieldType := fun k => match k with
  | _ => .int
abbrev wsJ30 : List Cond := u_ws RJ3 TJ3 0
theorem nmJ3 : ∀ a, a < 0 → ∀ b, b < 0 → a ≠ b → (TJ3 a).2.1 ≠ (TJ3 b).2.1 := by decide +kernel
theorem tyJ3_ok : ∀ k, k < 0 → parseFieldDescriptor (TJ3 k).2.2.1 = some (tyJ3 k) := by decide +kernel
abbrev cJ3_checkFromToIndex_8c36e : ByteArray := prog_22_method_12_code
def yJ3_checkFromToIndex_8c36e : MethodName := ⟨RJ3, "checkFromToIndex", "(IIILjava/util/function/BiFunction;)I"⟩
def RL : String := "NightCartsLaw"
abbrev cL_law : ByteArray := code
def yL_law : MethodName := ⟨RL, "law", "([I)Z"⟩
abbrev vwCl : List vw_C := [(RX0, TX0, 5), (RX1, TX1, 13), (RX2, TX2, 12), (RX3, TX3, 1), (RX4, TX4, 6), (RX5, TX5, 16), (RX6, TX6, 7), (RX7, TX7, 4), (RX8, TX8, 5), (RX9, TX9, 9), (RX10, TX10, 6), (RX11, TX11, 12), (RX12, TX12, 59)]
end
section
/-! THE PURE MACHINE'S WORDS: numbers are Int (in range), a reference is a number of a cell plus one (0: null), the heap a function of cell and place -/
abbrev PV : Type := Int ⊕ Nat
abbrev Hp : Type := Nat → Nat → Int
abbrev Dsc : Type := (Nat × List Nat) ⊕ (Nat × Nat)
abbrev Mth : Type := MethodName × ByteArray × Nat × Option FieldType
def w32 (x : Int) : Int := x.bmod 4294967296
def inR (x : Int) : Prop := -2147483648 ≤ x ∧ x < 2147483648
theorem inR_w (x : Int) : inR (w32 x) := by
  unfold inR w32
  have h1 := Int.le_bmod (x := x) (m := 4294967296) (by omega)
  have h2 := Int.bmod_lt (x := x) (m := 4294967296) (by omega)
  omega
theorem w32_id {x : Int} (h : -2147483648 ≤ x ∧ x < 2147483648) : w32 x = x := Int.bmod_eq_of_le (by omega) (by omega)
theorem ofw (x : Int) : Int32.ofInt (w32 x) = Int32.ofInt x := Int32.toInt_inj.1 (by simp [w32])
theorem toR {x : Int} (h : inR x) : (Int32.ofInt x).toInt = x := Int32.toInt_ofInt_of_le h.1 h.2
theorem inR_t (x : Int32) : inR x.toInt := ⟨x.le_toInt, x.toInt_lt⟩
theorem lt_of {x y : Int} (hx : inR x) (hy : inR y) : (Int32.ofInt x < Int32.ofInt y) ↔ x < y := by rw [Int32.lt_iff_toInt_lt, toR hx, toR hy]
theorem le_of {x y : Int} (hx : inR x) (hy : inR y) : (Int32.ofInt x ≤ Int32.ofInt y) ↔ x ≤ y := by rw [Int32.le_iff_toInt_le, toR hx, toR hy]
theorem eq_of {x y : Int} (hx : inR x) (hy : inR y) : (Int32.ofInt x = Int32.ofInt y) ↔ x = y := by rw [← Int32.toInt_inj, toR hx, toR hy]
theorem inR_0 : inR 0 := ⟨by decide, by decide⟩
theorem of0 : Int32.ofInt 0 = 0 := rfl
theorem cl_of {x : Int} (h : inR x) : (Int32.ofInt x).toNatClampNeg = x.toNat := Int32.toNatClampNeg_ofInt_of_le h.1 h.2
theorem vp_of {i : Int} {n : Nat} (h : inR i) (h0 : 0 ≤ i ∧ i < n) : vp_in (Int32.ofInt i) n := by rw [vp_in_iff, toR h]; exact h0
/-- bits, as the machine has them -/
def iand (x y : Int) : Int := (Int32.ofInt x &&& Int32.ofInt y).toInt
def ior (x y : Int) : Int := (Int32.ofInt x ||| Int32.ofInt y).toInt
def ixor (x y : Int) : Int := (Int32.ofInt x ^^^ Int32.ofInt y).toInt
def ishl (x y : Int) : Int := (Int32.ofInt x <<< (Int32.ofInt y &&& 31)).toInt
def ishr (x y : Int) : Int := (Int32.ofInt x >>> (Int32.ofInt y &&& 31)).toInt
def iushr (x y : Int) : Int := ((Int32.ofInt x).toUInt32 >>> ((Int32.ofInt y).toUInt32 &&& Int32.toUInt32 31)).toInt32.toInt
def i2b (x : Int) : Int := (Int32.ofInt x).toInt8.toInt32.toInt
def i2c (x : Int) : Int := ((Int32.ofInt x).toUInt32 % 65536).toInt32.toInt
def idiv (x y : Int) : Int := (Int32.ofInt x / Int32.ofInt y).toInt
def irem (x y : Int) : Int := (Int32.ofInt x - Int32.ofInt x / Int32.ofInt y * Int32.ofInt y).toInt
/-- references and values at the base b -/
def cR (b r : Nat) : Option Nat := if r = 0 then none else some (b + (r - 1))
def cV (b : Nat) : PV → Value
  | .inl x => .int (Int32.ofInt x)
  | .inr r => va_rf (cR b r)
def okV : PV → Prop
  | .inl x => inR x
  | .inr r => r ≤ 1000
def okH (h : Hp) : Prop := ∀ c j, inR (h c j)
theorem cV_cat (b : Nat) (v : PV) : (cV b v).category = 1 := by
  cases v with
  | inl x => rfl
  | inr r =>
    show (va_rf (cR b r)).category = 1
    unfold cR
    split <;> rfl
theorem cV_s (b c : Nat) : cV b (.inr (c + 1)) = .ref (b + c) := by simp [cV, cR, va_rf]
theorem cV_0 (b : Nat) : cV b (.inr 0) = .null := by simp [cV, cR, va_rf]
/-- the fields' kinds: by class -/
def nF : Nat → Nat
  | 0 => 5 | 1 => 13 | 2 => 12 | 3 => 1 | 4 => 6 | 5 => 16 | 6 => 7 | 7 => 4 | 8 => 5 | 9 => 9 | 10 => 6 | 11 => 12 | _ => 59
def tyF : Nat → Nat → FieldType
  | 0 => tyX0 | 1 => tyX1 | 2 => tyX2 | 3 => tyX3 | 4 => tyX4 | 5 => tyX5 | 6 => tyX6 | 7 => tyX7 | 8 => tyX8 | 9 => tyX9 | 10 => tyX10 | 11 => tyX11 | _ => tyX12
def fV (b : Nat) (ty : FieldType) (x : Int) (r : Nat) : Value := match ty with
  | .int => .int (Int32.ofInt x)
  | .boolean => .int (Int32.ofInt x)
  | _ => va_rf (cR b r)
def cE (b : Nat) (cA : Nat → ClassId) (d : Dsc) (f : Nat → Int) : va_E := match d with
  | .inl (ci, rs) => .inr (ci, (List.range (nF ci)).map fun j => fV b (tyF ci j) (f j) (rs.getD j 0))
  | .inr (3, n) => .inl (cA 3, n, .inr (.inr (.inr (.inr fun j => cR b (f j).toNat))))
  | .inr (k, n) => .inl (cA k, n, .inl fun j => Int32.ofInt (f j))
def wd (b : Nat) (cA : Nat → ClassId) (lay : List Dsc) (h : Hp) : va_W := (List.range lay.length).map fun c => (b + c, cE b cA (lay.getD c (.inr (0, 0))) (h c))
theorem wd_get {b : Nat} {cA : Nat → ClassId} {lay : List Dsc} {h : Hp} {c : Nat} {d : Dsc} (hd : lay[c]? = some d) : (wd b cA lay h)[c]? = some (b + c, cE b cA d (h c)) := by
  obtain ⟨hl, he⟩ := List.getElem?_eq_some_iff.mp hd
  simp [wd, hl, List.getD, hd, he]
def hS1 (h : Hp) (c : Nat) (f : Nat → Int) : Hp := fun c' => if c' = c then f else h c'
def hw (h : Hp) (c j : Nat) (v : Int) : Hp := fun c' j' => if c' = c ∧ j' = j then v else h c' j'
theorem wd_set {b : Nat} {cA : Nat → ClassId} {lay : List Dsc} {h : Hp} {c : Nat} {d : Dsc} (hd : lay[c]? = some d) {f : Nat → Int} {e : va_E} (he : e = cE b cA d f) : (wd b cA lay h).set c (b + c, e) = wd b cA lay (hS1 h c f) := by
  subst he
  obtain ⟨hl, he⟩ := List.getElem?_eq_some_iff.mp hd
  apply List.ext_getElem?
  intro k
  by_cases hk : k = c
  · subst hk
    rw [List.getElem?_set_self (by simp [wd, hl]), wd_get hd]
    simp [hS1]
  · rw [List.getElem?_set_ne (Ne.symm hk)]
    by_cases hkl : k < lay.length
    · rw [wd_get (List.getElem?_eq_getElem hkl), wd_get (List.getElem?_eq_getElem hkl)]
      simp [hS1, hk]
    · rw [List.getElem?_eq_none (by simp [wd]; omega), List.getElem?_eq_none (by simp [wd]; omega)]
theorem wd_D {b : Nat} {cA : Nat → ClassId} {lay : List Dsc} {h : Hp} : va_D (fun q => b ≤ q) (wd b cA lay h) := by
  have key : ∀ (k : Nat) (q : Nat × va_E), (wd b cA lay h)[k]? = some q → q.1 = b + k := by
    intro k q hk
    by_cases hkl : k < lay.length
    · rw [wd_get (List.getElem?_eq_getElem hkl)] at hk
      cases hk; rfl
    · rw [List.getElem?_eq_none (by simp [wd]; omega)] at hk
      cases hk
  refine ⟨fun i j x y hi hj hxy => ?_, fun k q hk => ?_⟩
  · have h1 := key i x hi
    have h2 := key j y hj
    omega
  · rw [key k q hk]; omega
theorem hw_S1 (h : Hp) (c j : Nat) (v : Int) : hw h c j v = hS1 h c (fun j' => if j' = j then v else h c j') := by
  funext c' j'
  by_cases h1 : c' = c
  · subst h1; simp [hw, hS1]
  · simp [hw, hS1, h1]
theorem okH_w {h : Hp} {c j : Nat} {v : Int} (hh : okH h) (hv : inR v) : okH (hw h c j v) := by
  intro c' j'
  unfold hw
  split
  · exact hv
  · exact hh c' j'
end
section
/-- the cells behind both constructors: by program -/
def L0 : List Dsc := [
  .inl (11, [42, 2, 8, 12, 44, 21, 54, 58, 66, 70, 74, 79]),
  .inl (1, [3, 4, 5, 6, 0, 0, 0, 0, 7, 0, 0, 0, 0]),
  .inr (0, 14),
  .inr (0, 14),
  .inr (0, 14),
  .inr (0, 14),
  .inr (0, 14),
  .inl (7, [9, 10, 11, 0]),
  .inr (0, 196),
  .inr (0, 196),
  .inr (0, 196),
  .inl (2, [13, 14, 15, 16, 0, 17, 18, 0, 19, 20, 0, 0]),
  .inr (0, 16),
  .inr (0, 16),
  .inr (0, 16),
  .inr (0, 16),
  .inr (0, 240),
  .inr (0, 240),
  .inr (0, 8),
  .inr (0, 64),
  .inr (3, 5),
  .inl (0, [23, 24, 25, 0, 0]),
  .inr (0, 16),
  .inr (0, 16),
  .inr (2, 16),
  .inl (0, [27, 28, 29, 0, 0]),
  .inr (0, 16),
  .inr (0, 16),
  .inr (2, 16),
  .inl (0, [31, 32, 33, 0, 0]),
  .inr (0, 16),
  .inr (0, 16),
  .inr (2, 16),
  .inl (0, [35, 36, 37, 0, 0]),
  .inr (0, 16),
  .inr (0, 16),
  .inr (2, 16),
  .inl (0, [39, 40, 41, 0, 0]),
  .inr (0, 16),
  .inr (0, 16),
  .inr (2, 16),
  .inl (10, [43, 0, 0, 0, 0, 0]),
  .inr (0, 260),
  .inl (3, [45]),
  .inl (2, [46, 47, 48, 49, 0, 50, 51, 0, 52, 53, 0, 0]),
  .inr (0, 16),
  .inr (0, 16),
  .inr (0, 16),
  .inr (0, 16),
  .inr (0, 240),
  .inr (0, 240),
  .inr (0, 8),
  .inr (0, 64),
  .inl (0, [55, 56, 57, 0, 0]),
  .inr (0, 16),
  .inr (0, 16),
  .inr (2, 16),
  .inl (5, [2, 8, 12, 59, 60, 61, 62, 63, 64, 65, 0, 0, 0, 0, 0, 0]),
  .inr (0, 14),
  .inr (3, 5),
  .inr (0, 5),
  .inr (0, 5),
  .inr (0, 5),
  .inr (0, 5),
  .inr (0, 5),
  .inl (8, [8, 67, 68, 69, 0]),
  .inr (0, 8),
  .inr (0, 1024),
  .inr (0, 7),
  .inl (9, [2, 71, 72, 73, 0, 0, 0, 0, 0]),
  .inr (0, 8),
  .inr (0, 8),
  .inr (0, 14),
  .inl (6, [75, 76, 77, 78, 0, 0, 0]),
  .inr (0, 8),
  .inr (0, 8),
  .inr (0, 8),
  .inr (0, 3),
  .inl (4, [80, 81, 82, 83, 0, 0]),
  .inr (0, 6),
  .inr (0, 6),
  .inr (0, 6),
  .inr (0, 6),
  .inl (12, [85, 86, 87, 88, 89, 90, 91, 92, 93, 94, 95, 96, 0, 0, 97, 0, 0, 0, 0, 0, 0, 0, 0, 0, 0, 98, 99, 100, 101, 102, 103, 104, 105, 106, 107, 108, 109, 110, 111, 112, 113, 0, 114, 115, 116, 117, 118, 0, 0, 0, 0, 0, 119, 120, 121, 122, 123, 124, 0]),
  .inr (0, 17),
  .inr (0, 17),
  .inr (0, 17),
  .inr (0, 14),
  .inr (0, 14),
  .inr (0, 14),
  .inr (0, 196),
  .inr (0, 196),
  .inr (0, 5),
  .inr (0, 5),
  .inr (0, 80),
  .inr (0, 80),
  .inr (1, 260),
  .inr (0, 260),
  .inr (0, 260),
  .inr (0, 16),
  .inr (0, 16),
  .inr (0, 16),
  .inr (0, 16),
  .inr (0, 260),
  .inr (0, 16),
  .inr (0, 16),
  .inr (0, 16),
  .inr (0, 16),
  .inr (0, 260),
  .inr (0, 8),
  .inr (0, 196),
  .inr (0, 16),
  .inr (0, 16),
  .inr (0, 5),
  .inr (0, 5),
  .inr (0, 5),
  .inr (0, 5),
  .inr (0, 5),
  .inr (0, 8),
  .inr (0, 8),
  .inr (0, 14),
  .inr (0, 14),
  .inr (0, 14),
  .inr (0, 3)]
abbrev tysA (cA : Nat → ClassId) : List (ClassId × FieldType) := [(cA 0, .int), (cA 1, .byte), (cA 2, .boolean), (cA 3, .object "NightCarts$Cart")]
def WS : List Cond := lw_tbl.filter goodWord
def isNest : Cond → Bool
  | .methodLinkNest _ _ _ _ => true
  | _ => false
def NW : List Cond := lw_tbl.filter isNest
theorem inWS {w : Cond} (i : Nat) (h : lw_tbl[i]? = some w) (hg : goodWord w = true) : w ∈ WS := List.mem_filter.mpr ⟨List.mem_of_getElem? h, hg⟩
theorem inNW {w : Cond} (i : Nat) (h : lw_tbl[i]? = some w) (hg : isNest w = true) : w ∈ NW := List.mem_filter.mpr ⟨List.mem_of_getElem? h, hg⟩
theorem WS_good : ∀ w ∈ WS, (w.onTables && w.keeps) = true ∨ ∃ ty, w = .arrayClass ty := fun w hw => good_of_word (List.mem_filter.mp hw).2
def Tab (by_ : ByteArray) (l : List (Nat × Instr × Nat)) : Prop := ∀ (k pc : Nat) (i : Instr) (n : Nat), l[k]? = some (pc, i, n) → decode by_ pc = .ok (i, n)
theorem Tab.of {by_ : ByteArray} {l : List (Nat × Instr × Nat)} (h : (l.all fun q => decide (decode by_ q.1 = .ok (q.2.1, q.2.2))) = true) : Tab by_ l := by
  intro k pc i n hk
  have h1 := List.all_eq_true.mp h _ (List.mem_of_getElem? hk)
  exact of_decide_eq_true h1
end
section
/-- the heap holds the pure one, at the base b -/
def Rp (D : va_G) (cA : Nat → ClassId) (b : Nat) (h : Hp) (H : Heap) : Prop := va_P D vwCl (wd b cA L0 h) H
/-- the locals hold the pure ones -/
def LH (b n : Nat) (ls : Array Slot) (loc : List (Option PV)) : Prop := ls.size = n ∧ lv_wf ls ∧ loc.length = n ∧ ∀ (i : Nat) (v : PV), loc[i]? = some (some v) → ls[i]? = some (.val (cV b v)) ∧ okV v
/-- the text whose places the reader asks for, and what the tables say of it: outside the cells from b on -/
def strB : List Int32 := [105, 104, 108, 100, 103, 114, 110, 107]
def StrU (b : Nat) (U : State) : Prop := ∃ aS aV : Nat → Nat, vk_R "NightCarts$LawReader" 100 "ihldgrnk" (aS 0) U ∧ vk_S 1 [8] [strB] aS aV (fun q => b ≤ q) U U.heap ∧ va_Z "java/lang/String" "COMPACT_STRINGS" "Z" (.int 1) (fun q => b ≤ q) U U.heap
def Nx (b : Nat) (U : State) : Prop := (∀ w ∈ NW, va_Nw w U) ∧ StrU b U
def okS (st : List PV) : Prop := ∀ v ∈ st, okV v
def okO (r : Option PV) : Prop := ∀ v, r = some v → okV v
/-- what holds in a frame of method M, d frames deep at most -/
def Cx (M : Mth) (d : Nat) (p : Program) (R : Room) (s : State) (m : MethodId) (args : Array Value) (meth : Method) (c : Code) (b : Nat) (D : va_G) (cA : Nat → ClassId) (k z : Nat) : Prop :=
  p.tables.exec = Jvm.exec ∧ c.code = M.2.1 ∧ meth.sig.returnType = M.2.2.2 ∧ c.maxLocals = M.2.2.1 ∧ s.vm.findClass M.1.cls = some m.cls ∧ (∀ w ∈ WS, w.before args s = true) ∧ meth.locks = false ∧ va_K D vwCl (tysA cA) s ∧ Nx b s ∧ d ≤ R.frames ∧ 64 * d ≤ R.locals ∧ k ≤ R.cells ∧ z ≤ R.slots
/-- an answer that the method's kind of return can give -/
def retOK (ret : Option FieldType) (i : Instr) (r : Option PV) : Prop :=
  (i = .ireturn ∧ ret = some .int ∧ ∃ x, r = some (.inl x)) ∨ (i = .ireturn ∧ ret = some .boolean ∧ (r = some (.inl 0) ∨ r = some (.inl 1))) ∨ (i = .areturn ∧ (∃ n, ret = some (.object n)) ∧ ∃ x, r = some (.inr x)) ∨ (i = .return_ ∧ ret = none ∧ r = none)
def FinR (M : Mth) (p : Program) (l : Launch) (e : Env) (R : Room) (s : State) (m : MethodId) (args : Array Value) (below : List Frame) (meth : Method) (c : Code) (b : Nat) (D : va_G) (cA : Nat → ClassId) (k z : Nat) (Q : Option PV → Hp → Prop) (Z : State → Prop) : Prop :=
  ∀ (r : Option PV) (h : Hp) (H : Heap) (locs : List Loc) (ls : Array Slot) (pc : Nat) (i : Instr), decode M.2.1 pc = .ok (i, 1) → retOK M.2.2.2 i r → Q r h → okH h → okO r → Rp D cA b h H → va_S (fun q => b ≤ q) s.heap H locs → W p l e R s m args below meth c H locs k z Z (F0 m pc ls (r.toList.map (cV b)))
/-- from this place on the method comes to its end with Q -/
def Go (M : Mth) (d pc : Nat) (loc : List (Option PV)) (st : List PV) (h : Hp) (Q : Option PV → Hp → Prop) : Prop :=
  ∀ (p : Program) (l : Launch) (e : Env) (R : Room) (s : State) (m : MethodId) (args : Array Value) (below : List Frame) (meth : Method) (c : Code) (b : Nat) (D : va_G) (cA : Nat → ClassId) (k z : Nat) (H : Heap) (locs : List Loc) (ls : Array Slot) (Z : State → Prop),
    Cx M d p R s m args meth c b D cA k z → Rp D cA b h H → va_S (fun q => b ≤ q) s.heap H locs → LH b M.2.2.1 ls loc → okS st → okH h → FinR M p l e R s m args below meth c b D cA k z Q Z →
    W p l e R s m args below meth c H locs k z Z (F0 m pc ls (st.map (cV b)))
def Wd (D : va_G) (cA : Nat → ClassId) (b : Nat) (h : Hp) (U : State) : Prop := Rp D cA b h U.heap ∧ va_K D vwCl (tysA cA) U ∧ Nx b U
def Qg (D : va_G) (cA : Nat → ClassId) (b : Nat) (Q : Option PV → Hp → Prop) : Array Value → State → Outcome → State → Prop := fun _ st oc t =>
  (∃ (r : Option PV) (h : Hp), oc = .returned (r.map (cV b)) ∧ Q r h ∧ okH h ∧ okO r ∧ Rp D cA b h t.heap) ∧ va_F (fun q => b ≤ q) st t
abbrev rmD (d : Nat) : Room := { frames := d, cells := 0, slots := 0, locals := 64 * d }
abbrev wsM (M : Mth) : List Cond := Cond.code M.1 M.2.1 M.2.2.1 M.2.2.2 :: WS
/-- a method's contract: from the arguments av and the heap h it comes to Q -/
def Runs (M : Mth) (d : Nat) (av : List PV) (h : Hp) (Q : Option PV → Hp → Prop) : Prop :=
  ∀ (l : Launch) (D : va_G) (cA : Nat → ClassId) (b : Nat), okH h → okS av → Met l M.1 (wsM M) (rmD d) (va_Pc (av.map (cV b)) (Wd D cA b h)) (Qg D cA b Q) 0 0 (fun q => b ≤ q)
theorem LH.at {b n : Nat} {ls : Array Slot} {loc : List (Option PV)} (h : LH b n ls loc) {i : Nat} {v : PV} (hi : loc[i]? = some (some v)) : ls[i]? = some (.val (cV b v)) ∧ okV v := h.2.2.2 i v hi
/-- the list that the kit's rows speak of -/
def lvL (b : Nat) (loc : List (Option PV)) : List (Nat × Value) := (List.range loc.length).filterMap fun i => (loc.getD i none).map fun v => (i, cV b v)
theorem lvL_mem {b : Nat} {loc : List (Option PV)} {q : Nat × Value} : q ∈ lvL b loc ↔ ∃ v, loc[q.1]? = some (some v) ∧ q.2 = cV b v := by
  simp only [lvL, List.mem_filterMap, List.mem_range, Option.map_eq_some_iff]
  constructor
  · rintro ⟨i, hi, v, hv, rfl⟩
    refine ⟨v, ?_, rfl⟩
    simp only [List.getD_eq_getElem?_getD] at hv
    rw [List.getElem?_eq_getElem hi] at hv ⊢
    simpa using hv
  · rintro ⟨v, hv, h2⟩
    obtain ⟨hl, he⟩ := List.getElem?_eq_some_iff.mp hv
    refine ⟨q.1, hl, v, ?_, ?_⟩
    · simp [List.getD_eq_getElem?_getD, hv]
    · rw [← h2]
theorem LH.has {b n : Nat} {ls : Array Slot} {loc : List (Option PV)} (h : LH b n ls loc) : lv_has ls n (lvL b loc) := by
  refine ⟨h.1, h.2.1, fun q hq => ?_⟩
  obtain ⟨v, h1, h2⟩ := lvL_mem.mp hq
  rw [h2]
  exact (h.2.2.2 _ _ h1).1
theorem LH.store {b n i : Nat} {ls ls' : Array Slot} {loc : List (Option PV)} {v : PV} (h : LH b n ls loc) (hi : i < n) (hv : okV v) (h2 : lv_has ls' n ((i, cV b v) :: (lvL b loc).filter (fun q => !(q.1 == i) && !(q.1 + 1 == i && q.2.category == 2)))) : LH b n ls' (loc.set i (some v)) := by
  refine ⟨h2.1, h2.2.1, by rw [List.length_set]; exact h.2.2.1, fun j w hj => ?_⟩
  by_cases hji : j = i
  · subst hji
    rw [List.getElem?_set_self (by rw [h.2.2.1]; exact hi)] at hj
    cases hj
    exact ⟨h2.2.2 (j, cV b v) List.mem_cons_self, hv⟩
  · rw [List.getElem?_set_ne (Ne.symm hji)] at hj
    refine ⟨h2.2.2 (j, cV b w) (List.mem_cons_of_mem _ (List.mem_filter.mpr ⟨lvL_mem.mpr ⟨w, hj, rfl⟩, ?_⟩)), (h.2.2.2 j w hj).2⟩
    simp [hji, cV_cat]
theorem sl_len (b : Nat) (av : List PV) : (lg_sl (av.map (cV b))).length = av.length := by
  induction av with
  | nil => rfl
  | cons v t ih =>
    have h : lg_sl ((v :: t).map (cV b)) = Slot.val (cV b v) :: lg_sl (t.map (cV b)) := by
      simp only [lg_sl, List.map_cons, List.flatMap_cons, cV_cat]
      rfl
    rw [h, List.length_cons, ih, List.length_cons]
theorem args_mem (b : Nat) : ∀ (av : List PV) (n i : Nat) (v : PV), av[i]? = some v → (n + i, cV b v) ∈ lv_args n (av.map (cV b))
  | [], n, i, v, h => by simp at h
  | w :: t, n, i, v, h => by
    have hc : ¬ (cV b w).category = 2 := by rw [cV_cat]; decide
    rw [List.map_cons, lv_args, if_neg hc]
    cases i with
    | zero =>
      rw [List.getElem?_cons_zero] at h
      cases h
      exact List.mem_cons_self
    | succ i =>
      rw [List.getElem?_cons_succ] at h
      have := args_mem b t (n + 1) i v h
      rw [show n + 1 + i = n + (i + 1) by omega] at this
      exact List.mem_cons_of_mem _ this
theorem nar01 {x : Int} (h : x = 0 ∨ x = 1) : narrow .boolean (.int (Int32.ofInt x)) = .int (Int32.ofInt x) := by
  rcases h with rfl | rfl <;> rfl
/-- a method out of a walk of its body -/
theorem Runs.of {M : Mth} {d : Nat} {av : List PV} {h : Hp} {Q : Option PV → Hp → Prop} (hy : plainName M.1.cls = true) (hn : av.length ≤ M.2.2.1) (hg : Go M d 0 (av.map some ++ List.replicate (M.2.2.1 - av.length) none) [] h Q) : Runs M d av h Q := by
  intro l D cA b hh hav
  refine Met.ofW (cc := M.2.1) (maxL := M.2.2.1) (ret := M.2.2.2) hy rfl ?_
  intro p e s m args below meth c s₁ B hml hv
  obtain ⟨rfl, hP, hK, hN⟩ := hv
  have hts := atoms_spec (ws := wsM M) B.pre
  have hown : s.vm.findClass M.1.cls = some m.cls := findClass_of_methodNamed B.named
  have hcx : Cx M d p (headSpec (wsM M) (rmD d)).room s m (av.map (cV b)).toArray meth c b D cA 0 0 := ⟨B.exec, B.bytes, B.returns, hml, hown, fun w hw => hts w (List.mem_cons_of_mem _ hw), B.notSynchronized, hK, hN, Nat.le_refl _, Nat.le_refl _, Nat.le_refl _, Nat.le_refl _⟩
  have hl := lv_entry (av.map (cV b)) (n := M.2.2.1) (by rw [sl_len]; exact hn)
  rw [lg_entry_eq]
  generalize (lg_sl (av.map (cV b)) ++ List.replicate (M.2.2.1 - (lg_sl (av.map (cV b))).length) Slot.unset).toArray = ls at hl ⊢
  have hLH : LH b M.2.2.1 ls (av.map some ++ List.replicate (M.2.2.1 - av.length) none) := by
    refine ⟨hl.1, hl.2.1, by simp; omega, fun i v hi => ?_⟩
    by_cases hlt : i < av.length
    · rw [List.getElem?_append_left (by simpa using hlt), List.getElem?_map] at hi
      have hv : av[i]? = some v := by
        cases ha : av[i]? with
        | none => rw [ha] at hi; cases hi
        | some w => rw [ha] at hi; simpa using hi
      refine ⟨hl.2.2 (i, cV b v) ?_, hav v (List.mem_of_getElem? hv)⟩
      have := args_mem b av 0 i v hv
      rwa [Nat.zero_add] at this
    · rw [List.getElem?_append_right (by simpa using Nat.le_of_not_lt hlt)] at hi
      have := List.eq_of_mem_replicate (List.mem_of_getElem? hi)
      cases this
  refine hg p l e _ s m _ below meth c b D cA 0 0 s.heap [] ls _ hcx hP va_S.rf hLH (fun v hv => by cases hv) hh ?_
  intro r h' H locs ls' pc i hd hr hq hh' hor hR hS
  have hf : ∀ q ∈ locs, (fun q => b ≤ q) q.base := hS.2.2
  have hQ : ∀ t : State, t.heap = H → s.WarmedH t.vm → Qg D cA b Q (av.map (cV b)).toArray s (.returned (r.map (cV b))) t := fun t ht _ => ⟨⟨r, h', rfl, hq, hh', hor, by rw [ht]; exact hR⟩, hS.F ht⟩
  rcases hr with ⟨rfl, hret, x, rfl⟩ | ⟨rfl, hret, hx⟩ | ⟨rfl, ⟨n, hret⟩, x, rfl⟩ | ⟨rfl, hret, rfl⟩
  · exact W.iret B.exec B.bytes (B.returns.trans hret) hQ hf hd B.notSynchronized
  · rcases hx with rfl | rfl
    · exact W.zret B.exec B.bytes (B.returns.trans hret) (nar01 (Or.inl rfl)) hQ hf hd B.notSynchronized
    · exact W.zret B.exec B.bytes (B.returns.trans hret) (nar01 (Or.inr rfl)) hQ hf hd B.notSynchronized
  · refine W.aret B.exec B.bytes (B.returns.trans hret) (Or.inl ⟨n, rfl⟩) ?_ hQ hf hd B.notSynchronized
    show va_rf (cR b x) = .null ∨ ∃ a, va_rf (cR b x) = .ref a
    cases cR b x with
    | none => exact Or.inl rfl
    | some a => exact Or.inr ⟨a, rfl⟩
  · exact W.vret B.exec B.bytes (B.returns.trans hret) hQ hf hd B.notSynchronized
end
section
/-! THE ROWS: an instruction, a row; the goal first -/
section ROWS
variable {M : Mth} {d pc : Nat} {loc : List (Option PV)} {st : List PV} {h : Hp} {Q : Option PV → Hp → Prop}
theorem okS.tl {v : PV} {st : List PV} (h : okS (v :: st)) : okS st := fun w hw => h w (List.mem_cons_of_mem _ hw)
theorem okS.hd {v : PV} {st : List PV} (h : okS (v :: st)) : okV v := h v List.mem_cons_self
theorem okS.cons {v : PV} {st : List PV} (h : okS st) (hv : okV v) : okS (v :: st) := fun w hw => by
  rcases List.mem_cons.mp hw with rfl | hw
  · exact hv
  · exact h w hw
theorem g_iconst {n : Int} (hdg : decode M.2.1 pc = .ok (.iconst n, 1)) (hn : inR n) (k : Go M d (pc + 1) loc (.inl n :: st) h Q) : Go M d pc loc st h Q := by
  intro p l e R s m args below meth c b D cA k0 z H locs ls Z hcx hR hS hL hs hh hF
  exact lv_iconst hcx.1 hcx.2.1 hdg rfl (k p l e R s m args below meth c b D cA k0 z H locs ls Z hcx hR hS hL (hs.cons hn) hh hF)
theorem bi_of {n : Int} (hn : -128 ≤ n ∧ n < 128) : (Int8.ofInt n).toInt32 = Int32.ofInt n := Int32.toInt_inj.1 (by
  rw [Int8.toInt_toInt32, Int8.toInt_ofInt_of_le hn.1 hn.2, toR ⟨by omega, by omega⟩])
theorem si_of {n : Int} (hn : -32768 ≤ n ∧ n < 32768) : (Int16.ofInt n).toInt32 = Int32.ofInt n := Int32.toInt_inj.1 (by
  rw [Int16.toInt_toInt32, Int16.toInt_ofInt_of_le hn.1 hn.2, toR ⟨by omega, by omega⟩])
theorem g_bipush {n : Int} (hdg : decode M.2.1 pc = .ok (.bipush n, 2)) (hn : -128 ≤ n ∧ n < 128) (k : Go M d (pc + 2) loc (.inl n :: st) h Q) : Go M d pc loc st h Q := by
  intro p l e R s m args below meth c b D cA k0 z H locs ls Z hcx hR hS hL hs hh hF
  exact lv_bipush hcx.1 hcx.2.1 hdg (bi_of hn) (k p l e R s m args below meth c b D cA k0 z H locs ls Z hcx hR hS hL (hs.cons ⟨by omega, by omega⟩) hh hF)
theorem g_sipush {n : Int} (hdg : decode M.2.1 pc = .ok (.sipush n, 3)) (hn : -32768 ≤ n ∧ n < 32768) (k : Go M d (pc + 3) loc (.inl n :: st) h Q) : Go M d pc loc st h Q := by
  intro p l e R s m args below meth c b D cA k0 z H locs ls Z hcx hR hS hL hs hh hF
  exact lv_sipush hcx.1 hcx.2.1 hdg (si_of hn) (k p l e R s m args below meth c b D cA k0 z H locs ls Z hcx hR hS hL (hs.cons ⟨by omega, by omega⟩) hh hF)
theorem g_ldc {n : Int} {i : Nat} (hdg : decode M.2.1 pc = .ok (.ldc i, 2)) (hc : Cond.constant M.1.cls i (Int32.ofInt n) ∈ WS) (hn : inR n) (k : Go M d (pc + 2) loc (.inl n :: st) h Q) : Go M d pc loc st h Q := by
  intro p l e R s m args below meth c b D cA k0 z H locs ls Z hcx hR hS hL hs hh hF
  exact lv_ldc hcx.1 hcx.2.1 hcx.2.2.2.2.1 (hcx.2.2.2.2.2.1 _ hc) hdg (k p l e R s m args below meth c b D cA k0 z H locs ls Z hcx hR hS hL (hs.cons hn) hh hF)
theorem g_ldcw {n : Int} {i : Nat} (hdg : decode M.2.1 pc = .ok (.ldc_w i, 3)) (hc : Cond.constant M.1.cls i (Int32.ofInt n) ∈ WS) (hn : inR n) (k : Go M d (pc + 3) loc (.inl n :: st) h Q) : Go M d pc loc st h Q := by
  intro p l e R s m args below meth c b D cA k0 z H locs ls Z hcx hR hS hL hs hh hF
  exact lv_ldcw hcx.1 hcx.2.1 hcx.2.2.2.2.1 (hcx.2.2.2.2.2.1 _ hc) hdg (k p l e R s m args below meth c b D cA k0 z H locs ls Z hcx hR hS hL (hs.cons hn) hh hF)
theorem g_null (hdg : decode M.2.1 pc = .ok (.aconst_null, 1)) (k : Go M d (pc + 1) loc (.inr 0 :: st) h Q) : Go M d pc loc st h Q := by
  intro p l e R s m args below meth c b D cA k0 z H locs ls Z hcx hR hS hL hs hh hF
  have := (k p l e R s m args below meth c b D cA k0 z H locs ls Z hcx hR hS hL (hs.cons (by unfold okV; exact Nat.zero_le _)) hh hF)
  rw [List.map_cons, cV_0] at this
  exact lv_null hcx.1 hcx.2.1 hdg this
theorem g_iload_n {i : Fin 4} {x : Int} (hdg : decode M.2.1 pc = .ok (.iload_n i, 1)) (hl : loc[(i : Nat)]? = some (some (.inl x))) (k : Go M d (pc + 1) loc (.inl x :: st) h Q) : Go M d pc loc st h Q := by
  intro p l e R s m args below meth c b D cA k0 z H locs ls Z hcx hR hS hL hs hh hF
  exact lv_iload_n hcx.1 hcx.2.1 hdg rfl (hL.at hl).1 (k p l e R s m args below meth c b D cA k0 z H locs ls Z hcx hR hS hL (hs.cons (hL.at hl).2) hh hF)
theorem g_iload {i : Nat} {x : Int} (hdg : decode M.2.1 pc = .ok (.iload i, 2)) (hl : loc[i]? = some (some (.inl x))) (k : Go M d (pc + 2) loc (.inl x :: st) h Q) : Go M d pc loc st h Q := by
  intro p l e R s m args below meth c b D cA k0 z H locs ls Z hcx hR hS hL hs hh hF
  exact lv_iload hcx.1 hcx.2.1 hdg (hL.at hl).1 (k p l e R s m args below meth c b D cA k0 z H locs ls Z hcx hR hS hL (hs.cons (hL.at hl).2) hh hF)
theorem g_aload_n {i : Fin 4} {r : Nat} (hdg : decode M.2.1 pc = .ok (.aload_n i, 1)) (hl : loc[(i : Nat)]? = some (some (.inr r))) (k : Go M d (pc + 1) loc (.inr r :: st) h Q) : Go M d pc loc st h Q := by
  intro p l e R s m args below meth c b D cA k0 z H locs ls Z hcx hR hS hL hs hh hF
  have h1 := (hL.at hl).1
  have kk := k p l e R s m args below meth c b D cA k0 z H locs ls Z hcx hR hS hL (hs.cons (hL.at hl).2) hh hF
  rw [List.map_cons] at kk
  cases r with
  | zero => rw [cV_0] at h1 kk; exact lv_aload_nN hcx.1 hcx.2.1 hdg rfl h1 kk
  | succ r => rw [cV_s] at h1 kk; exact lv_aload_n hcx.1 hcx.2.1 hdg rfl h1 kk
theorem g_aload {i : Nat} {r : Nat} (hdg : decode M.2.1 pc = .ok (.aload i, 2)) (hl : loc[i]? = some (some (.inr r))) (k : Go M d (pc + 2) loc (.inr r :: st) h Q) : Go M d pc loc st h Q := by
  intro p l e R s m args below meth c b D cA k0 z H locs ls Z hcx hR hS hL hs hh hF
  have h1 := (hL.at hl).1
  have kk := k p l e R s m args below meth c b D cA k0 z H locs ls Z hcx hR hS hL (hs.cons (hL.at hl).2) hh hF
  rw [List.map_cons] at kk
  cases r with
  | zero => rw [cV_0] at h1 kk; exact lv_aloadN hcx.1 hcx.2.1 hdg h1 kk
  | succ r => rw [cV_s] at h1 kk; exact lv_aload hcx.1 hcx.2.1 hdg h1 kk
theorem g_istore_n {i : Fin 4} {x : Int} (hdg : decode M.2.1 pc = .ok (.istore_n i, 1)) (hi : (i : Nat) < M.2.2.1) (k : Go M d (pc + 1) (loc.set i (some (.inl x))) st h Q) : Go M d pc loc (.inl x :: st) h Q := by
  intro p l e R s m args below meth c b D cA k0 z H locs ls Z hcx hR hS hL hs hh hF
  exact lv_istore_n hcx.1 hcx.2.1 hdg rfl hL.has hi rfl fun ls' hl' => k p l e R s m args below meth c b D cA k0 z H locs ls' Z hcx hR hS (hL.store (v := .inl x) hi hs.hd hl') hs.tl hh hF
theorem g_istore {i : Nat} {x : Int} (hdg : decode M.2.1 pc = .ok (.istore i, 2)) (hi : i < M.2.2.1) (k : Go M d (pc + 2) (loc.set i (some (.inl x))) st h Q) : Go M d pc loc (.inl x :: st) h Q := by
  intro p l e R s m args below meth c b D cA k0 z H locs ls Z hcx hR hS hL hs hh hF
  exact lv_istore hcx.1 hcx.2.1 hdg hL.has hi rfl fun ls' hl' => k p l e R s m args below meth c b D cA k0 z H locs ls' Z hcx hR hS (hL.store (v := .inl x) hi hs.hd hl') hs.tl hh hF
theorem g_astore_n {i : Fin 4} {r : Nat} (hdg : decode M.2.1 pc = .ok (.astore_n i, 1)) (hi : (i : Nat) < M.2.2.1) (k : Go M d (pc + 1) (loc.set i (some (.inr r))) st h Q) : Go M d pc loc (.inr r :: st) h Q := by
  intro p l e R s m args below meth c b D cA k0 z H locs ls Z hcx hR hS hL hs hh hF
  rw [List.map_cons]
  cases r with
  | zero => rw [cV_0]; exact lv_astore_nN hcx.1 hcx.2.1 hdg rfl hL.has hi rfl fun ls' hl' => k p l e R s m args below meth c b D cA k0 z H locs ls' Z hcx hR hS (hL.store (v := .inr 0) hi hs.hd (by rw [cV_0]; exact hl')) hs.tl hh hF
  | succ r => rw [cV_s]; exact lv_astore_n hcx.1 hcx.2.1 hdg rfl hL.has hi rfl fun ls' hl' => k p l e R s m args below meth c b D cA k0 z H locs ls' Z hcx hR hS (hL.store (v := .inr (r + 1)) hi hs.hd (by rw [cV_s]; exact hl')) hs.tl hh hF
theorem g_astore {i : Nat} {r : Nat} (hdg : decode M.2.1 pc = .ok (.astore i, 2)) (hi : i < M.2.2.1) (k : Go M d (pc + 2) (loc.set i (some (.inr r))) st h Q) : Go M d pc loc (.inr r :: st) h Q := by
  intro p l e R s m args below meth c b D cA k0 z H locs ls Z hcx hR hS hL hs hh hF
  rw [List.map_cons]
  cases r with
  | zero => rw [cV_0]; exact lv_astoreN hcx.1 hcx.2.1 hdg hL.has hi rfl fun ls' hl' => k p l e R s m args below meth c b D cA k0 z H locs ls' Z hcx hR hS (hL.store (v := .inr 0) hi hs.hd (by rw [cV_0]; exact hl')) hs.tl hh hF
  | succ r => rw [cV_s]; exact lv_astore hcx.1 hcx.2.1 hdg hL.has hi rfl fun ls' hl' => k p l e R s m args below meth c b D cA k0 z H locs ls' Z hcx hR hS (hL.store (v := .inr (r + 1)) hi hs.hd (by rw [cV_s]; exact hl')) hs.tl hh hF
theorem g_iinc {i : Nat} {n x : Int} (hdg : decode M.2.1 pc = .ok (.iinc i n, 3)) (hl : loc[i]? = some (some (.inl x))) (hi : i < M.2.2.1) (k : Go M d (pc + 3) (loc.set i (some (.inl (w32 (x + n))))) st h Q) : Go M d pc loc st h Q := by
  intro p l e R s m args below meth c b D cA k0 z H locs ls Z hcx hR hS hL hs hh hF
  have hm : (i, cV b (.inl x)) ∈ lvL b loc := lvL_mem.mpr ⟨_, hl, rfl⟩
  obtain ⟨kk, hk⟩ := List.getElem?_of_mem hm
  exact lv_iinc (v := Int32.ofInt (w32 (x + n))) hcx.1 hcx.2.1 hdg hL.has hk (by rw [ofw, Int32.ofInt_add]) hi rfl fun ls' hl' => k p l e R s m args below meth c b D cA k0 z H locs ls' Z hcx hR hS (hL.store (v := .inl (w32 (x + n))) hi (inR_w _) hl') hs hh hF
theorem g_iadd {x y : Int} (hdg : decode M.2.1 pc = .ok (.iadd, 1)) (k : Go M d (pc + 1) loc (.inl (w32 (x + y)) :: st) h Q) : Go M d pc loc (.inl y :: .inl x :: st) h Q := by
  intro p l e R s m args below meth c b D cA k0 z H locs ls Z hcx hR hS hL hs hh hF
  have kk := k p l e R s m args below meth c b D cA k0 z H locs ls Z hcx hR hS hL (hs.tl.tl.cons (inR_w _)) hh hF
  simp only [List.map_cons, cV, ofw, Int32.ofInt_add] at kk
  exact lv_iadd hcx.1 hcx.2.1 hdg kk
theorem g_isub {x y : Int} (hdg : decode M.2.1 pc = .ok (.isub, 1)) (k : Go M d (pc + 1) loc (.inl (w32 (x - y)) :: st) h Q) : Go M d pc loc (.inl y :: .inl x :: st) h Q := by
  intro p l e R s m args below meth c b D cA k0 z H locs ls Z hcx hR hS hL hs hh hF
  have kk := k p l e R s m args below meth c b D cA k0 z H locs ls Z hcx hR hS hL (hs.tl.tl.cons (inR_w _)) hh hF
  simp only [List.map_cons, cV, ofw, Int32.ofInt_sub] at kk
  exact lv_isub hcx.1 hcx.2.1 hdg kk
theorem g_imul {x y : Int} (hdg : decode M.2.1 pc = .ok (.imul, 1)) (k : Go M d (pc + 1) loc (.inl (w32 (x * y)) :: st) h Q) : Go M d pc loc (.inl y :: .inl x :: st) h Q := by
  intro p l e R s m args below meth c b D cA k0 z H locs ls Z hcx hR hS hL hs hh hF
  have kk := k p l e R s m args below meth c b D cA k0 z H locs ls Z hcx hR hS hL (hs.tl.tl.cons (inR_w _)) hh hF
  simp only [List.map_cons, cV, ofw, Int32.ofInt_mul] at kk
  exact lv_imul hcx.1 hcx.2.1 hdg kk
theorem g_iand {x y : Int} (hdg : decode M.2.1 pc = .ok (.iand, 1)) (k : Go M d (pc + 1) loc (.inl (iand x y) :: st) h Q) : Go M d pc loc (.inl y :: .inl x :: st) h Q := by
  intro p l e R s m args below meth c b D cA k0 z H locs ls Z hcx hR hS hL hs hh hF
  have kk := k p l e R s m args below meth c b D cA k0 z H locs ls Z hcx hR hS hL (hs.tl.tl.cons (inR_t _)) hh hF
  simp only [List.map_cons, cV, iand, Int32.ofInt_toInt] at kk
  exact lv_iand hcx.1 hcx.2.1 hdg kk
theorem g_ior {x y : Int} (hdg : decode M.2.1 pc = .ok (.ior, 1)) (k : Go M d (pc + 1) loc (.inl (ior x y) :: st) h Q) : Go M d pc loc (.inl y :: .inl x :: st) h Q := by
  intro p l e R s m args below meth c b D cA k0 z H locs ls Z hcx hR hS hL hs hh hF
  have kk := k p l e R s m args below meth c b D cA k0 z H locs ls Z hcx hR hS hL (hs.tl.tl.cons (inR_t _)) hh hF
  simp only [List.map_cons, cV, ior, Int32.ofInt_toInt] at kk
  exact lv_ior hcx.1 hcx.2.1 hdg kk
theorem g_ixor {x y : Int} (hdg : decode M.2.1 pc = .ok (.ixor, 1)) (k : Go M d (pc + 1) loc (.inl (ixor x y) :: st) h Q) : Go M d pc loc (.inl y :: .inl x :: st) h Q := by
  intro p l e R s m args below meth c b D cA k0 z H locs ls Z hcx hR hS hL hs hh hF
  have kk := k p l e R s m args below meth c b D cA k0 z H locs ls Z hcx hR hS hL (hs.tl.tl.cons (inR_t _)) hh hF
  simp only [List.map_cons, cV, ixor, Int32.ofInt_toInt] at kk
  exact lv_ixor hcx.1 hcx.2.1 hdg kk
theorem g_ishl {x y : Int} (hdg : decode M.2.1 pc = .ok (.ishl, 1)) (k : Go M d (pc + 1) loc (.inl (ishl x y) :: st) h Q) : Go M d pc loc (.inl y :: .inl x :: st) h Q := by
  intro p l e R s m args below meth c b D cA k0 z H locs ls Z hcx hR hS hL hs hh hF
  have kk := k p l e R s m args below meth c b D cA k0 z H locs ls Z hcx hR hS hL (hs.tl.tl.cons (inR_t _)) hh hF
  simp only [List.map_cons, cV, ishl, Int32.ofInt_toInt] at kk
  exact lv_ishl hcx.1 hcx.2.1 hdg kk
theorem g_ishr {x y : Int} (hdg : decode M.2.1 pc = .ok (.ishr, 1)) (k : Go M d (pc + 1) loc (.inl (ishr x y) :: st) h Q) : Go M d pc loc (.inl y :: .inl x :: st) h Q := by
  intro p l e R s m args below meth c b D cA k0 z H locs ls Z hcx hR hS hL hs hh hF
  have kk := k p l e R s m args below meth c b D cA k0 z H locs ls Z hcx hR hS hL (hs.tl.tl.cons (inR_t _)) hh hF
  simp only [List.map_cons, cV, ishr, Int32.ofInt_toInt] at kk
  exact lv_ishr hcx.1 hcx.2.1 hdg kk
theorem g_iushr {x y : Int} (hdg : decode M.2.1 pc = .ok (.iushr, 1)) (k : Go M d (pc + 1) loc (.inl (iushr x y) :: st) h Q) : Go M d pc loc (.inl y :: .inl x :: st) h Q := by
  intro p l e R s m args below meth c b D cA k0 z H locs ls Z hcx hR hS hL hs hh hF
  have kk := k p l e R s m args below meth c b D cA k0 z H locs ls Z hcx hR hS hL (hs.tl.tl.cons (inR_t _)) hh hF
  simp only [List.map_cons, cV, iushr, Int32.ofInt_toInt] at kk
  exact lv_iushr hcx.1 hcx.2.1 hdg rfl kk
theorem g_i2b {x : Int} (hdg : decode M.2.1 pc = .ok (.i2b, 1)) (k : Go M d (pc + 1) loc (.inl (i2b x) :: st) h Q) : Go M d pc loc (.inl x :: st) h Q := by
  intro p l e R s m args below meth c b D cA k0 z H locs ls Z hcx hR hS hL hs hh hF
  have kk := k p l e R s m args below meth c b D cA k0 z H locs ls Z hcx hR hS hL (hs.tl.cons (inR_t _)) hh hF
  simp only [List.map_cons, cV, i2b, Int32.ofInt_toInt] at kk
  exact lv_i2b hcx.1 hcx.2.1 hdg rfl kk
theorem g_i2c {x : Int} (hdg : decode M.2.1 pc = .ok (.i2c, 1)) (k : Go M d (pc + 1) loc (.inl (i2c x) :: st) h Q) : Go M d pc loc (.inl x :: st) h Q := by
  intro p l e R s m args below meth c b D cA k0 z H locs ls Z hcx hR hS hL hs hh hF
  have kk := k p l e R s m args below meth c b D cA k0 z H locs ls Z hcx hR hS hL (hs.tl.cons (inR_t _)) hh hF
  simp only [List.map_cons, cV, i2c, Int32.ofInt_toInt] at kk
  exact lv_i2c hcx.1 hcx.2.1 hdg rfl kk
theorem g_idiv {x y : Int} (hdg : decode M.2.1 pc = .ok (.idiv, 1)) (hy : y ≠ 0) (k : Go M d (pc + 1) loc (.inl (idiv x y) :: st) h Q) : Go M d pc loc (.inl y :: .inl x :: st) h Q := by
  intro p l e R s m args below meth c b D cA k0 z H locs ls Z hcx hR hS hL hs hh hF
  have kk := k p l e R s m args below meth c b D cA k0 z H locs ls Z hcx hR hS hL (hs.tl.tl.cons (inR_t _)) hh hF
  simp only [List.map_cons, cV, idiv, Int32.ofInt_toInt] at kk
  exact lv_idiv hcx.1 hcx.2.1 hdg (fun e => hy ((eq_of hs.hd inR_0).mp e)) kk
theorem g_irem {x y : Int} (hdg : decode M.2.1 pc = .ok (.irem, 1)) (hy : y ≠ 0) (k : Go M d (pc + 1) loc (.inl (irem x y) :: st) h Q) : Go M d pc loc (.inl y :: .inl x :: st) h Q := by
  intro p l e R s m args below meth c b D cA k0 z H locs ls Z hcx hR hS hL hs hh hF
  have kk := k p l e R s m args below meth c b D cA k0 z H locs ls Z hcx hR hS hL (hs.tl.tl.cons (inR_t _)) hh hF
  simp only [List.map_cons, cV, irem, Int32.ofInt_toInt] at kk
  exact lv_irem hcx.1 hcx.2.1 hdg (fun e => hy ((eq_of hs.hd inR_0).mp e)) kk
theorem g_dup {v : PV} (hdg : decode M.2.1 pc = .ok (.dup, 1)) (k : Go M d (pc + 1) loc (v :: v :: st) h Q) : Go M d pc loc (v :: st) h Q := by
  intro p l e R s m args below meth c b D cA k0 z H locs ls Z hcx hR hS hL hs hh hF
  exact lv_dup hcx.1 hcx.2.1 hdg (cV_cat b v) (k p l e R s m args below meth c b D cA k0 z H locs ls Z hcx hR hS hL (hs.cons hs.hd) hh hF)
theorem g_dup2 {v w : PV} (hdg : decode M.2.1 pc = .ok (.dup2, 1)) (k : Go M d (pc + 1) loc (v :: w :: v :: w :: st) h Q) : Go M d pc loc (v :: w :: st) h Q := by
  intro p l e R s m args below meth c b D cA k0 z H locs ls Z hcx hR hS hL hs hh hF
  exact lv_dup2_11 hcx.1 hcx.2.1 hdg (cV_cat b v) (cV_cat b w) (k p l e R s m args below meth c b D cA k0 z H locs ls Z hcx hR hS hL ((hs.cons hs.tl.hd).cons hs.hd) hh hF)
theorem g_pop {v : PV} (hdg : decode M.2.1 pc = .ok (.pop, 1)) (k : Go M d (pc + 1) loc st h Q) : Go M d pc loc (v :: st) h Q := by
  intro p l e R s m args below meth c b D cA k0 z H locs ls Z hcx hR hS hL hs hh hF
  exact lv_pop hcx.1 hcx.2.1 hdg (cV_cat b v) (k p l e R s m args below meth c b D cA k0 z H locs ls Z hcx hR hS hL hs.tl hh hF)
theorem g_goto {off : Int} {tgt : Nat} (hdg : decode M.2.1 pc = .ok (.goto off, 3)) (ht : (pc : Int) + off = (tgt : Int)) (k : Go M d tgt loc st h Q) : Go M d pc loc st h Q := by
  intro p l e R s m args below meth c b D cA k0 z H locs ls Z hcx hR hS hL hs hh hF
  exact lv_goto hcx.1 hcx.2.1 hdg ht (k p l e R s m args below meth c b D cA k0 z H locs ls Z hcx hR hS hL hs hh hF)
theorem g_icmp_eq {x y off : Int} {tgt : Nat} (hdg : decode M.2.1 pc = .ok (.if_icmp .eq off, 3)) (ht : (pc : Int) + off = (tgt : Int)) (k1 : x = y → Go M d tgt loc st h Q) (k2 : ¬ x = y → Go M d (pc + 3) loc st h Q) : Go M d pc loc (.inl y :: .inl x :: st) h Q := by
  intro p l e R s m args below meth c b D cA k0 z H locs ls Z hcx hR hS hL hs hh hF
  have hx : inR x := hs.tl.hd
  have hy : inR y := hs.hd
  have hi := eq_of hx hy
  exact lv_icmp_eq hcx.1 hcx.2.1 hdg ht (fun cc => k1 (hi.mp cc) p l e R s m args below meth c b D cA k0 z H locs ls Z hcx hR hS hL hs.tl.tl hh hF) (fun cc => k2 (fun q => cc (hi.mpr q)) p l e R s m args below meth c b D cA k0 z H locs ls Z hcx hR hS hL hs.tl.tl hh hF)
theorem g_if_eq {x off : Int} {tgt : Nat} (hdg : decode M.2.1 pc = .ok (.ifCond .eq off, 3)) (ht : (pc : Int) + off = (tgt : Int)) (k1 : x = 0 → Go M d tgt loc st h Q) (k2 : ¬ x = 0 → Go M d (pc + 3) loc st h Q) : Go M d pc loc (.inl x :: st) h Q := by
  intro p l e R s m args below meth c b D cA k0 z H locs ls Z hcx hR hS hL hs hh hF
  have hx : inR x := hs.hd
  have hy : inR 0 := inR_0
  have hi := eq_of hx hy
  exact lv_if_eq hcx.1 hcx.2.1 hdg ht (fun cc => k1 (hi.mp cc) p l e R s m args below meth c b D cA k0 z H locs ls Z hcx hR hS hL hs.tl hh hF) (fun cc => k2 (fun q => cc (hi.mpr q)) p l e R s m args below meth c b D cA k0 z H locs ls Z hcx hR hS hL hs.tl hh hF)
theorem g_icmp_ne {x y off : Int} {tgt : Nat} (hdg : decode M.2.1 pc = .ok (.if_icmp .ne off, 3)) (ht : (pc : Int) + off = (tgt : Int)) (k1 : ¬ x = y → Go M d tgt loc st h Q) (k2 : x = y → Go M d (pc + 3) loc st h Q) : Go M d pc loc (.inl y :: .inl x :: st) h Q := by
  intro p l e R s m args below meth c b D cA k0 z H locs ls Z hcx hR hS hL hs hh hF
  have hx : inR x := hs.tl.hd
  have hy : inR y := hs.hd
  have hi := not_congr (eq_of hx hy)
  exact lv_icmp_ne hcx.1 hcx.2.1 hdg ht (fun cc => k1 (hi.mp cc) p l e R s m args below meth c b D cA k0 z H locs ls Z hcx hR hS hL hs.tl.tl hh hF) (fun cc => k2 ((eq_of hx hy).mp cc) p l e R s m args below meth c b D cA k0 z H locs ls Z hcx hR hS hL hs.tl.tl hh hF)
theorem g_if_ne {x off : Int} {tgt : Nat} (hdg : decode M.2.1 pc = .ok (.ifCond .ne off, 3)) (ht : (pc : Int) + off = (tgt : Int)) (k1 : ¬ x = 0 → Go M d tgt loc st h Q) (k2 : x = 0 → Go M d (pc + 3) loc st h Q) : Go M d pc loc (.inl x :: st) h Q := by
  intro p l e R s m args below meth c b D cA k0 z H locs ls Z hcx hR hS hL hs hh hF
  have hx : inR x := hs.hd
  have hy : inR 0 := inR_0
  have hi := not_congr (eq_of hx hy)
  exact lv_if_ne hcx.1 hcx.2.1 hdg ht (fun cc => k1 (hi.mp cc) p l e R s m args below meth c b D cA k0 z H locs ls Z hcx hR hS hL hs.tl hh hF) (fun cc => k2 ((eq_of hx hy).mp cc) p l e R s m args below meth c b D cA k0 z H locs ls Z hcx hR hS hL hs.tl hh hF)
theorem g_icmp_lt {x y off : Int} {tgt : Nat} (hdg : decode M.2.1 pc = .ok (.if_icmp .lt off, 3)) (ht : (pc : Int) + off = (tgt : Int)) (k1 : x < y → Go M d tgt loc st h Q) (k2 : ¬ x < y → Go M d (pc + 3) loc st h Q) : Go M d pc loc (.inl y :: .inl x :: st) h Q := by
  intro p l e R s m args below meth c b D cA k0 z H locs ls Z hcx hR hS hL hs hh hF
  have hx : inR x := hs.tl.hd
  have hy : inR y := hs.hd
  have hi := lt_of hx hy
  exact lv_icmp_lt hcx.1 hcx.2.1 hdg ht (fun cc => k1 (hi.mp cc) p l e R s m args below meth c b D cA k0 z H locs ls Z hcx hR hS hL hs.tl.tl hh hF) (fun cc => k2 (fun q => cc (hi.mpr q)) p l e R s m args below meth c b D cA k0 z H locs ls Z hcx hR hS hL hs.tl.tl hh hF)
theorem g_if_lt {x off : Int} {tgt : Nat} (hdg : decode M.2.1 pc = .ok (.ifCond .lt off, 3)) (ht : (pc : Int) + off = (tgt : Int)) (k1 : x < 0 → Go M d tgt loc st h Q) (k2 : ¬ x < 0 → Go M d (pc + 3) loc st h Q) : Go M d pc loc (.inl x :: st) h Q := by
  intro p l e R s m args below meth c b D cA k0 z H locs ls Z hcx hR hS hL hs hh hF
  have hx : inR x := hs.hd
  have hy : inR 0 := inR_0
  have hi := lt_of hx hy
  exact lv_if_lt hcx.1 hcx.2.1 hdg ht (fun cc => k1 (hi.mp cc) p l e R s m args below meth c b D cA k0 z H locs ls Z hcx hR hS hL hs.tl hh hF) (fun cc => k2 (fun q => cc (hi.mpr q)) p l e R s m args below meth c b D cA k0 z H locs ls Z hcx hR hS hL hs.tl hh hF)
theorem g_icmp_ge {x y off : Int} {tgt : Nat} (hdg : decode M.2.1 pc = .ok (.if_icmp .ge off, 3)) (ht : (pc : Int) + off = (tgt : Int)) (k1 : y ≤ x → Go M d tgt loc st h Q) (k2 : ¬ y ≤ x → Go M d (pc + 3) loc st h Q) : Go M d pc loc (.inl y :: .inl x :: st) h Q := by
  intro p l e R s m args below meth c b D cA k0 z H locs ls Z hcx hR hS hL hs hh hF
  have hx : inR x := hs.tl.hd
  have hy : inR y := hs.hd
  have hi := le_of hy hx
  exact lv_icmp_ge hcx.1 hcx.2.1 hdg ht (fun cc => k1 (hi.mp cc) p l e R s m args below meth c b D cA k0 z H locs ls Z hcx hR hS hL hs.tl.tl hh hF) (fun cc => k2 (fun q => cc (hi.mpr q)) p l e R s m args below meth c b D cA k0 z H locs ls Z hcx hR hS hL hs.tl.tl hh hF)
theorem g_if_ge {x off : Int} {tgt : Nat} (hdg : decode M.2.1 pc = .ok (.ifCond .ge off, 3)) (ht : (pc : Int) + off = (tgt : Int)) (k1 : 0 ≤ x → Go M d tgt loc st h Q) (k2 : ¬ 0 ≤ x → Go M d (pc + 3) loc st h Q) : Go M d pc loc (.inl x :: st) h Q := by
  intro p l e R s m args below meth c b D cA k0 z H locs ls Z hcx hR hS hL hs hh hF
  have hx : inR x := hs.hd
  have hy : inR 0 := inR_0
  have hi := le_of hy hx
  exact lv_if_ge hcx.1 hcx.2.1 hdg ht (fun cc => k1 (hi.mp cc) p l e R s m args below meth c b D cA k0 z H locs ls Z hcx hR hS hL hs.tl hh hF) (fun cc => k2 (fun q => cc (hi.mpr q)) p l e R s m args below meth c b D cA k0 z H locs ls Z hcx hR hS hL hs.tl hh hF)
theorem g_icmp_gt {x y off : Int} {tgt : Nat} (hdg : decode M.2.1 pc = .ok (.if_icmp .gt off, 3)) (ht : (pc : Int) + off = (tgt : Int)) (k1 : y < x → Go M d tgt loc st h Q) (k2 : ¬ y < x → Go M d (pc + 3) loc st h Q) : Go M d pc loc (.inl y :: .inl x :: st) h Q := by
  intro p l e R s m args below meth c b D cA k0 z H locs ls Z hcx hR hS hL hs hh hF
  have hx : inR x := hs.tl.hd
  have hy : inR y := hs.hd
  have hi := lt_of hy hx
  exact lv_icmp_gt hcx.1 hcx.2.1 hdg ht (fun cc => k1 (hi.mp cc) p l e R s m args below meth c b D cA k0 z H locs ls Z hcx hR hS hL hs.tl.tl hh hF) (fun cc => k2 (fun q => cc (hi.mpr q)) p l e R s m args below meth c b D cA k0 z H locs ls Z hcx hR hS hL hs.tl.tl hh hF)
theorem g_if_gt {x off : Int} {tgt : Nat} (hdg : decode M.2.1 pc = .ok (.ifCond .gt off, 3)) (ht : (pc : Int) + off = (tgt : Int)) (k1 : 0 < x → Go M d tgt loc st h Q) (k2 : ¬ 0 < x → Go M d (pc + 3) loc st h Q) : Go M d pc loc (.inl x :: st) h Q := by
  intro p l e R s m args below meth c b D cA k0 z H locs ls Z hcx hR hS hL hs hh hF
  have hx : inR x := hs.hd
  have hy : inR 0 := inR_0
  have hi := lt_of hy hx
  exact lv_if_gt hcx.1 hcx.2.1 hdg ht (fun cc => k1 (hi.mp cc) p l e R s m args below meth c b D cA k0 z H locs ls Z hcx hR hS hL hs.tl hh hF) (fun cc => k2 (fun q => cc (hi.mpr q)) p l e R s m args below meth c b D cA k0 z H locs ls Z hcx hR hS hL hs.tl hh hF)
theorem g_icmp_le {x y off : Int} {tgt : Nat} (hdg : decode M.2.1 pc = .ok (.if_icmp .le off, 3)) (ht : (pc : Int) + off = (tgt : Int)) (k1 : x ≤ y → Go M d tgt loc st h Q) (k2 : ¬ x ≤ y → Go M d (pc + 3) loc st h Q) : Go M d pc loc (.inl y :: .inl x :: st) h Q := by
  intro p l e R s m args below meth c b D cA k0 z H locs ls Z hcx hR hS hL hs hh hF
  have hx : inR x := hs.tl.hd
  have hy : inR y := hs.hd
  have hi := le_of hx hy
  exact lv_icmp_le hcx.1 hcx.2.1 hdg ht (fun cc => k1 (hi.mp cc) p l e R s m args below meth c b D cA k0 z H locs ls Z hcx hR hS hL hs.tl.tl hh hF) (fun cc => k2 (fun q => cc (hi.mpr q)) p l e R s m args below meth c b D cA k0 z H locs ls Z hcx hR hS hL hs.tl.tl hh hF)
theorem g_if_le {x off : Int} {tgt : Nat} (hdg : decode M.2.1 pc = .ok (.ifCond .le off, 3)) (ht : (pc : Int) + off = (tgt : Int)) (k1 : x ≤ 0 → Go M d tgt loc st h Q) (k2 : ¬ x ≤ 0 → Go M d (pc + 3) loc st h Q) : Go M d pc loc (.inl x :: st) h Q := by
  intro p l e R s m args below meth c b D cA k0 z H locs ls Z hcx hR hS hL hs hh hF
  have hx : inR x := hs.hd
  have hy : inR 0 := inR_0
  have hi := le_of hx hy
  exact lv_if_le hcx.1 hcx.2.1 hdg ht (fun cc => k1 (hi.mp cc) p l e R s m args below meth c b D cA k0 z H locs ls Z hcx hR hS hL hs.tl hh hF) (fun cc => k2 (fun q => cc (hi.mpr q)) p l e R s m args below meth c b D cA k0 z H locs ls Z hcx hR hS hL hs.tl hh hF)
theorem g_ifnull {r : Nat} {off : Int} {tgt : Nat} (hdg : decode M.2.1 pc = .ok (.ifnull off, 3)) (ht : (pc : Int) + off = (tgt : Int)) (k1 : r = 0 → Go M d tgt loc st h Q) (k2 : ¬ r = 0 → Go M d (pc + 3) loc st h Q) : Go M d pc loc (.inr r :: st) h Q := by
  intro p l e R s m args below meth c b D cA k0 z H locs ls Z hcx hR hS hL hs hh hF
  rw [List.map_cons]
  cases r with
  | zero => rw [cV_0]; exact lv_ifnullN hcx.1 hcx.2.1 hdg ht (k1 rfl p l e R s m args below meth c b D cA k0 z H locs ls Z hcx hR hS hL hs.tl hh hF)
  | succ r => rw [cV_s]; exact lv_ifnull hcx.1 hcx.2.1 hdg (k2 (by omega) p l e R s m args below meth c b D cA k0 z H locs ls Z hcx hR hS hL hs.tl hh hF)
theorem g_ifnonnull {r : Nat} {off : Int} {tgt : Nat} (hdg : decode M.2.1 pc = .ok (.ifnonnull off, 3)) (ht : (pc : Int) + off = (tgt : Int)) (k1 : ¬ r = 0 → Go M d tgt loc st h Q) (k2 : r = 0 → Go M d (pc + 3) loc st h Q) : Go M d pc loc (.inr r :: st) h Q := by
  intro p l e R s m args below meth c b D cA k0 z H locs ls Z hcx hR hS hL hs hh hF
  rw [List.map_cons]
  cases r with
  | zero => rw [cV_0]; exact lv_ifnonnullN hcx.1 hcx.2.1 hdg (k2 rfl p l e R s m args below meth c b D cA k0 z H locs ls Z hcx hR hS hL hs.tl hh hF)
  | succ r => rw [cV_s]; exact lv_ifnonnull hcx.1 hcx.2.1 hdg ht (k1 (by omega) p l e R s m args below meth c b D cA k0 z H locs ls Z hcx hR hS hL hs.tl hh hF)
theorem g_ret {r : Option PV} {i : Instr} (hdg : decode M.2.1 pc = .ok (i, 1)) (hr : retOK M.2.2.2 i r) (hq : Q r h) : Go M d pc loc r.toList h Q := by
  intro p l e R s m args below meth c b D cA k0 z H locs ls Z hcx hR hS hL hs hh hF
  exact hF r h H locs ls pc i hdg hr hq hh (fun v hv => hs v (by rw [hv]; simp)) hR hS
theorem g_iret {x : Int} (hdg : decode M.2.1 pc = .ok (.ireturn, 1)) (hr : M.2.2.2 = some .int) (hq : Q (some (.inl x)) h) : Go M d pc loc [.inl x] h Q := g_ret (r := some (.inl x)) hdg (Or.inl ⟨rfl, hr, x, rfl⟩) hq
theorem g_zret {x : Int} (hdg : decode M.2.1 pc = .ok (.ireturn, 1)) (hr : M.2.2.2 = some .boolean) (h01 : x = 0 ∨ x = 1) (hq : Q (some (.inl x)) h) : Go M d pc loc [.inl x] h Q := g_ret (r := some (.inl x)) hdg (Or.inr (Or.inl ⟨rfl, hr, by rcases h01 with rfl | rfl; exact Or.inl rfl; exact Or.inr rfl⟩)) hq
theorem g_aret {x : Nat} {n : String} (hdg : decode M.2.1 pc = .ok (.areturn, 1)) (hr : M.2.2.2 = some (.object n)) (hq : Q (some (.inr x)) h) : Go M d pc loc [.inr x] h Q := g_ret (r := some (.inr x)) hdg (Or.inr (Or.inr (Or.inl ⟨rfl, ⟨n, hr⟩, x, rfl⟩))) hq
theorem g_vret (hdg : decode M.2.1 pc = .ok (.return_, 1)) (hr : M.2.2.2 = none) (hq : Q none h) : Go M d pc loc [] h Q := g_ret (r := none) hdg (Or.inr (Or.inr (Or.inr ⟨rfl, hr, rfl⟩))) hq
end ROWS
end
section
/-! THE ROWS OF THE HEAP -/
def Cls (ci : Nat) (C : String) (T : u_T) (N : Nat) : Prop := vwCl[ci]? = some (C, T, N) ∧ (∀ w ∈ u_ws C T N, w ∈ WS) ∧ (∀ k, k < N → parseFieldDescriptor (T k).2.2.1 = some (tyF ci k)) ∧ (∀ a, a < N → ∀ b, b < N → a ≠ b → (T a).2.1 ≠ (T b).2.1) ∧ N = nF ci
def FLk (own : String) (idx ci k : Nat) : Prop := ∃ (C : String) (T : u_T) (N : Nat), Cls ci C T N ∧ k < N ∧ Cond.fieldLink own idx (T k).1 (T k).2.1 (T k).2.2.1 ∈ WS ∧ ((tyF ci k = .int ∨ tyF ci k = .boolean) → (T k).2.2.2 = false)
section HEAP
variable {M : Mth} {d pc : Nat} {loc : List (Option PV)} {st : List PV} {h : Hp} {Q : Option PV → Hp → Prop}
theorem fV_i {b : Nat} {ty : FieldType} {x : Int} {r : Nat} (h : ty = .int ∨ ty = .boolean) : fV b ty x r = .int (Int32.ofInt x) := by rcases h with rfl | rfl <;> rfl
theorem g_getI {idx ci k c : Nat} {rs : List Nat} (hdg : decode M.2.1 pc = .ok (.getfield idx, 3)) (hf : FLk M.1.cls idx ci k) (hc : L0[c]? = some (.inl (ci, rs))) (hty : tyF ci k = .int ∨ tyF ci k = .boolean) (kk : Go M d (pc + 3) loc (.inl (h c k) :: st) h Q) : Go M d pc loc (.inr (c + 1) :: st) h Q := by
  intro p l e R s m args below meth cd b D cA k0 z H locs ls Z hcx hR hS hL hs hh hF
  obtain ⟨C, T, N, ⟨h1, h2, h3, h4, rfl⟩, hk, hl, -⟩ := hf
  have k2 := kk p l e R s m args below meth cd b D cA k0 z H locs ls Z hcx hR hS hL (hs.tl.cons (hh c k)) hh hF
  rw [List.map_cons] at k2
  rw [List.map_cons, cV_s]
  refine va_get hcx.1 hcx.2.1 hcx.2.2.2.2.2.1 h2 hcx.2.2.2.2.1 hcx.2.2.2.2.2.2.2.1 hR c (wd_get hc) h1 k hk (hcx.2.2.2.2.2.1 _ hl) (fun _ q => q) ?_ hdg k2
  rw [List.getElem?_map, List.getElem?_range hk]
  simp [fV_i hty, cV]
theorem g_getR {idx ci k c r : Nat} {rs : List Nat} (hdg : decode M.2.1 pc = .ok (.getfield idx, 3)) (hf : FLk M.1.cls idx ci k) (hc : L0[c]? = some (.inl (ci, rs))) (hty : ¬ tyF ci k = .int ∧ ¬ tyF ci k = .boolean) (hr : rs.getD k 0 = r) (hb : r ≤ 1000) (kk : Go M d (pc + 3) loc (.inr r :: st) h Q) : Go M d pc loc (.inr (c + 1) :: st) h Q := by
  intro p l e R s m args below meth cd b D cA k0 z H locs ls Z hcx hR hS hL hs hh hF
  obtain ⟨C, T, N, ⟨h1, h2, h3, h4, rfl⟩, hk, hl, -⟩ := hf
  have k2 := kk p l e R s m args below meth cd b D cA k0 z H locs ls Z hcx hR hS hL (hs.tl.cons hb) hh hF
  rw [List.map_cons] at k2
  rw [List.map_cons, cV_s]
  refine va_get hcx.1 hcx.2.1 hcx.2.2.2.2.2.1 h2 hcx.2.2.2.2.1 hcx.2.2.2.2.2.2.2.1 hR c (wd_get hc) h1 k hk (hcx.2.2.2.2.2.1 _ hl) (fun _ q => q) ?_ hdg k2
  rw [List.getElem?_map, List.getElem?_range hk]
  show some (fV b (tyF ci k) (h c k) (rs.getD k 0)) = some (va_rf (cR b r))
  rw [hr]
  congr 1
  unfold fV
  split
  · rename_i q; exact absurd q hty.1
  · rename_i q; exact absurd q hty.2
  · rfl
theorem Rp.set {D : va_G} {cA : Nat → ClassId} {b : Nat} {H1 : Heap} {c j : Nat} {v : Int} {dd : Dsc} {e : va_E} (hd : L0[c]? = some dd) (he : e = cE b cA dd (fun j' => if j' = j then v else h c j')) (h1 : va_P D vwCl ((wd b cA L0 h).set c (b + c, e)) H1) : Rp D cA b (hw h c j v) H1 := by
  rw [wd_set hd he] at h1
  rw [hw_S1]
  exact h1
theorem map_set_range {α : Type} (n k : Nat) (g g' : Nat → α) (x : α) (hx : g' k = x) (ho : ∀ j, j ≠ k → g' j = g j) : ((List.range n).map g).set k x = (List.range n).map g' := by
  apply List.ext_getElem?
  intro i
  by_cases hi : i = k
  · subst hi
    by_cases hl : i < n
    · rw [List.getElem?_set_self (by simpa using hl), List.getElem?_map, List.getElem?_range hl]
      simp [hx]
    · rw [List.getElem?_eq_none (by simp; omega), List.getElem?_eq_none (by simp; omega)]
  · rw [List.getElem?_set_ne (Ne.symm hi), List.getElem?_map, List.getElem?_map]
    by_cases hl : i < n
    · rw [List.getElem?_range hl]
      simp [ho i hi]
    · rw [List.getElem?_eq_none (by simp; omega)]
      rfl
theorem g_put {idx ci k c : Nat} {rs : List Nat} {v : Int} (hdg : decode M.2.1 pc = .ok (.putfield idx, 3)) (hf : FLk M.1.cls idx ci k) (hc : L0[c]? = some (.inl (ci, rs))) (hty : tyF ci k = .int ∨ (tyF ci k = .boolean ∧ (v = 0 ∨ v = 1))) (kk : Go M d (pc + 3) loc st (hw h c k v) Q) : Go M d pc loc (.inl v :: .inr (c + 1) :: st) h Q := by
  intro p l e R s m args below meth cd b D cA k0 z H locs ls Z hcx hR hS hL hs hh hF
  obtain ⟨C, T, N, ⟨h1, h2, h3, h4, rfl⟩, hk, hl, hfin⟩ := hf
  have hty2 : tyF ci k = .int ∨ tyF ci k = .boolean := hty.imp id And.left
  rw [List.map_cons, List.map_cons, cV_s]
  have hnf : narrow (tyF ci k) (cV b (.inl v)) = cV b (.inl v) ∧ fits (tyF ci k) (cV b (.inl v)) = true := by
    rcases hty with e | ⟨e, rfl | rfl⟩ <;> rw [e] <;> exact ⟨rfl, rfl⟩
  refine va_put hcx.1 hcx.2.1 hcx.2.2.2.2.2.1 h2 (tyF ci) h3 h4 hcx.2.2.2.2.1 hcx.2.2.2.2.2.2.2.1 hR wd_D hS c (wd_get hc) h1 k hk (hcx.2.2.2.2.2.1 _ hl) (fun _ q => q) (hfin hty2) (h3 k hk) hnf.1 hnf.2 (by simpa using hk) hdg fun H1 locs1 hP1 _ hS1 => ?_
  refine kk p l e R s m args below meth cd b D cA k0 z H1 locs1 ls Z hcx (Rp.set hc ?_ hP1) hS1 hL hs.tl.tl (okH_w hh hs.hd) hF
  show Sum.inr _ = Sum.inr _
  congr 2
  refine map_set_range _ _ _ _ _ ?_ fun j hj => ?_
  · simp [fV_i hty2, cV]
  · simp [hj]
theorem g_iald {c n : Nat} {i : Int} (hdg : decode M.2.1 pc = .ok (.iaload, 1)) (hc : L0[c]? = some (.inr (0, n))) (hi : 0 ≤ i ∧ i < n) (kk : Go M d (pc + 1) loc (.inl (h c i.toNat) :: st) h Q) : Go M d pc loc (.inl i :: .inr (c + 1) :: st) h Q := by
  intro p l e R s m args below meth cd b D cA k0 z H locs ls Z hcx hR hS hL hs hh hF
  have k2 := kk p l e R s m args below meth cd b D cA k0 z H locs ls Z hcx hR hS hL (hs.tl.tl.cons (hh c _)) hh hF
  rw [List.map_cons, List.map_cons, cV_s]
  rw [List.map_cons] at k2
  refine va_iald hcx.1 hcx.2.1 hcx.2.2.2.2.2.2.2.1 hR c 0 (wd_get hc) rfl (vp_of hs.hd hi) hdg ?_
  rw [cl_of hs.hd]
  exact k2
theorem g_bald {c n : Nat} {i : Int} (hdg : decode M.2.1 pc = .ok (.baload, 1)) (hc : L0[c]? = some (.inr (1, n))) (hi : 0 ≤ i ∧ i < n) (kk : Go M d (pc + 1) loc (.inl (h c i.toNat) :: st) h Q) : Go M d pc loc (.inl i :: .inr (c + 1) :: st) h Q := by
  intro p l e R s m args below meth cd b D cA k0 z H locs ls Z hcx hR hS hL hs hh hF
  have k2 := kk p l e R s m args below meth cd b D cA k0 z H locs ls Z hcx hR hS hL (hs.tl.tl.cons (hh c _)) hh hF
  rw [List.map_cons, List.map_cons, cV_s]
  rw [List.map_cons] at k2
  refine va_bald hcx.1 hcx.2.1 hcx.2.2.2.2.2.2.2.1 hR c 1 (wd_get hc) rfl (vp_of hs.hd hi) hdg ?_
  rw [cl_of hs.hd]
  exact k2
theorem g_zald {c n : Nat} {i : Int} (hdg : decode M.2.1 pc = .ok (.baload, 1)) (hc : L0[c]? = some (.inr (2, n))) (hi : 0 ≤ i ∧ i < n) (kk : Go M d (pc + 1) loc (.inl (h c i.toNat) :: st) h Q) : Go M d pc loc (.inl i :: .inr (c + 1) :: st) h Q := by
  intro p l e R s m args below meth cd b D cA k0 z H locs ls Z hcx hR hS hL hs hh hF
  have k2 := kk p l e R s m args below meth cd b D cA k0 z H locs ls Z hcx hR hS hL (hs.tl.tl.cons (hh c _)) hh hF
  rw [List.map_cons, List.map_cons, cV_s]
  rw [List.map_cons] at k2
  refine va_zald hcx.1 hcx.2.1 hcx.2.2.2.2.2.2.2.1 hR c 2 (wd_get hc) rfl (vp_of hs.hd hi) hdg ?_
  rw [cl_of hs.hd]
  exact k2
theorem upd_of (f : Nat → Int) (i : Nat) (v : Int) (x : Int32) (hx : x = Int32.ofInt v) : upd (fun j => Int32.ofInt (f j)) i x = fun j => Int32.ofInt (if j = i then v else f j) := by
  funext j
  unfold upd
  split <;> rename_i h
  · exact hx
  · rfl
theorem g_iast {c n : Nat} {i v : Int} (hdg : decode M.2.1 pc = .ok (.iastore, 1)) (hc : L0[c]? = some (.inr (0, n))) (hi : 0 ≤ i ∧ i < n) (kk : Go M d (pc + 1) loc st (hw h c i.toNat v) Q) : Go M d pc loc (.inl v :: .inl i :: .inr (c + 1) :: st) h Q := by
  intro p l e R s m args below meth cd b D cA k0 z H locs ls Z hcx hR hS hL hs hh hF
  rw [List.map_cons, List.map_cons, List.map_cons, cV_s]
  refine va_iast hcx.1 hcx.2.1 hcx.2.2.2.2.2.2.2.1 hR wd_D hS c 0 (wd_get hc) rfl (vp_of hs.tl.hd hi) hdg fun H1 locs1 hP1 _ hS1 => ?_
  rw [cl_of hs.tl.hd, upd_of _ _ v _ rfl] at hP1
  exact kk p l e R s m args below meth cd b D cA k0 z H1 locs1 ls Z hcx (Rp.set hc rfl hP1) hS1 hL hs.tl.tl.tl (okH_w hh hs.hd) hF
theorem g_bast {c n : Nat} {i v : Int} (hdg : decode M.2.1 pc = .ok (.bastore, 1)) (hc : L0[c]? = some (.inr (1, n))) (hi : 0 ≤ i ∧ i < n) (kk : Go M d (pc + 1) loc st (hw h c i.toNat (i2b v)) Q) : Go M d pc loc (.inl v :: .inl i :: .inr (c + 1) :: st) h Q := by
  intro p l e R s m args below meth cd b D cA k0 z H locs ls Z hcx hR hS hL hs hh hF
  rw [List.map_cons, List.map_cons, List.map_cons, cV_s]
  refine va_bast hcx.1 hcx.2.1 hcx.2.2.2.2.2.2.2.1 hR wd_D hS c 1 (wd_get hc) rfl (vp_of hs.tl.hd hi) hdg fun H1 locs1 hP1 _ hS1 => ?_
  rw [cl_of hs.tl.hd, upd_of _ _ (i2b v) _ (by rw [vp_nar_byte, i2b, Int32.ofInt_toInt])] at hP1
  exact kk p l e R s m args below meth cd b D cA k0 z H1 locs1 ls Z hcx (Rp.set hc rfl hP1) hS1 hL hs.tl.tl.tl (okH_w hh (inR_t _)) hF
theorem g_zast {c n : Nat} {i v : Int} (hdg : decode M.2.1 pc = .ok (.bastore, 1)) (hc : L0[c]? = some (.inr (2, n))) (hi : 0 ≤ i ∧ i < n) (hv : v = 0 ∨ v = 1) (kk : Go M d (pc + 1) loc st (hw h c i.toNat v) Q) : Go M d pc loc (.inl v :: .inl i :: .inr (c + 1) :: st) h Q := by
  intro p l e R s m args below meth cd b D cA k0 z H locs ls Z hcx hR hS hL hs hh hF
  rw [List.map_cons, List.map_cons, List.map_cons, cV_s]
  refine va_zast hcx.1 hcx.2.1 hcx.2.2.2.2.2.2.2.1 hR wd_D hS c 2 (wd_get hc) rfl (vp_of hs.tl.hd hi) hdg fun H1 locs1 hP1 _ hS1 => ?_
  rw [cl_of hs.tl.hd, upd_of _ _ v _ (by rcases hv with rfl | rfl <;> rfl)] at hP1
  exact kk p l e R s m args below meth cd b D cA k0 z H1 locs1 ls Z hcx (Rp.set hc rfl hP1) hS1 hL hs.tl.tl.tl (okH_w hh hs.hd) hF
theorem g_aald {c n : Nat} {i : Int} (hdg : decode M.2.1 pc = .ok (.aaload, 1)) (hc : L0[c]? = some (.inr (3, n))) (hi : 0 ≤ i ∧ i < n) (hb : (h c i.toNat).toNat ≤ 1000) (kk : Go M d (pc + 1) loc (.inr (h c i.toNat).toNat :: st) h Q) : Go M d pc loc (.inl i :: .inr (c + 1) :: st) h Q := by
  intro p l e R s m args below meth cd b D cA k0 z H locs ls Z hcx hR hS hL hs hh hF
  have k2 := kk p l e R s m args below meth cd b D cA k0 z H locs ls Z hcx hR hS hL (hs.tl.tl.cons hb) hh hF
  rw [List.map_cons, List.map_cons, cV_s]
  rw [List.map_cons] at k2
  refine va_aldq hcx.1 hcx.2.1 hcx.2.2.2.2.2.2.2.1 hR c 3 (wd_get hc) rfl (vp_of hs.hd hi) hdg ?_
  rw [cl_of hs.hd]
  exact k2
theorem up_of (b : Nat) (f : Nat → Int) (i r : Nat) : va_up (fun j => cR b (f j).toNat) i (cR b r) = fun j => cR b (if j = i then (r : Int) else f j).toNat := by
  funext j
  unfold va_up
  split <;> rename_i h
  · simp
  · rfl
theorem g_aast {c n r : Nat} {i : Int} (hdg : decode M.2.1 pc = .ok (.aastore, 1)) (hc : L0[c]? = some (.inr (3, n))) (hi : 0 ≤ i ∧ i < n) (hr : r = 0 ∨ ∃ q rs, r = q + 1 ∧ L0[q]? = some (.inl (0, rs))) (kk : Go M d (pc + 1) loc st (hw h c i.toNat (r : Int)) Q) : Go M d pc loc (.inr r :: .inl i :: .inr (c + 1) :: st) h Q := by
  intro p l e R s m args below meth cd b D cA k0 z H locs ls Z hcx hR hS hL hs hh hF
  have hrb : r ≤ 1000 := hs.hd
  have hin : inR (r : Int) := ⟨by omega, by omega⟩
  have hup := up_of b (h c) i.toNat r
  rw [List.map_cons, List.map_cons, List.map_cons, cV_s]
  rcases hr with rfl | ⟨q, rs, rfl, hq⟩
  · rw [cV_0]
    refine va_astqN hcx.1 hcx.2.1 hcx.2.2.2.2.2.2.2.1 hR wd_D hS c 3 (wd_get hc) rfl (vp_of hs.tl.hd hi) hdg fun H1 locs1 hP1 _ hS1 => ?_
    rw [cl_of hs.tl.hd] at hP1
    rw [show cR b 0 = none from rfl] at hup
    rw [hup] at hP1
    exact kk p l e R s m args below meth cd b D cA k0 z H1 locs1 ls Z hcx (Rp.set hc rfl hP1) hS1 hL hs.tl.tl.tl (okH_w hh hin) hF
  · rw [cV_s]
    refine va_astq hcx.1 hcx.2.1 hcx.2.2.2.2.2.2.2.1 hR wd_D hS c 3 q 0 (r := (RX0, TX0, 5)) (wd_get hc) rfl (wd_get hq) rfl (vp_of hs.tl.hd hi) hdg fun H1 locs1 hP1 _ hS1 => ?_
    rw [cl_of hs.tl.hd] at hP1
    rw [show cR b (q + 1) = some (b + q) by simp [cR]] at hup
    rw [hup] at hP1
    exact kk p l e R s m args below meth cd b D cA k0 z H1 locs1 ls Z hcx (Rp.set hc rfl hP1) hS1 hL hs.tl.tl.tl (okH_w hh hin) hF
theorem g_alen {c k n : Nat} (hdg : decode M.2.1 pc = .ok (.arraylength, 1)) (hc : L0[c]? = some (.inr (k, n))) (hk : k < 3) (hn : n < 2147483648) (kk : Go M d (pc + 1) loc (.inl (n : Int) :: st) h Q) : Go M d pc loc (.inr (c + 1) :: st) h Q := by
  intro p l e R s m args below meth cd b D cA k0 z H locs ls Z hcx hR hS hL hs hh hF
  have k2 := kk p l e R s m args below meth cd b D cA k0 z H locs ls Z hcx hR hS hL (hs.tl.cons ⟨by omega, by omega⟩) hh hF
  rw [List.map_cons, cV_s]
  rw [List.map_cons] at k2
  have hof : Int32.ofNat n = Int32.ofInt (n : Int) := rfl
  rcases (show k = 0 ∨ k = 1 ∨ k = 2 by omega) with rfl | rfl | rfl
  · exact va_alen hcx.1 hcx.2.1 hcx.2.2.2.2.2.2.2.1 hR c 0 (wd_get hc) rfl (ty := .int) hof hdg k2
  · exact va_alen hcx.1 hcx.2.1 hcx.2.2.2.2.2.2.2.1 hR c 1 (wd_get hc) rfl (ty := .byte) hof hdg k2
  · exact va_alen hcx.1 hcx.2.1 hcx.2.2.2.2.2.2.2.1 hR c 2 (wd_get hc) rfl (ty := .boolean) hof hdg k2
end HEAP
end
section
/-! THE ROWS OF CALLS, SWITCHES, AND OF THE JDK'S OWN -/
section CALLS
variable {M : Mth} {d pc : Nat} {loc : List (Option PV)} {st : List PV} {h : Hp} {Q : Option PV → Hp → Prop}
/-- what a callee's words are -/
def CB (M' : Mth) (n : Nat) : Prop := Cond.code M'.1 M'.2.1 M'.2.2.1 M'.2.2.2 ∈ WS ∧ Cond.initialized M'.1.cls ∈ WS ∧ M'.1.cls ≠ "java/lang/invoke/MethodHandle" ∧ M'.1.cls ≠ "java/lang/invoke/VarHandle" ∧ (parseMethodDescriptor M'.1.desc).map (fun d => d.parameters.length) = some n ∧ M'.2.2.1 ≤ 45
def CBv (M' : Mth) (ci n : Nat) : Prop := CB M' n ∧ Cond.instanceMethod M'.1 ∈ WS ∧ Cond.selects M'.1.cls M'.1 M'.1 ∈ WS ∧ ∃ (T : u_T) (N : Nat), vwCl[ci]? = some (M'.1.cls, T, N)
def CBs (M' : Mth) (n : Nat) : Prop := CB M' n ∧ Cond.static M'.1 ∈ WS
theorem good_ws {M M' : Mth} (hc : Cond.code M'.1 M'.2.1 M'.2.2.1 M'.2.2.2 ∈ WS) : GoodIn WS (wsM M') := fun w hw => by
  rcases List.mem_cons.mp hw with rfl | hw
  · exact ⟨hc, WS_good _ hc⟩
  · exact ⟨hw, WS_good _ hw⟩
theorem NW_warm {s U : State} (hW : s.WarmedH U.vm) (h : ∀ w ∈ NW, va_Nw w s) : ∀ w ∈ NW, va_Nw w U := by
  intro w hw
  have h1 := h w hw
  have h2 := (List.mem_filter.mp hw).2
  cases w with
  | methodLinkNest a i x hh => exact va_Nw.warmM hW h1
  | _ => cases h2
theorem StrU.warm {b : Nat} {s U : State} {H : Heap} {locs : List Loc} (hW : s.WarmedH U.vm) (hS : va_S (fun q => b ≤ q) s.heap H locs) (hU : U.heap = H) (h : StrU b s) : StrU b U := by
  obtain ⟨aS, aV, h1, h2, h3⟩ := h
  refine ⟨aS, aV, vk_R.warm hW h1, ?_, ?_⟩
  · rw [hU]; exact vk_S.moved hW.alike (h2.kept hS.2.1)
  · rw [hU]; exact va_Z.moved hW.alike (h3.kept hS.2.1)
theorem Nx.warm {b : Nat} {s U : State} {H : Heap} {locs : List Loc} (hW : s.WarmedH U.vm) (hS : va_S (fun q => b ≤ q) s.heap H locs) (hU : U.heap = H) (h : Nx b s) : Nx b U := ⟨NW_warm hW h.1, h.2.warm hW hS hU⟩
theorem Nx.calling {b : Nat} {U : State} {g : JFrame} {mk : MethodId} {a : Array Value} (h : Nx b U) : Nx b (U.calling g mk a) := by
  refine ⟨fun w hw => ?_, ?_⟩
  · have h2 := (List.mem_filter.mp hw).2
    cases w with
    | methodLinkNest x i y hh => exact va_Nw.same (u := U) rfl rfl (h.1 _ hw)
    | _ => cases h2
  · obtain ⟨aS, aV, h1, h2, h3⟩ := h.2
    exact ⟨aS, aV, vk_R.same (u := U) rfl h1, vk_S.moved (u := U) (U := U.calling g mk a) (Vm.Alike.refl U.vm) h2, va_Z.moved (u := U) (U := U.calling g mk a) (Vm.Alike.refl U.vm) h3⟩
theorem blind {D : va_G} {cA : Nat → ClassId} {b : Nat} {h : Hp} {av : List Value} : FrameBlind (va_Pc av (Wd D cA b h)) := by
  intro a U g mk q
  obtain ⟨q0, qP, qK, qN⟩ := q
  exact ⟨q0, qP, va_K.moved (u := U) (U := U.calling g mk a) (Vm.Alike.refl U.vm) qK, qN.calling⟩
theorem call_go {p : Program} {l : Launch} {e : Env} {R : Room} {s : State} {m : MethodId} {args : Array Value} {below : List Frame} {meth : Method} {c : Code} {H : Heap} {locs : List Loc} {k z b : Nat} {Z : State → Prop} {ls : Array Slot} {st0 rest : List Value} {a : Array Value} {D : va_G} {cA : Nat → ClassId} {Q1 : Option PV → Hp → Prop}
    (hr : va_Run p l e R s m args below meth c H locs k z 0 0 (F0 m pc ls st0) rest (Qg D cA b Q1 a) (fun q => b ≤ q)) (hS : va_S (fun q => b ≤ q) s.heap H locs)
    (kk : ∀ (r : Option PV) (h' : Hp) (H1 : Heap) (locs1 : List Loc), Q1 r h' → okH h' → okO r → Rp D cA b h' H1 → va_S (fun q => b ≤ q) s.heap H1 locs1 → W p l e R s m args below meth c H1 locs1 k z Z (F0 m (pc + 3) ls ((r.map (cV b)).toList ++ rest))) :
    W p l e R s m args below meth c H locs k z Z (F0 m pc ls st0) := by
  intro T hT X
  obtain ⟨v, st₀, t, T', L, h0, X', hL, e1, e2, ⟨⟨r, h', hv, hq, ho, hor, hR⟩, hz, hk⟩, st⟩ := hr T hT X
  cases hv
  rw [h0] at hz hk
  obtain ⟨t2, a1, b1⟩ := kk r h' T'.heap (locs ++ L) hq ho hor (by rw [e1]; exact hR)
    ⟨Nat.le_trans hS.1 (by rw [e1]; exact hz), fun q h1 h2 => by rw [e1, hk q (Nat.lt_of_lt_of_le h1 hS.1) h2]; exact hS.2.1 q h1 h2, fun q hq => by
      rcases List.mem_append.mp hq with h | h
      · exact hS.2.2 q h
      · exact hL q h⟩ T' rfl X'
  exact ⟨t2, st t2 a1, b1⟩
theorem okS_call {av : List PV} {c : Nat} (hs : okS (av.reverse ++ .inr (c + 1) :: st)) : okS (.inr (c + 1) :: av) ∧ okS st := by
  refine ⟨fun v hv => hs v ?_, fun v hv => hs v ?_⟩
  · rcases List.mem_cons.mp hv with rfl | hv
    · simp
    · simp [hv]
  · simp [hv]
theorem okS_callS {av : List PV} (hs : okS (av.reverse ++ st)) : okS av ∧ okS st := ⟨fun v hv => hs v (by simp [hv]), fun v hv => hs v (by simp [hv])⟩
theorem okS_ret {r : Option PV} (hr : okO r) (hs : okS st) : okS (r.toList ++ st) := fun v hv => by
  rcases List.mem_append.mp hv with h | h
  · exact hr v (by simpa using h)
  · exact hs v h
theorem room_of {b : Nat} {st : List PV} (h : st.length ≤ 8) : ((st.map (cV b)).map fun v => v.category).sum ≤ 8 := by
  have : ((st.map (cV b)).map fun v => v.category).sum = st.length := by
    clear h
    induction st with
    | nil => rfl
    | cons v t ih => simp only [List.map_cons, List.sum_cons, cV_cat, ih, List.length_cons]; omega
  rw [this]; exact h
theorem mapO {b : Nat} (r : Option PV) : (r.map (cV b)).toList = r.toList.map (cV b) := by cases r <;> rfl
theorem g_callV {M' : Mth} {d' idx ci n c : Nat} {av : List PV} {rs : List Nat} {Q1 : Option PV → Hp → Prop} (hdg : decode M.2.1 pc = .ok (.invokevirtual idx, 3)) (hlk : Cond.methodLink M.1.cls idx M'.1 ∈ WS) (hcb : CBv M' ci n) (hc : L0[c]? = some (.inl (ci, rs))) (hn : av.length = n) (hst : st.length ≤ 8) (hd : d' + 1 ≤ d) (hrun : Runs M' d' (.inr (c + 1) :: av) h Q1)
    (kk : ∀ r h', Q1 r h' → Go M d (pc + 3) loc (r.toList ++ st) h' Q) : Go M d pc loc (av.reverse ++ .inr (c + 1) :: st) h Q := by
  intro p l e R s m args below meth cd b D cA k0 z H locs ls Z hcx hR hS hL hs hh hF
  obtain ⟨ho1, ho2⟩ := okS_call hs
  obtain ⟨⟨hcode, hini, hy1, hy2, hpar, hml⟩, hinst, hsel, T, N, hcl⟩ := hcb
  obtain ⟨x1, x2, x3, x4, x5, x6, x7, x8, x9, x10, x11, x12, x13⟩ := id hcx
  have hM := hrun l D cA b hh ho1
  have cw : CallW R s args M.1.cls M'.1.cls idx M'.1 M'.2.1 M'.2.2.1 M'.2.2.2 (wsM M') (rmD d') 0 0 n := by
    refine cwV n x6 (Ts := WS) (fun w hw => ?_) rfl rfl rfl ⟨rfl, hy1, hy2, hpar⟩ ⟨by show d' + 1 ≤ R.frames; omega, by show 8 + (M'.2.2.1 + 11) + 64 * d' ≤ R.locals; omega⟩
    rcases List.mem_append.mp hw with h | h
    · simp only [List.mem_cons, List.not_mem_nil, or_false] at h
      rcases h with rfl | rfl | rfl | rfl
      · exact ⟨hlk, WS_good _ hlk⟩
      · exact ⟨hinst, WS_good _ hinst⟩
      · exact ⟨hsel, WS_good _ hsel⟩
      · exact ⟨hini, WS_good _ hini⟩
    · exact good_ws (M := M) hcode w h
  have hrecv := va_recv x8 hR hcl (wd_get hc)
  rw [List.map_append, List.map_cons, cV_s, List.map_reverse]
  refine call_go (va_runV (As := av.map (cV b)) (rest := st.map (cV b)) ⟨x1, x2, x4, x5, x6⟩ hM cw ⟨blind, hrecv, fun U hU hW => ⟨by rw [List.map_cons, cV_s], by show Rp D cA b h U.heap; rw [hU]; exact hR, va_K.moved hW.alike x8, Nx.warm hW hS hU x9⟩⟩ rfl (by simpa using hn) hL.1 rfl (lv_room (room_of hst)) hdg ⟨x12, x13⟩) hS ?_
  intro r h' H1 locs1 hq ho hor hR1 hS1
  have := kk r h' hq p l e R s m args below meth cd b D cA k0 z H1 locs1 ls Z hcx hR1 hS1 hL (okS_ret hor ho2) ho hF
  rw [List.map_append] at this
  rw [mapO]
  exact this
theorem g_callS {M' : Mth} {d' idx n : Nat} {av : List PV} {Q1 : Option PV → Hp → Prop} (hdg : decode M.2.1 pc = .ok (.invokestatic idx, 3)) (hlk : Cond.methodLink M.1.cls idx M'.1 ∈ WS) (hcb : CBs M' n) (hn : av.length = n) (hst : st.length ≤ 8) (hd : d' + 1 ≤ d) (hrun : Runs M' d' av h Q1)
    (kk : ∀ r h', Q1 r h' → Go M d (pc + 3) loc (r.toList ++ st) h' Q) : Go M d pc loc (av.reverse ++ st) h Q := by
  intro p l e R s m args below meth cd b D cA k0 z H locs ls Z hcx hR hS hL hs hh hF
  obtain ⟨ho1, ho2⟩ := okS_callS hs
  obtain ⟨⟨hcode, hini, hy1, hy2, hpar, hml⟩, hst1⟩ := hcb
  obtain ⟨x1, x2, x3, x4, x5, x6, x7, x8, x9, x10, x11, x12, x13⟩ := id hcx
  have hM := hrun l D cA b hh ho1
  have cw : CallB R s args M.1.cls idx M'.1 M'.2.1 M'.2.2.1 M'.2.2.2 (wsM M') (rmD d') 0 0 n ∧ (Cond.static M'.1).before args s = true := by
    refine va_cwS n x6 (Ts := WS) (fun w hw => ?_) rfl rfl rfl ⟨hy1, hy2, hpar⟩ ⟨by show d' + 1 ≤ R.frames; omega, by show 8 + (M'.2.2.1 + 11) + 64 * d' ≤ R.locals; omega⟩
    rcases List.mem_append.mp hw with h | h
    · simp only [List.mem_cons, List.not_mem_nil, or_false] at h
      rcases h with rfl | rfl | rfl
      · exact ⟨hlk, WS_good _ hlk⟩
      · exact ⟨hst1, WS_good _ hst1⟩
      · exact ⟨hini, WS_good _ hini⟩
    · exact good_ws (M := M) hcode w h
  rw [List.map_append, List.map_reverse]
  refine call_go (va_runS (As := av.map (cV b)) (rest := st.map (cV b)) ⟨x1, x2, x4, x5, x6⟩ hM cw ⟨blind, fun U hU hW => ⟨rfl, by show Rp D cA b h U.heap; rw [hU]; exact hR, va_K.moved hW.alike x8, Nx.warm hW hS hU x9⟩⟩ rfl (by simpa using hn) hL.1 rfl (lv_room (room_of hst)) hdg ⟨x12, x13⟩) hS ?_
  intro r h' H1 locs1 hq ho hor hR1 hS1
  have := kk r h' hq p l e R s m args below meth cd b D cA k0 z H1 locs1 ls Z hcx hR1 hS1 hL (okS_ret hor ho2) ho hF
  rw [List.map_append] at this
  rw [mapO]
  exact this
theorem g_callSN {M' : Mth} {d' idx n : Nat} {host : String} {av : List PV} {Q1 : Option PV → Hp → Prop} (hdg : decode M.2.1 pc = .ok (.invokestatic idx, 3)) (hlk : Cond.methodLinkNest M.1.cls idx M'.1 host ∈ NW) (hcb : CBs M' n) (hn : av.length = n) (hst : st.length ≤ 8) (hd : d' + 1 ≤ d) (hrun : Runs M' d' av h Q1)
    (kk : ∀ r h', Q1 r h' → Go M d (pc + 3) loc (r.toList ++ st) h' Q) : Go M d pc loc (av.reverse ++ st) h Q := by
  intro p l e R s m args below meth cd b D cA k0 z H locs ls Z hcx hR hS hL hs hh hF
  obtain ⟨ho1, ho2⟩ := okS_callS hs
  obtain ⟨⟨hcode, hini, hy1, hy2, hpar, hml⟩, hst1⟩ := hcb
  obtain ⟨x1, x2, x3, x4, x5, x6, x7, x8, x9, x10, x11, x12, x13⟩ := id hcx
  have hM := hrun l D cA b hh ho1
  have cw : va_CN R s args M.1.cls idx M'.1 host M'.2.1 M'.2.2.1 M'.2.2.2 (wsM M') (rmD d') 0 0 n ∧ (Cond.static M'.1).before args s = true ∧ True :=
    ⟨va_cnB n x6 (good_ws (M := M) hcode) rfl rfl rfl (x9.1 _ hlk) (x6 _ hini) ⟨hy1, hy2, hpar⟩ ⟨by show d' + 1 ≤ R.frames; omega, by show 8 + (M'.2.2.1 + 11) + 64 * d' ≤ R.locals; omega⟩, x6 _ hst1, trivial⟩
  rw [List.map_append, List.map_reverse]
  refine call_go (va_runSN (As := av.map (cV b)) (rest := st.map (cV b)) ⟨x1, x2, x4, x5, x6⟩ hM cw ⟨blind, fun U hU hW => ⟨rfl, by show Rp D cA b h U.heap; rw [hU]; exact hR, va_K.moved hW.alike x8, Nx.warm hW hS hU x9⟩⟩ rfl (by simpa using hn) hL.1 rfl (lv_room (room_of hst)) hdg ⟨x12, x13⟩) hS ?_
  intro r h' H1 locs1 hq ho hor hR1 hS1
  have := kk r h' hq p l e R s m args below meth cd b D cA k0 z H1 locs1 ls Z hcx hR1 hS1 hL (okS_ret hor ho2) ho hF
  rw [List.map_append] at this
  rw [mapO]
  exact this
end CALLS
end
section
section JDK
variable {M : Mth} {d pc : Nat} {loc : List (Option PV)} {st : List PV} {h : Hp} {Q : Option PV → Hp → Prop}
def imax (x y : Int) : Int := if x < y then y else x
def imin (x y : Int) : Int := if y < x then y else x
theorem g_max {idx : Nat} {x y : Int} (hdg : decode M.2.1 pc = .ok (.invokestatic idx, 3)) (hlk : Cond.methodLink M.1.cls idx Lib.Math.max.name ∈ WS) (hw : Cond.static Lib.Math.max.name ∈ WS ∧ Cond.initialized "java/lang/Math" ∈ WS ∧ Cond.code Lib.Math.max.name Lib.Math.max.code 2 (some .int) ∈ WS) (hst : st.length ≤ 8) (hd : 1 ≤ d) (kk : Go M d (pc + 3) loc (.inl (imax x y) :: st) h Q) : Go M d pc loc (.inl y :: .inl x :: st) h Q := by
  intro p l e R s m args below meth cd b D cA k0 z H locs ls Z hcx hR hS hL hs hh hF
  obtain ⟨x1, x2, x3, x4, x5, x6, x7, x8, x9, x10, x11, x12, x13⟩ := id hcx
  have hx : inR x := hs.tl.hd
  have hy : inR y := hs.hd
  have k2 := kk p l e R s m args below meth cd b D cA k0 z H locs ls Z hcx hR hS hL (hs.tl.tl.cons (by show inR (imax x y); unfold imax; split; exact hy; exact hx)) hh hF
  refine va_mmax x1 x2 (by rw [x4]; exact hL.1.symm) x5 (x6 _ hlk) (x6 _ hw.1) (x6 _ hw.2.1) (x6 _ hw.2.2) (by omega) (by have := room_of (b := b) hst; omega) x12 x13 hdg ?_
  have e : (if Int32.ofInt x < Int32.ofInt y then Int32.ofInt y else Int32.ofInt x) = Int32.ofInt (imax x y) := by
    unfold imax
    by_cases c : x < y
    · rw [if_pos c, if_pos ((lt_of hx hy).mpr c)]
    · rw [if_neg c, if_neg (fun q => c ((lt_of hx hy).mp q))]
  rw [e]
  exact k2
theorem g_min {idx : Nat} {x y : Int} (hdg : decode M.2.1 pc = .ok (.invokestatic idx, 3)) (hlk : Cond.methodLink M.1.cls idx Lib.Math.min.name ∈ WS) (hw : Cond.static Lib.Math.min.name ∈ WS ∧ Cond.initialized "java/lang/Math" ∈ WS ∧ Cond.code Lib.Math.min.name Lib.Math.min.code 2 (some .int) ∈ WS) (hst : st.length ≤ 8) (hd : 1 ≤ d) (kk : Go M d (pc + 3) loc (.inl (imin x y) :: st) h Q) : Go M d pc loc (.inl y :: .inl x :: st) h Q := by
  intro p l e R s m args below meth cd b D cA k0 z H locs ls Z hcx hR hS hL hs hh hF
  obtain ⟨x1, x2, x3, x4, x5, x6, x7, x8, x9, x10, x11, x12, x13⟩ := id hcx
  have hx : inR x := hs.tl.hd
  have hy : inR y := hs.hd
  have k2 := kk p l e R s m args below meth cd b D cA k0 z H locs ls Z hcx hR hS hL (hs.tl.tl.cons (by show inR (imin x y); unfold imin; split; exact hy; exact hx)) hh hF
  refine va_mmin x1 x2 (by rw [x4]; exact hL.1.symm) x5 (x6 _ hlk) (x6 _ hw.1) (x6 _ hw.2.1) (x6 _ hw.2.2) (by omega) (by have := room_of (b := b) hst; omega) x12 x13 hdg ?_
  have e : (if Int32.ofInt y < Int32.ofInt x then Int32.ofInt y else Int32.ofInt x) = Int32.ofInt (imin x y) := by
    unfold imin
    by_cases c : y < x
    · rw [if_pos c, if_pos ((lt_of hy hx).mpr c)]
    · rw [if_neg c, if_neg (fun q => c ((lt_of hy hx).mp q))]
  rw [e]
  exact k2
/-- a stretch of an array copied into another's -/
def hcp (h : Hp) (c0 sp c1 dp n : Nat) : Hp := fun c j => if c = c1 ∧ dp ≤ j ∧ j < dp + n then h c0 (sp + (j - dp)) else h c j
theorem hcp_S1 (h : Hp) (c0 sp c1 dp n : Nat) : hcp h c0 sp c1 dp n = hS1 h c1 (fun j => if dp ≤ j ∧ j < dp + n then h c0 (sp + (j - dp)) else h c1 j) := by
  funext c j
  by_cases h1 : c = c1
  · subst h1; simp [hcp, hS1]
  · simp [hcp, hS1, h1]
theorem g_copy {idx c0 c1 n0 n1 : Nat} {sp dp n : Int} (hdg : decode M.2.1 pc = .ok (.invokestatic idx, 3)) (hlk : Cond.methodLink M.1.cls idx arraycopyName ∈ WS) (hw : Cond.native arraycopyName ∈ WS ∧ Cond.static arraycopyName ∈ WS ∧ Cond.initialized "java/lang/System" ∈ WS) (hc0 : L0[c0]? = some (.inr (0, n0))) (hc1 : L0[c1]? = some (.inr (0, n1))) (hb : 0 ≤ sp ∧ 0 ≤ dp ∧ 0 ≤ n ∧ sp + n ≤ n0 ∧ dp + n ≤ n1) (hst : st.length ≤ 8) (hd : 1 ≤ d)
    (kk : Go M d (pc + 3) loc st (hcp h c0 sp.toNat c1 dp.toNat n.toNat) Q) : Go M d pc loc (.inl n :: .inl dp :: .inr (c1 + 1) :: .inl sp :: .inr (c0 + 1) :: st) h Q := by
  intro p l e R s m args below meth cd b D cA k0 z H locs ls Z hcx hR hS hL hs hh hF
  obtain ⟨x1, x2, x3, x4, x5, x6, x7, x8, x9, x10, x11, x12, x13⟩ := id hcx
  have hn : inR n := hs.hd
  have hdp : inR dp := hs.tl.hd
  have hsp : inR sp := hs.tl.tl.tl.hd
  simp only [List.map_cons, cV_s]
  have lt0 : ∀ {q : Int}, inR q → 0 ≤ q → ¬ Int32.ofInt q < 0 := fun hq h0 c => by
    have := (lt_of hq inR_0).mp c
    omega
  have hb8 := room_of (b := b) hst
  have hnw : nativeFrameWords "java/lang/System" "arraycopy" 5 ≤ 30 := by decide
  refine va_copyi (rest := st.map (cV b)) x1 x2 (by rw [x4]; exact hL.1.symm) x5 (x6 _ hlk) (x6 _ hw.1) (x6 _ hw.2.1) (x6 _ hw.2.2) x8 hR wd_D hS c0 c1 0 0 (wd_get hc0) (wd_get hc1) rfl rfl rfl (lt0 hsp hb.1) (lt0 hdp hb.2.1) (lt0 hn hb.2.2.1) (by rw [cl_of hsp, cl_of hn]; omega) (by rw [cl_of hdp, cl_of hn]; omega) (fun _ _ => rfl) (by omega) (by omega) hdg fun H1 locs1 hP1 _ hS1 => ?_
  refine kk p l e R s m args below meth cd b D cA k0 z H1 locs1 ls Z hcx ?_ hS1 hL hs.tl.tl.tl.tl.tl ?_ hF
  · rw [cl_of hsp, cl_of hdp, cl_of hn] at hP1
    rw [hcp_S1]
    rw [wd_set hc1 (f := fun j => if dp.toNat ≤ j ∧ j < dp.toNat + n.toNat then h c0 (sp.toNat + (j - dp.toNat)) else h c1 j) ?_] at hP1
    · exact hP1
    · show Sum.inl _ = Sum.inl _
      congr 4
      funext j
      unfold va_cpy
      by_cases hq : dp.toNat ≤ j ∧ j < dp.toNat + n.toNat
      · simp only [if_pos hq]
      · simp only [if_neg hq]
  · intro c j
    unfold hcp
    split
    · exact hh _ _
    · exact hh _ _
theorem g_tswOut {dflt lo hi x : Int} {offs : Array Int} {len tgt : Nat} (hdg : decode M.2.1 pc = .ok (.tableswitch dflt lo hi offs, len)) (hx : x < lo ∨ hi < x) (ht : (pc : Int) + dflt = (tgt : Int)) (kk : Go M d tgt loc st h Q) : Go M d pc loc (.inl x :: st) h Q := by
  intro p l e R s m args below meth cd b D cA k0 z H locs ls Z hcx hR hS hL hs hh hF
  have ex : (Int32.ofInt x).toInt = x := toR hs.hd
  exact lv_tableOut hcx.1 hcx.2.1 hdg (by rw [ex]; exact hx) ht (kk p l e R s m args below meth cd b D cA k0 z H locs ls Z hcx hR hS hL hs.tl hh hF)
theorem g_tswIn {dflt lo hi x off : Int} {offs : Array Int} {len tgt : Nat} (hdg : decode M.2.1 pc = .ok (.tableswitch dflt lo hi offs, len)) (h1 : ¬ x < lo) (h2 : ¬ hi < x) (ho : offs[(x - lo).toNat]? = some off) (ht : (pc : Int) + off = (tgt : Int)) (kk : Go M d tgt loc st h Q) : Go M d pc loc (.inl x :: st) h Q := by
  intro p l e R s m args below meth cd b D cA k0 z H locs ls Z hcx hR hS hL hs hh hF
  have ex : (Int32.ofInt x).toInt = x := toR hs.hd
  exact lv_tableIn hcx.1 hcx.2.1 hdg (by rw [ex]; exact h1) (by rw [ex]; exact h2) (by rw [ex]; exact ho) ht (kk p l e R s m args below meth cd b D cA k0 z H locs ls Z hcx hR hS hL hs.tl hh hF)
theorem g_lsw {dflt x off : Int} {ps : Array (Int × Int)} {len tgt : Nat} (hdg : decode M.2.1 pc = .ok (.lookupswitch dflt ps, len)) (hp : (ps.toList.zip (ps.toList.drop 1)).all (fun (a, next) => a.1 < next.1) = true) (ho : Op.lookupswitch.offset ps.toList dflt x = off) (ht : (pc : Int) + off = (tgt : Int)) (kk : Go M d tgt loc st h Q) : Go M d pc loc (.inl x :: st) h Q := by
  intro p l e R s m args below meth cd b D cA k0 z H locs ls Z hcx hR hS hL hs hh hF
  have ex : (Int32.ofInt x).toInt = x := toR hs.hd
  exact lv_lookup hcx.1 hcx.2.1 hdg hp (by rw [ex]; exact ho) ht (kk p l e R s m args below meth cd b D cA k0 z H locs ls Z hcx hR hS hL hs.tl hh hF)
end JDK
end
section
theorem inB1 {w : Cond} (i : Nat) (h : tables_1_1[i]? = some w) (hg : goodWord w = true) : w ∈ WS := by
  have hm := List.mem_of_getElem? h
  exact List.mem_filter.mpr ⟨List.mem_append_right _ (List.mem_append_left _ hm), hg⟩
theorem inN1 {w : Cond} (i : Nat) (h : tables_1_1[i]? = some w) (hg : isNest w = true) : w ∈ NW := by
  have hm := List.mem_of_getElem? h
  exact List.mem_filter.mpr ⟨List.mem_append_right _ (List.mem_append_left _ hm), hg⟩
theorem inB2 {w : Cond} (i : Nat) (h : tables_1_2[i]? = some w) (hg : goodWord w = true) : w ∈ WS := by
  have hm := List.mem_of_getElem? h
  exact List.mem_filter.mpr ⟨List.mem_append_right _ (List.mem_append_right _ (List.mem_append_left _ hm)), hg⟩
theorem inN2 {w : Cond} (i : Nat) (h : tables_1_2[i]? = some w) (hg : isNest w = true) : w ∈ NW := by
  have hm := List.mem_of_getElem? h
  exact List.mem_filter.mpr ⟨List.mem_append_right _ (List.mem_append_right _ (List.mem_append_left _ hm)), hg⟩
theorem inB3 {w : Cond} (i : Nat) (h : tables_1_3[i]? = some w) (hg : goodWord w = true) : w ∈ WS := by
  have hm := List.mem_of_getElem? h
  exact List.mem_filter.mpr ⟨List.mem_append_right _ (List.mem_append_right _ (List.mem_append_right _ (List.mem_append_left _ hm))), hg⟩
theorem inN3 {w : Cond} (i : Nat) (h : tables_1_3[i]? = some w) (hg : isNest w = true) : w ∈ NW := by
  have hm := List.mem_of_getElem? h
  exact List.mem_filter.mpr ⟨List.mem_append_right _ (List.mem_append_right _ (List.mem_append_right _ (List.mem_append_left _ hm))), hg⟩
theorem inB4 {w : Cond} (i : Nat) (h : tables_1_4[i]? = some w) (hg : goodWord w = true) : w ∈ WS := by
  have hm := List.mem_of_getElem? h
  exact List.mem_filter.mpr ⟨List.mem_append_right _ (List.mem_append_right _ (List.mem_append_right _ (List.mem_append_right _ (List.mem_append_left _ hm)))), hg⟩
theorem inN4 {w : Cond} (i : Nat) (h : tables_1_4[i]? = some w) (hg : isNest w = true) : w ∈ NW := by
  have hm := List.mem_of_getElem? h
  exact List.mem_filter.mpr ⟨List.mem_append_right _ (List.mem_append_right _ (List.mem_append_right _ (List.mem_append_right _ (List.mem_append_left _ hm)))), hg⟩
theorem inB5 {w : Cond} (i : Nat) (h : tables_1_5[i]? = some w) (hg : goodWord w = true) : w ∈ WS := by
  have hm := List.mem_of_getElem? h
  exact List.mem_filter.mpr ⟨List.mem_append_right _ (List.mem_append_right _ (List.mem_append_right _ (List.mem_append_right _ (List.mem_append_right _ (List.mem_append_left _ hm))))), hg⟩
theorem inN5 {w : Cond} (i : Nat) (h : tables_1_5[i]? = some w) (hg : isNest w = true) : w ∈ NW := by
  have hm := List.mem_of_getElem? h
  exact List.mem_filter.mpr ⟨List.mem_append_right _ (List.mem_append_right _ (List.mem_append_right _ (List.mem_append_right _ (List.mem_append_right _ (List.mem_append_left _ hm))))), hg⟩
theorem inB6 {w : Cond} (i : Nat) (h : tables_1_6[i]? = some w) (hg : goodWord w = true) : w ∈ WS := by
  have hm := List.mem_of_getElem? h
  exact List.mem_filter.mpr ⟨List.mem_append_right _ (List.mem_append_right _ (List.mem_append_right _ (List.mem_append_right _ (List.mem_append_right _ (List.mem_append_right _ (List.mem_append_left _ hm)))))), hg⟩
theorem inN6 {w : Cond} (i : Nat) (h : tables_1_6[i]? = some w) (hg : isNest w = true) : w ∈ NW := by
  have hm := List.mem_of_getElem? h
  exact List.mem_filter.mpr ⟨List.mem_append_right _ (List.mem_append_right _ (List.mem_append_right _ (List.mem_append_right _ (List.mem_append_right _ (List.mem_append_right _ (List.mem_append_left _ hm)))))), hg⟩
theorem inB7 {w : Cond} (i : Nat) (h : tables_1_7[i]? = some w) (hg : goodWord w = true) : w ∈ WS := by
  have hm := List.mem_of_getElem? h
  exact List.mem_filter.mpr ⟨List.mem_append_right _ (List.mem_append_right _ (List.mem_append_right _ (List.mem_append_right _ (List.mem_append_right _ (List.mem_append_right _ (List.mem_append_right _ (List.mem_append_left _ hm))))))), hg⟩
theorem inN7 {w : Cond} (i : Nat) (h : tables_1_7[i]? = some w) (hg : isNest w = true) : w ∈ NW := by
  have hm := List.mem_of_getElem? h
  exact List.mem_filter.mpr ⟨List.mem_append_right _ (List.mem_append_right _ (List.mem_append_right _ (List.mem_append_right _ (List.mem_append_right _ (List.mem_append_right _ (List.mem_append_right _ (List.mem_append_left _ hm))))))), hg⟩
theorem inB8 {w : Cond} (i : Nat) (h : tables_1_8[i]? = some w) (hg : goodWord w = true) : w ∈ WS := by
  have hm := List.mem_of_getElem? h
  exact List.mem_filter.mpr ⟨List.mem_append_right _ (List.mem_append_right _ (List.mem_append_right _ (List.mem_append_right _ (List.mem_append_right _ (List.mem_append_right _ (List.mem_append_right _ (List.mem_append_right _ (hm)))))))), hg⟩
theorem inN8 {w : Cond} (i : Nat) (h : tables_1_8[i]? = some w) (hg : isNest w = true) : w ∈ NW := by
  have hm := List.mem_of_getElem? h
  exact List.mem_filter.mpr ⟨List.mem_append_right _ (List.mem_append_right _ (List.mem_append_right _ (List.mem_append_right _ (List.mem_append_right _ (List.mem_append_right _ (List.mem_append_right _ (List.mem_append_right _ (hm)))))))), hg⟩
theorem inP1 {q : MethodName × Nat} (i : Nat) (h : lw_privs_1[i]? = some q) : Cond.selects q.1.cls q.1 q.1 ∈ WS := by
  have hm := List.mem_of_getElem? h
  exact List.mem_filter.mpr ⟨List.mem_append_left _ (List.mem_map.mpr ⟨q, List.mem_append_left _ hm, rfl⟩), rfl⟩
theorem inP2 {q : MethodName × Nat} (i : Nat) (h : lw_privs_2[i]? = some q) : Cond.selects q.1.cls q.1 q.1 ∈ WS := by
  have hm := List.mem_of_getElem? h
  exact List.mem_filter.mpr ⟨List.mem_append_left _ (List.mem_map.mpr ⟨q, List.mem_append_right _ (List.mem_append_left _ hm), rfl⟩), rfl⟩
theorem inP3 {q : MethodName × Nat} (i : Nat) (h : lw_privs_3[i]? = some q) : Cond.selects q.1.cls q.1 q.1 ∈ WS := by
  have hm := List.mem_of_getElem? h
  exact List.mem_filter.mpr ⟨List.mem_append_left _ (List.mem_map.mpr ⟨q, List.mem_append_right _ (List.mem_append_right _ (List.mem_append_left _ hm)), rfl⟩), rfl⟩
theorem inP4 {q : MethodName × Nat} (i : Nat) (h : lw_privs_4[i]? = some q) : Cond.selects q.1.cls q.1 q.1 ∈ WS := by
  have hm := List.mem_of_getElem? h
  exact List.mem_filter.mpr ⟨List.mem_append_left _ (List.mem_map.mpr ⟨q, List.mem_append_right _ (List.mem_append_right _ (List.mem_append_right _ (List.mem_append_left _ hm))), rfl⟩), rfl⟩
theorem inP5 {q : MethodName × Nat} (i : Nat) (h : lw_privs_5[i]? = some q) : Cond.selects q.1.cls q.1 q.1 ∈ WS := by
  have hm := List.mem_of_getElem? h
  exact List.mem_filter.mpr ⟨List.mem_append_left _ (List.mem_map.mpr ⟨q, List.mem_append_right _ (List.mem_append_right _ (List.mem_append_right _ (List.mem_append_right _ (List.mem_append_left _ hm)))), rfl⟩), rfl⟩
theorem inP6 {q : MethodName × Nat} (i : Nat) (h : lw_privs_6[i]? = some q) : Cond.selects q.1.cls q.1 q.1 ∈ WS := by
  have hm := List.mem_of_getElem? h
  exact List.mem_filter.mpr ⟨List.mem_append_left _ (List.mem_map.mpr ⟨q, List.mem_append_right _ (List.mem_append_right _ (List.mem_append_right _ (List.mem_append_right _ (List.mem_append_right _ (List.mem_append_left _ hm))))), rfl⟩), rfl⟩
theorem inP7 {q : MethodName × Nat} (i : Nat) (h : lw_privs_7[i]? = some q) : Cond.selects q.1.cls q.1 q.1 ∈ WS := by
  have hm := List.mem_of_getElem? h
  exact List.mem_filter.mpr ⟨List.mem_append_left _ (List.mem_map.mpr ⟨q, List.mem_append_right _ (List.mem_append_right _ (List.mem_append_right _ (List.mem_append_right _ (List.mem_append_right _ (List.mem_append_right _ (hm)))))), rfl⟩), rfl⟩
/-! by program: the words that the rows need, by their places -/
abbrev M_X0_init : Mth := (yX0_init, cX0_init, 1, none)
abbrev M_X0_isTold : Mth := (yX0_isTold, cX0_isTold, 1, some .boolean)
abbrev M_X0_room : Mth := (yX0_room, cX0_room, 1, some .int)
abbrev M_X0_tellRoom : Mth := (yX0_tellRoom, cX0_tellRoom, 2, none)
abbrev M_X0_stops : Mth := (yX0_stops, cX0_stops, 1, some .int)
abbrev M_X0_streetOf : Mth := (yX0_streetOf, cX0_streetOf, 2, some .int)
abbrev M_X0_yardsOf : Mth := (yX0_yardsOf, cX0_yardsOf, 2, some .int)
abbrev M_X0_takesOnAt : Mth := (yX0_takesOnAt, cX0_takesOnAt, 2, some .boolean)
abbrev M_X0_readStops : Mth := (yX0_readStops, cX0_readStops, 3, some .int)
abbrev M_X0_readStop : Mth := (yX0_readStop, cX0_readStop, 4, none)
abbrev M_X0_addStop : Mth := (yX0_addStop, cX0_addStop, 4, none)
abbrev M_X0_planOneStop : Mth := (yX0_planOneStop, cX0_planOneStop, 3, none)
abbrev M_X0_takeStopsOf : Mth := (yX0_takeStopsOf, cX0_takeStopsOf, 3, none)
abbrev M_X1_init : Mth := (yX1_init, cX1_init, 1, none)
abbrev M_X1_isTold : Mth := (yX1_isTold, cX1_isTold, 2, some .boolean)
abbrev M_X1_areTold : Mth := (yX1_areTold, cX1_areTold, 3, some .boolean)
abbrev M_X1_toldStreets : Mth := (yX1_toldStreets, cX1_toldStreets, 1, some .int)
abbrev M_X1_tell : Mth := (yX1_tell, cX1_tell, 5, none)
abbrev M_X1_housesOf : Mth := (yX1_housesOf, cX1_housesOf, 2, some .int)
abbrev M_X1_lampsOf : Mth := (yX1_lampsOf, cX1_lampsOf, 2, some .int)
abbrev M_X1_starsOf : Mth := (yX1_starsOf, cX1_starsOf, 2, some .int)
abbrev M_X1_depthOf : Mth := (yX1_depthOf, cX1_depthOf, 2, some .int)
abbrev M_X1_deepen : Mth := (yX1_deepen, cX1_deepen, 3, some .int)
abbrev M_X1_copyDepths : Mth := (yX1_copyDepths, cX1_copyDepths, 2, none)
abbrev M_X1_night : Mth := (yX1_night, cX1_night, 1, some .int)
abbrev M_X1_slept : Mth := (yX1_slept, cX1_slept, 1, some .int)
abbrev M_X1_swept : Mth := (yX1_swept, cX1_swept, 1, some .int)
abbrev M_X1_endNight : Mth := (yX1_endNight, cX1_endNight, 4, none)
abbrev M_X1_store : Mth := (yX1_store, cX1_store, 3, some .int)
abbrev M_X1_restore : Mth := (yX1_restore, cX1_restore, 1, some .boolean)
abbrev M_X2_init : Mth := (yX2_init, cX2_init, 1, none)
abbrev M_X2_clauses : Mth := (yX2_clauses, cX2_clauses, 1, some .int)
abbrev M_X2_length : Mth := (yX2_length, cX2_length, 1, some .int)
abbrev M_X2_clear : Mth := (yX2_clear, cX2_clear, 1, none)
abbrev M_X2_addClause : Mth := (yX2_addClause, cX2_addClause, 4, none)
abbrev M_X2_addSign : Mth := (yX2_addSign, cX2_addSign, 3, none)
abbrev M_X2_leadToEnd : Mth := (yX2_leadToEnd, cX2_leadToEnd, 2, none)
abbrev M_X2_takeOver : Mth := (yX2_takeOver, cX2_takeOver, 2, none)
abbrev M_X2_regardStreet : Mth := (yX2_regardStreet, cX2_regardStreet, 5, none)
abbrev M_X2_regardTime : Mth := (yX2_regardTime, cX2_regardTime, 4, none)
abbrev M_X2_ask : Mth := (yX2_ask, cX2_ask, 4, some .int)
abbrev M_X2_reckon : Mth := (yX2_reckon, cX2_reckon, 6, some .int)
abbrev M_X2_join : Mth := (yX2_join, cX2_join, 4, some .int)
abbrev M_X2_factAt : Mth := (yX2_factAt, cX2_factAt, 2, some .int)
abbrev M_X2_push : Mth := (yX2_push, cX2_push, 2, none)
abbrev M_X2_pop : Mth := (yX2_pop, cX2_pop, 1, some .int)
abbrev M_X3_init : Mth := (yX3_init, cX3_init, 1, none)
abbrev M_X3_fresh : Mth := (yX3_fresh, cX3_fresh, 1, some (.object "NightCarts$Law"))
abbrev M_X3_read : Mth := (yX3_read, cX3_read, 3, some .int)
abbrev M_X3_readClause : Mth := (yX3_readClause, cX3_readClause, 5, none)
abbrev M_X3_readSum : Mth := (yX3_readSum, cX3_readSum, 5, none)
abbrev M_X3_readProduct : Mth := (yX3_readProduct, cX3_readProduct, 5, none)
abbrev M_X3_seesProductSign : Mth := (yX3_seesProductSign, cX3_seesProductSign, 1, some .boolean)
abbrev M_X3_readFactor : Mth := (yX3_readFactor, cX3_readFactor, 3, none)
abbrev M_X3_readFact : Mth := (yX3_readFact, cX3_readFact, 3, none)
abbrev M_X3_opens : Mth := (yX3_opens, cX3_opens, 3, some .boolean)
abbrev M_X3_readChoice : Mth := (yX3_readChoice, cX3_readChoice, 5, none)
abbrev M_X3_readPart : Mth := (yX3_readPart, cX3_readPart, 5, none)
abbrev M_X3_readTest : Mth := (yX3_readTest, cX3_readTest, 3, none)
abbrev M_X3_readNegation : Mth := (yX3_readNegation, cX3_readNegation, 3, none)
abbrev M_X3_readComparison : Mth := (yX3_readComparison, cX3_readComparison, 4, none)
abbrev M_X4_init : Mth := (yX4_init, cX4_init, 1, none)
abbrev M_X4_missing : Mth := (yX4_missing, cX4_missing, 1, some .int)
abbrev M_X4_placeFor : Mth := (yX4_placeFor, cX4_placeFor, 2, some .int)
abbrev M_X4_find : Mth := (yX4_find, cX4_find, 5, none)
abbrev M_X4_match : Mth := (yX4_match, cX4_match, 5, none)
abbrev M_X4_matchWith : Mth := (yX4_matchWith, cX4_matchWith, 5, none)
abbrev M_X5_init : Mth := (yX5_init, cX5_init, 4, none)
abbrev M_X5_slept : Mth := (yX5_slept, cX5_slept, 1, some .int)
abbrev M_X5_swept : Mth := (yX5_swept, cX5_swept, 1, some .int)
abbrev M_X5_total : Mth := (yX5_total, cX5_total, 2, some .int)
abbrev M_X5_depthOf : Mth := (yX5_depthOf, cX5_depthOf, 2, some .int)
abbrev M_X5_loadOf : Mth := (yX5_loadOf, cX5_loadOf, 2, some .int)
abbrev M_X5_lastMinuteOf : Mth := (yX5_lastMinuteOf, cX5_lastMinuteOf, 2, some .int)
abbrev M_X5_prepare : Mth := (yX5_prepare, cX5_prepare, 2, none)
abbrev M_X5_send : Mth := (yX5_send, cX5_send, 4, none)
abbrev M_X5_goThrough : Mth := (yX5_goThrough, cX5_goThrough, 3, none)
abbrev M_X5_isIdle : Mth := (yX5_isIdle, cX5_isIdle, 2, some .boolean)
abbrev M_X5_sleepsThrough : Mth := (yX5_sleepsThrough, cX5_sleepsThrough, 5, some .boolean)
abbrev M_X5_sleepsAfter : Mth := (yX5_sleepsAfter, cX5_sleepsAfter, 3, some .boolean)
abbrev M_X5_lose : Mth := (yX5_lose, cX5_lose, 4, some .int)
abbrev M_X5_askOf : Mth := (yX5_askOf, cX5_askOf, 3, some .int)
abbrev M_X5_serveBefore : Mth := (yX5_serveBefore, cX5_serveBefore, 4, none)
abbrev M_X5_earliestCart : Mth := (yX5_earliestCart, cX5_earliestCart, 3, some .int)
abbrev M_X5_serve : Mth := (yX5_serve, cX5_serve, 8, none)
abbrev M_X5_takeOn : Mth := (yX5_takeOn, cX5_takeOn, 3, some .int)
abbrev M_X5_leave : Mth := (yX5_leave, cX5_leave, 4, some .int)
abbrev M_X5_goOn : Mth := (yX5_goOn, cX5_goOn, 7, none)
abbrev M_X6_init : Mth := (yX6_init, cX6_init, 1, none)
abbrev M_X6_longest : Mth := (yX6_longest, cX6_longest, 1, some .int)
abbrev M_X6_cartOf : Mth := (yX6_cartOf, cX6_cartOf, 2, some .int)
abbrev M_X6_find : Mth := (yX6_find, cX6_find, 5, none)
abbrev M_X6_give : Mth := (yX6_give, cX6_give, 3, none)
abbrev M_X6_giveTo : Mth := (yX6_giveTo, cX6_giveTo, 3, none)
abbrev M_X6_keepRow : Mth := (yX6_keepRow, cX6_keepRow, 3, none)
abbrev M_X7_init : Mth := (yX7_init, cX7_init, 2, none)
abbrev M_X7_howMany : Mth := (yX7_howMany, cX7_howMany, 1, some .int)
abbrev M_X7_read : Mth := (yX7_read, cX7_read, 5, some .int)
abbrev M_X7_readLine : Mth := (yX7_readLine, cX7_readLine, 8, none)
abbrev M_X7_readStreet : Mth := (yX7_readStreet, cX7_readStreet, 3, none)
abbrev M_X7_findWays : Mth := (yX7_findWays, cX7_findWays, 3, none)
abbrev M_X7_shortenFrom : Mth := (yX7_shortenFrom, cX7_shortenFrom, 7, none)
abbrev M_X7_between : Mth := (yX7_between, cX7_between, 4, some .int)
abbrev M_X7_reachedFrom : Mth := (yX7_reachedFrom, cX7_reachedFrom, 4, some .int)
abbrev M_X7_farthestFrom : Mth := (yX7_farthestFrom, cX7_farthestFrom, 4, some .int)
abbrev M_X7_sumFrom : Mth := (yX7_sumFrom, cX7_sumFrom, 4, some .int)
abbrev M_X7_bestPit : Mth := (yX7_bestPit, cX7_bestPit, 9, some .int)
abbrev M_X7_countCuts : Mth := (yX7_countCuts, cX7_countCuts, 3, some .int)
abbrev M_X7_firstCut : Mth := (yX7_firstCut, cX7_firstCut, 2, some .int)
abbrev M_X7_isCut : Mth := (yX7_isCut, cX7_isCut, 7, some .boolean)
abbrev M_X7_neighboursOf : Mth := (yX7_neighboursOf, cX7_neighboursOf, 7, some .int)
abbrev M_X8_init : Mth := (yX8_init, cX8_init, 2, none)
abbrev M_X8_find : Mth := (yX8_find, cX8_find, 5, some .boolean)
abbrev M_X8_minutes : Mth := (yX8_minutes, cX8_minutes, 1, some .int)
abbrev M_X8_streetAt : Mth := (yX8_streetAt, cX8_streetAt, 2, some .int)
abbrev M_X8_leastFrom : Mth := (yX8_leastFrom, cX8_leastFrom, 5, some .int)
abbrev M_X8_minutesOver : Mth := (yX8_minutesOver, cX8_minutesOver, 4, some .int)
abbrev M_X8_minutesBetween : Mth := (yX8_minutesBetween, cX8_minutesBetween, 3, some .int)
abbrev M_X8_writeRow : Mth := (yX8_writeRow, cX8_writeRow, 6, none)
abbrev M_X8_firstThatMeets : Mth := (yX8_firstThatMeets, cX8_firstThatMeets, 5, some .int)
abbrev M_X9_init : Mth := (yX9_init, cX9_init, 2, none)
abbrev M_X9_choose : Mth := (yX9_choose, cX9_choose, 3, none)
abbrev M_X9_least : Mth := (yX9_least, cX9_least, 1, some .int)
abbrev M_X9_yardsFor : Mth := (yX9_yardsFor, cX9_yardsFor, 3, some .int)
abbrev M_X9_spread : Mth := (yX9_spread, cX9_spread, 7, some .boolean)
abbrev M_X9_neededFor : Mth := (yX9_neededFor, cX9_neededFor, 4, some .int)
abbrev M_X9_greatestLevel : Mth := (yX9_greatestLevel, cX9_greatestLevel, 6, some .int)
abbrev M_X9_houses : Mth := (yX9_houses, cX9_houses, 1, some .int)
abbrev M_X9_spent : Mth := (yX9_spent, cX9_spent, 1, some .int)
abbrev M_X9_sleepingStreets : Mth := (yX9_sleepingStreets, cX9_sleepingStreets, 3, some .int)
abbrev M_X9_findSleepful : Mth := (yX9_findSleepful, cX9_findSleepful, 5, none)
abbrev M_X9_missingToSleep : Mth := (yX9_missingToSleep, cX9_missingToSleep, 4, some .int)
abbrev M_X9_weigh : Mth := (yX9_weigh, cX9_weigh, 6, none)
abbrev M_X9_reckonGains : Mth := (yX9_reckonGains, cX9_reckonGains, 3, none)
abbrev M_X9_wastedBy : Mth := (yX9_wastedBy, cX9_wastedBy, 6, some .int)
abbrev M_X9_gainOf : Mth := (yX9_gainOf, cX9_gainOf, 2, some .int)
abbrev M_X9_bestGainBeside : Mth := (yX9_bestGainBeside, cX9_bestGainBeside, 4, some .int)
abbrev M_X10_init : Mth := (yX10_init, cX10_init, 1, none)
abbrev M_X10_hasRoomFor : Mth := (yX10_hasRoomFor, cX10_hasRoomFor, 2, some .boolean)
abbrev M_X10_holds : Mth := (yX10_holds, cX10_holds, 2, some .boolean)
abbrev M_X10_length : Mth := (yX10_length, cX10_length, 1, some .int)
abbrev M_X10_clear : Mth := (yX10_clear, cX10_clear, 1, none)
abbrev M_X10_addWord : Mth := (yX10_addWord, cX10_addWord, 3, none)
abbrev M_X10_at : Mth := (yX10_at, cX10_at, 2, some .int)
abbrev M_X10_pairAt : Mth := (yX10_pairAt, cX10_pairAt, 2, some .int)
abbrev M_X10_sumOf : Mth := (yX10_sumOf, cX10_sumOf, 7, some .int)
abbrev M_X10_open : Mth := (yX10_open, cX10_open, 2, none)
abbrev M_X10_place : Mth := (yX10_place, cX10_place, 1, some .int)
abbrev M_X10_sign : Mth := (yX10_sign, cX10_sign, 1, some .int)
abbrev M_X10_isAtEnd : Mth := (yX10_isAtEnd, cX10_isAtEnd, 1, some .boolean)
abbrev M_X10_isSound : Mth := (yX10_isSound, cX10_isSound, 1, some .boolean)
abbrev M_X10_fault : Mth := (yX10_fault, cX10_fault, 1, some .int)
abbrev M_X10_step : Mth := (yX10_step, cX10_step, 1, none)
abbrev M_X10_failAt : Mth := (yX10_failAt, cX10_failAt, 3, none)
abbrev M_X10_fail : Mth := (yX10_fail, cX10_fail, 2, none)
abbrev M_X10_sees : Mth := (yX10_sees, cX10_sees, 2, some .boolean)
abbrev M_X10_seesDigit : Mth := (yX10_seesDigit, cX10_seesDigit, 1, some .boolean)
abbrev M_X10_seesStreet : Mth := (yX10_seesStreet, cX10_seesStreet, 1, some .boolean)
abbrev M_X10_need : Mth := (yX10_need, cX10_need, 2, none)
abbrev M_X10_readNumber : Mth := (yX10_readNumber, cX10_readNumber, 4, some .int)
abbrev M_X11_init : Mth := (yX11_init, cX11_init, 6, none)
abbrev M_X11_street : Mth := (yX11_street, cX11_street, 5, some .boolean)
abbrev M_X11_cart : Mth := (yX11_cart, cX11_cart, 4, some .boolean)
abbrev M_X11_pour : Mth := (yX11_pour, cX11_pour, 3, some .int)
abbrev M_X11_feed : Mth := (yX11_feed, cX11_feed, 6, some .int)
abbrev M_X11_law : Mth := (yX11_law, cX11_law, 3, some .int)
abbrev M_X11_roads : Mth := (yX11_roads, cX11_roads, 3, some .int)
abbrev M_X11_plan : Mth := (yX11_plan, cX11_plan, 5, some .int)
abbrev M_X11_nights : Mth := (yX11_nights, cX11_nights, 4, some .int)
abbrev M_X11_tried : Mth := (yX11_tried, cX11_tried, 2, some .int)
abbrev M_X11_way : Mth := (yX11_way, cX11_way, 3, some .int)
abbrev M_X11_round : Mth := (yX11_round, cX11_round, 4, some .int)
abbrev M_X11_share : Mth := (yX11_share, cX11_share, 4, some .int)
abbrev M_X11_sleepful : Mth := (yX11_sleepful, cX11_sleepful, 4, some .int)
abbrev M_X11_pitAt : Mth := (yX11_pitAt, cX11_pitAt, 3, some .int)
abbrev M_X11_cut : Mth := (yX11_cut, cX11_cut, 3, some .int)
abbrev M_X11_strike : Mth := (yX11_strike, cX11_strike, 2, some .int)
abbrev M_X11_enough : Mth := (yX11_enough, cX11_enough, 4, some .int)
abbrev M_X11_oneStop : Mth := (yX11_oneStop, cX11_oneStop, 7, some .int)
abbrev M_X11_out : Mth := (yX11_out, cX11_out, 7, some .int)
abbrev M_X11_jobs : Mth := (yX11_jobs, cX11_jobs, 5, some .int)
abbrev M_X11_load : Mth := (yX11_load, cX11_load, 8, some .int)
abbrev M_X11_brides : Mth := (yX11_brides, cX11_brides, 4, some .int)
abbrev M_X11_thieves : Mth := (yX11_thieves, cX11_thieves, 8, some .int)
abbrev M_X11_latest : Mth := (yX11_latest, cX11_latest, 3, some .int)
abbrev M_X11_keep : Mth := (yX11_keep, cX11_keep, 1, some .int)
abbrev M_X11_undo : Mth := (yX11_undo, cX11_undo, 1, some .boolean)
abbrev M_X11_check : Mth := (yX11_check, cX11_check, 4, some .int)
abbrev M_X11_count : Mth := (yX11_count, cX11_count, 3, some .int)
abbrev M_X11_isWithin : Mth := (yX11_isWithin, cX11_isWithin, 3, some .boolean)
abbrev M_X11_hasBit : Mth := (yX11_hasBit, cX11_hasBit, 2, some .boolean)
abbrev M_X11_cartAt : Mth := (yX11_cartAt, cX11_cartAt, 2, some (.object "NightCarts$Cart"))
abbrev M_X11_isToldCart : Mth := (yX11_isToldCart, cX11_isToldCart, 3, some .boolean)
abbrev M_X11_toldCarts : Mth := (yX11_toldCarts, cX11_toldCarts, 3, some .int)
abbrev M_X11_countOfStreet : Mth := (yX11_countOfStreet, cX11_countOfStreet, 2, some .int)
abbrev M_X11_canBeTried : Mth := (yX11_canBeTried, cX11_canBeTried, 2, some .boolean)
abbrev M_X11_sendCarts : Mth := (yX11_sendCarts, cX11_sendCarts, 3, none)
abbrev M_X11_sendOneCart : Mth := (yX11_sendOneCart, cX11_sendOneCart, 5, none)
abbrev M_X11_partJobs : Mth := (yX11_partJobs, cX11_partJobs, 4, some .int)
abbrev M_X11_matchBrides : Mth := (yX11_matchBrides, cX11_matchBrides, 6, some .int)
abbrev M_X11_latestStart : Mth := (yX11_latestStart, cX11_latestStart, 8, some .int)
abbrev M_X12_init : Mth := (yX12_init, cX12_init, 1, none)
abbrev M_X12_in : Mth := (yX12_in, cX12_in, 3, some .boolean)
abbrev M_X12_min : Mth := (yX12_min, cX12_min, 2, some .int)
abbrev M_X12_max : Mth := (yX12_max, cX12_max, 2, some .int)
abbrev M_X12_has : Mth := (yX12_has, cX12_has, 2, some .boolean)
abbrev M_X12_bits : Mth := (yX12_bits, cX12_bits, 3, some .int)
abbrev M_X12_copies : Mth := (yX12_copies, cX12_copies, 3, none)
abbrev M_X12_isStreet : Mth := (yX12_isStreet, cX12_isStreet, 2, some .boolean)
abbrev M_X12_isCart : Mth := (yX12_isCart, cX12_isCart, 2, some .boolean)
abbrev M_X12_laysWays : Mth := (yX12_laysWays, cX12_laysWays, 7, none)
abbrev M_X12_farOf : Mth := (yX12_farOf, cX12_farOf, 3, some .int)
abbrev M_X12_street : Mth := (yX12_street, cX12_street, 5, some .boolean)
abbrev M_X12_cart : Mth := (yX12_cart, cX12_cart, 3, some .boolean)
abbrev M_X12_pour : Mth := (yX12_pour, cX12_pour, 3, some .int)
abbrev M_X12_types : Mth := (yX12_types, cX12_types, 3, none)
abbrev M_X12_feed : Mth := (yX12_feed, cX12_feed, 6, some .int)
abbrev M_X12_here : Mth := (yX12_here, cX12_here, 1, some .int)
abbrev M_X12_isDigit : Mth := (yX12_isDigit, cX12_isDigit, 1, some .boolean)
abbrev M_X12_wrongAt : Mth := (yX12_wrongAt, cX12_wrongAt, 3, some .boolean)
abbrev M_X12_takes : Mth := (yX12_takes, cX12_takes, 2, some .boolean)
abbrev M_X12_readsNumber : Mth := (yX12_readsNumber, cX12_readsNumber, 2, some .boolean)
abbrev M_X12_notes : Mth := (yX12_notes, cX12_notes, 3, none)
abbrev M_X12_opens : Mth := (yX12_opens, cX12_opens, 2, some .boolean)
abbrev M_X12_waitTop : Mth := (yX12_waitTop, cX12_waitTop, 1, some .int)
abbrev M_X12_factOf : Mth := (yX12_factOf, cX12_factOf, 1, some .int)
abbrev M_X12_sumSign : Mth := (yX12_sumSign, cX12_sumSign, 1, some .int)
abbrev M_X12_closesSums : Mth := (yX12_closesSums, cX12_closesSums, 2, none)
abbrev M_X12_readsFactor : Mth := (yX12_readsFactor, cX12_readsFactor, 2, some .boolean)
abbrev M_X12_hasOpenSum : Mth := (yX12_hasOpenSum, cX12_hasOpenSum, 3, some .boolean)
abbrev M_X12_readsSum : Mth := (yX12_readsSum, cX12_readsSum, 3, some .boolean)
abbrev M_X12_endsPiece : Mth := (yX12_endsPiece, cX12_endsPiece, 1, none)
abbrev M_X12_lands : Mth := (yX12_lands, cX12_lands, 3, none)
abbrev M_X12_jumps : Mth := (yX12_jumps, cX12_jumps, 2, none)
abbrev M_X12_readsCompared : Mth := (yX12_readsCompared, cX12_readsCompared, 2, some .boolean)
abbrev M_X12_readsCondition : Mth := (yX12_readsCondition, cX12_readsCondition, 1, some .boolean)
abbrev M_X12_isClause : Mth := (yX12_isClause, cX12_isClause, 1, some .boolean)
abbrev M_X12_readsClause : Mth := (yX12_readsClause, cX12_readsClause, 2, some .boolean)
abbrev M_X12_law : Mth := (yX12_law, cX12_law, 4, some .int)
abbrev M_X12_reckon : Mth := (yX12_reckon, cX12_reckon, 3, some .int)
abbrev M_X12_comesTo : Mth := (yX12_comesTo, cX12_comesTo, 8, some .int)
abbrev M_X12_byLaw : Mth := (yX12_byLaw, cX12_byLaw, 5, some .int)
abbrev M_X12_feels : Mth := (yX12_feels, cX12_feels, 4, none)
abbrev M_X12_byStreet : Mth := (yX12_byStreet, cX12_byStreet, 4, some .int)
abbrev M_X12_readsTwo : Mth := (yX12_readsTwo, cX12_readsTwo, 2, some .boolean)
abbrev M_X12_isLetterHere : Mth := (yX12_isLetterHere, cX12_isLetterHere, 1, some .boolean)
abbrev M_X12_readsLine : Mth := (yX12_readsLine, cX12_readsLine, 4, some .boolean)
abbrev M_X12_roads : Mth := (yX12_roads, cX12_roads, 4, some .int)
abbrev M_X12_readsStop : Mth := (yX12_readsStop, cX12_readsStop, 1, some .boolean)
abbrev M_X12_plan : Mth := (yX12_plan, cX12_plan, 5, some .int)
abbrev M_X12_placeOf : Mth := (yX12_placeOf, cX12_placeOf, 1, some .int)
abbrev M_X12_canCome : Mth := (yX12_canCome, cX12_canCome, 3, some .boolean)
abbrev M_X12_goesOn : Mth := (yX12_goesOn, cX12_goesOn, 4, none)
abbrev M_X12_arrives : Mth := (yX12_arrives, cX12_arrives, 7, none)
abbrev M_X12_hourEnds : Mth := (yX12_hourEnds, cX12_hourEnds, 4, none)
abbrev M_X12_goesNight : Mth := (yX12_goesNight, cX12_goesNight, 3, none)
abbrev M_X12_yardsAll : Mth := (yX12_yardsAll, cX12_yardsAll, 3, some .int)
abbrev M_X12_nights : Mth := (yX12_nights, cX12_nights, 5, some .int)
abbrev M_X12_tried : Mth := (yX12_tried, cX12_tried, 4, some .int)
abbrev M_X12_lastOf : Mth := (yX12_lastOf, cX12_lastOf, 2, some .int)
abbrev M_X12_sleptBy : Mth := (yX12_sleptBy, cX12_sleptBy, 2, some .int)
abbrev M_X12_strike : Mth := (yX12_strike, cX12_strike, 3, some .int)
abbrev M_X12_sleepsAll : Mth := (yX12_sleepsAll, cX12_sleepsAll, 3, some .boolean)
abbrev M_X12_enough : Mth := (yX12_enough, cX12_enough, 5, some .int)
abbrev M_X12_oneStop : Mth := (yX12_oneStop, cX12_oneStop, 16, some .int)
abbrev M_X12_way : Mth := (yX12_way, cX12_way, 3, some .int)
abbrev M_X12_laysWho : Mth := (yX12_laysWho, cX12_laysWho, 4, some .int)
abbrev M_X12_readsRow : Mth := (yX12_readsRow, cX12_readsRow, 6, some .boolean)
abbrev M_X12_codesFor : Mth := (yX12_codesFor, cX12_codesFor, 4, some .int)
abbrev M_X12_roundBy : Mth := (yX12_roundBy, cX12_roundBy, 6, some .int)
abbrev M_X12_round : Mth := (yX12_round, cX12_round, 8, some .int)
abbrev M_X12_needFor : Mth := (yX12_needFor, cX12_needFor, 5, some .int)
abbrev M_X12_share : Mth := (yX12_share, cX12_share, 10, some .int)
abbrev M_X12_sleepful : Mth := (yX12_sleepful, cX12_sleepful, 13, some .int)
abbrev M_X12_laysReach : Mth := (yX12_laysReach, cX12_laysReach, 3, none)
abbrev M_X12_bestBy : Mth := (yX12_bestBy, cX12_bestBy, 4, some .int)
abbrev M_X12_pitAt : Mth := (yX12_pitAt, cX12_pitAt, 4, some .int)
abbrev M_X12_cut : Mth := (yX12_cut, cX12_cut, 6, some .int)
abbrev M_X12_spared : Mth := (yX12_spared, cX12_spared, 4, some .int)
abbrev M_X12_out : Mth := (yX12_out, cX12_out, 8, some .int)
abbrev M_X12_longestBy : Mth := (yX12_longestBy, cX12_longestBy, 7, some .int)
abbrev M_X12_jobs : Mth := (yX12_jobs, cX12_jobs, 8, some .int)
abbrev M_X12_load : Mth := (yX12_load, cX12_load, 10, some .int)
abbrev M_X12_missingBy : Mth := (yX12_missingBy, cX12_missingBy, 4, some .int)
abbrev M_X12_brides : Mth := (yX12_brides, cX12_brides, 7, some .int)
abbrev M_X12_thieves : Mth := (yX12_thieves, cX12_thieves, 10, some .int)
abbrev M_X12_latest : Mth := (yX12_latest, cX12_latest, 7, some .int)
abbrev M_X12_keep : Mth := (yX12_keep, cX12_keep, 1, some .int)
abbrev M_X12_undo : Mth := (yX12_undo, cX12_undo, 1, some .boolean)
abbrev M_X12_check : Mth := (yX12_check, cX12_check, 3, some .int)
abbrev M_X12_roadMany : Mth := (yX12_roadMany, cX12_roadMany, 4, some .int)
abbrev M_X12_streetIs : Mth := (yX12_streetIs, cX12_streetIs, 3, some .int)
abbrev M_X12_count : Mth := (yX12_count, cX12_count, 2, some .int)
abbrev M_J6_bitCount_0f7a4 : Mth := (yJ6_bitCount_0f7a4, cJ6_bitCount_0f7a4, 1, some .int)
abbrev M_L_law : Mth := (yL_law, cL_law, 4, some .boolean)
theorem wj0 : ∀ k, k < 5 → u_lay RX0 TX0 k ∈ WS
  | 0, _ => (inB1 151 rfl rfl)
  | 1, _ => (inB1 153 rfl rfl)
  | 2, _ => (inB1 155 rfl rfl)
  | 3, _ => (inB1 157 rfl rfl)
  | 4, _ => (inB1 159 rfl rfl)
  | k + 5, h => absurd h (by omega)
theorem wi0 : ∀ w ∈ u_ws RX0 TX0 5, w ∈ WS := fun w hw => by
  obtain ⟨k, hk, rfl⟩ := List.mem_map.mp hw
  exact wj0 k (List.mem_range.mp hk)
theorem cl0 : Cls 0 RX0 TX0 5 := ⟨rfl, wi0, tyX0_ok, nmX0, rfl⟩
theorem in_X0 : Cond.initialized RX0 ∈ WS := (inB1 5 rfl rfl)
theorem nh_X0 : RX0 ≠ "java/lang/invoke/MethodHandle" ∧ RX0 ≠ "java/lang/invoke/VarHandle" := by decide +kernel
theorem wj1 : ∀ k, k < 13 → u_lay RX1 TX1 k ∈ WS
  | 0, _ => (inB1 49 rfl rfl)
  | 1, _ => (inB1 51 rfl rfl)
  | 2, _ => (inB1 53 rfl rfl)
  | 3, _ => (inB1 55 rfl rfl)
  | 4, _ => (inB1 57 rfl rfl)
  | 5, _ => (inB1 59 rfl rfl)
  | 6, _ => (inB1 61 rfl rfl)
  | 7, _ => (inB1 63 rfl rfl)
  | 8, _ => (inB1 65 rfl rfl)
  | 9, _ => (inB1 67 rfl rfl)
  | 10, _ => (inB1 69 rfl rfl)
  | 11, _ => (inB1 71 rfl rfl)
  | 12, _ => (inB1 73 rfl rfl)
  | k + 13, h => absurd h (by omega)
theorem wi1 : ∀ w ∈ u_ws RX1 TX1 13, w ∈ WS := fun w hw => by
  obtain ⟨k, hk, rfl⟩ := List.mem_map.mp hw
  exact wj1 k (List.mem_range.mp hk)
theorem cl1 : Cls 1 RX1 TX1 13 := ⟨rfl, wi1, tyX1_ok, nmX1, rfl⟩
theorem in_X1 : Cond.initialized RX1 ∈ WS := (inB1 2 rfl rfl)
theorem nh_X1 : RX1 ≠ "java/lang/invoke/MethodHandle" ∧ RX1 ≠ "java/lang/invoke/VarHandle" := by decide +kernel
theorem wj2 : ∀ k, k < 12 → u_lay RX2 TX2 k ∈ WS
  | 0, _ => (inB1 114 rfl rfl)
  | 1, _ => (inB1 116 rfl rfl)
  | 2, _ => (inB1 118 rfl rfl)
  | 3, _ => (inB1 120 rfl rfl)
  | 4, _ => (inB1 122 rfl rfl)
  | 5, _ => (inB1 124 rfl rfl)
  | 6, _ => (inB1 126 rfl rfl)
  | 7, _ => (inB1 128 rfl rfl)
  | 8, _ => (inB1 130 rfl rfl)
  | 9, _ => (inB1 132 rfl rfl)
  | 10, _ => (inB1 134 rfl rfl)
  | 11, _ => (inB1 136 rfl rfl)
  | k + 12, h => absurd h (by omega)
theorem wi2 : ∀ w ∈ u_ws RX2 TX2 12, w ∈ WS := fun w hw => by
  obtain ⟨k, hk, rfl⟩ := List.mem_map.mp hw
  exact wj2 k (List.mem_range.mp hk)
theorem cl2 : Cls 2 RX2 TX2 12 := ⟨rfl, wi2, tyX2_ok, nmX2, rfl⟩
theorem in_X2 : Cond.initialized RX2 ∈ WS := (inB1 4 rfl rfl)
theorem nh_X2 : RX2 ≠ "java/lang/invoke/MethodHandle" ∧ RX2 ≠ "java/lang/invoke/VarHandle" := by decide +kernel
theorem wj3 : ∀ k, k < 1 → u_lay RX3 TX3 k ∈ WS
  | 0, _ => (inB1 197 rfl rfl)
  | k + 1, h => absurd h (by omega)
theorem wi3 : ∀ w ∈ u_ws RX3 TX3 1, w ∈ WS := fun w hw => by
  obtain ⟨k, hk, rfl⟩ := List.mem_map.mp hw
  exact wj3 k (List.mem_range.mp hk)
theorem cl3 : Cls 3 RX3 TX3 1 := ⟨rfl, wi3, tyX3_ok, nmX3, rfl⟩
theorem in_X3 : Cond.initialized RX3 ∈ WS := (inB1 7 rfl rfl)
theorem nh_X3 : RX3 ≠ "java/lang/invoke/MethodHandle" ∧ RX3 ≠ "java/lang/invoke/VarHandle" := by decide +kernel
theorem wj4 : ∀ k, k < 6 → u_lay RX4 TX4 k ∈ WS
  | 0, _ => (inB2 112 rfl rfl)
  | 1, _ => (inB2 114 rfl rfl)
  | 2, _ => (inB2 116 rfl rfl)
  | 3, _ => (inB2 118 rfl rfl)
  | 4, _ => (inB2 120 rfl rfl)
  | 5, _ => (inB2 122 rfl rfl)
  | k + 6, h => absurd h (by omega)
theorem wi4 : ∀ w ∈ u_ws RX4 TX4 6, w ∈ WS := fun w hw => by
  obtain ⟨k, hk, rfl⟩ := List.mem_map.mp hw
  exact wj4 k (List.mem_range.mp hk)
theorem cl4 : Cls 4 RX4 TX4 6 := ⟨rfl, wi4, tyX4_ok, nmX4, rfl⟩
theorem in_X4 : Cond.initialized RX4 ∈ WS := (inB1 12 rfl rfl)
theorem nh_X4 : RX4 ≠ "java/lang/invoke/MethodHandle" ∧ RX4 ≠ "java/lang/invoke/VarHandle" := by decide +kernel
theorem wj5 : ∀ k, k < 16 → u_lay RX5 TX5 k ∈ WS
  | 0, _ => (inB1 223 rfl rfl)
  | 1, _ => (inB1 225 rfl rfl)
  | 2, _ => (inB1 227 rfl rfl)
  | 3, _ => (inB1 229 rfl rfl)
  | 4, _ => (inB1 231 rfl rfl)
  | 5, _ => (inB1 233 rfl rfl)
  | 6, _ => (inB1 235 rfl rfl)
  | 7, _ => (inB1 237 rfl rfl)
  | 8, _ => (inB1 239 rfl rfl)
  | 9, _ => (inB2 1 rfl rfl)
  | 10, _ => (inB2 3 rfl rfl)
  | 11, _ => (inB2 5 rfl rfl)
  | 12, _ => (inB2 7 rfl rfl)
  | 13, _ => (inB2 9 rfl rfl)
  | 14, _ => (inB2 11 rfl rfl)
  | 15, _ => (inB2 13 rfl rfl)
  | k + 16, h => absurd h (by omega)
theorem wi5 : ∀ w ∈ u_ws RX5 TX5 16, w ∈ WS := fun w hw => by
  obtain ⟨k, hk, rfl⟩ := List.mem_map.mp hw
  exact wj5 k (List.mem_range.mp hk)
theorem cl5 : Cls 5 RX5 TX5 16 := ⟨rfl, wi5, tyX5_ok, nmX5, rfl⟩
theorem in_X5 : Cond.initialized RX5 ∈ WS := (inB1 8 rfl rfl)
theorem nh_X5 : RX5 ≠ "java/lang/invoke/MethodHandle" ∧ RX5 ≠ "java/lang/invoke/VarHandle" := by decide +kernel
theorem wj6 : ∀ k, k < 7 → u_lay RX6 TX6 k ∈ WS
  | 0, _ => (inB2 85 rfl rfl)
  | 1, _ => (inB2 87 rfl rfl)
  | 2, _ => (inB2 89 rfl rfl)
  | 3, _ => (inB2 91 rfl rfl)
  | 4, _ => (inB2 93 rfl rfl)
  | 5, _ => (inB2 95 rfl rfl)
  | 6, _ => (inB2 97 rfl rfl)
  | k + 7, h => absurd h (by omega)
theorem wi6 : ∀ w ∈ u_ws RX6 TX6 7, w ∈ WS := fun w hw => by
  obtain ⟨k, hk, rfl⟩ := List.mem_map.mp hw
  exact wj6 k (List.mem_range.mp hk)
theorem cl6 : Cls 6 RX6 TX6 7 := ⟨rfl, wi6, tyX6_ok, nmX6, rfl⟩
theorem in_X6 : Cond.initialized RX6 ∈ WS := (inB1 11 rfl rfl)
theorem nh_X6 : RX6 ≠ "java/lang/invoke/MethodHandle" ∧ RX6 ≠ "java/lang/invoke/VarHandle" := by decide +kernel
theorem wj7 : ∀ k, k < 4 → u_lay RX7 TX7 k ∈ WS
  | 0, _ => (inB1 87 rfl rfl)
  | 1, _ => (inB1 89 rfl rfl)
  | 2, _ => (inB1 91 rfl rfl)
  | 3, _ => (inB1 93 rfl rfl)
  | k + 4, h => absurd h (by omega)
theorem wi7 : ∀ w ∈ u_ws RX7 TX7 4, w ∈ WS := fun w hw => by
  obtain ⟨k, hk, rfl⟩ := List.mem_map.mp hw
  exact wj7 k (List.mem_range.mp hk)
theorem cl7 : Cls 7 RX7 TX7 4 := ⟨rfl, wi7, tyX7_ok, nmX7, rfl⟩
theorem in_X7 : Cond.initialized RX7 ∈ WS := (inB1 3 rfl rfl)
theorem nh_X7 : RX7 ≠ "java/lang/invoke/MethodHandle" ∧ RX7 ≠ "java/lang/invoke/VarHandle" := by decide +kernel
theorem wj8 : ∀ k, k < 5 → u_lay RX8 TX8 k ∈ WS
  | 0, _ => (inB2 27 rfl rfl)
  | 1, _ => (inB2 29 rfl rfl)
  | 2, _ => (inB2 31 rfl rfl)
  | 3, _ => (inB2 33 rfl rfl)
  | 4, _ => (inB2 35 rfl rfl)
  | k + 5, h => absurd h (by omega)
theorem wi8 : ∀ w ∈ u_ws RX8 TX8 5, w ∈ WS := fun w hw => by
  obtain ⟨k, hk, rfl⟩ := List.mem_map.mp hw
  exact wj8 k (List.mem_range.mp hk)
theorem cl8 : Cls 8 RX8 TX8 5 := ⟨rfl, wi8, tyX8_ok, nmX8, rfl⟩
theorem in_X8 : Cond.initialized RX8 ∈ WS := (inB1 9 rfl rfl)
theorem nh_X8 : RX8 ≠ "java/lang/invoke/MethodHandle" ∧ RX8 ≠ "java/lang/invoke/VarHandle" := by decide +kernel
theorem wj9 : ∀ k, k < 9 → u_lay RX9 TX9 k ∈ WS
  | 0, _ => (inB2 53 rfl rfl)
  | 1, _ => (inB2 55 rfl rfl)
  | 2, _ => (inB2 57 rfl rfl)
  | 3, _ => (inB2 59 rfl rfl)
  | 4, _ => (inB2 61 rfl rfl)
  | 5, _ => (inB2 63 rfl rfl)
  | 6, _ => (inB2 65 rfl rfl)
  | 7, _ => (inB2 67 rfl rfl)
  | 8, _ => (inB2 69 rfl rfl)
  | k + 9, h => absurd h (by omega)
theorem wi9 : ∀ w ∈ u_ws RX9 TX9 9, w ∈ WS := fun w hw => by
  obtain ⟨k, hk, rfl⟩ := List.mem_map.mp hw
  exact wj9 k (List.mem_range.mp hk)
theorem cl9 : Cls 9 RX9 TX9 9 := ⟨rfl, wi9, tyX9_ok, nmX9, rfl⟩
theorem in_X9 : Cond.initialized RX9 ∈ WS := (inB1 10 rfl rfl)
theorem nh_X9 : RX9 ≠ "java/lang/invoke/MethodHandle" ∧ RX9 ≠ "java/lang/invoke/VarHandle" := by decide +kernel
theorem wj10 : ∀ k, k < 6 → u_lay RX10 TX10 k ∈ WS
  | 0, _ => (inB1 175 rfl rfl)
  | 1, _ => (inB1 177 rfl rfl)
  | 2, _ => (inB1 179 rfl rfl)
  | 3, _ => (inB1 181 rfl rfl)
  | 4, _ => (inB1 183 rfl rfl)
  | 5, _ => (inB1 185 rfl rfl)
  | k + 6, h => absurd h (by omega)
theorem wi10 : ∀ w ∈ u_ws RX10 TX10 6, w ∈ WS := fun w hw => by
  obtain ⟨k, hk, rfl⟩ := List.mem_map.mp hw
  exact wj10 k (List.mem_range.mp hk)
theorem cl10 : Cls 10 RX10 TX10 6 := ⟨rfl, wi10, tyX10_ok, nmX10, rfl⟩
theorem in_X10 : Cond.initialized RX10 ∈ WS := (inB1 6 rfl rfl)
theorem nh_X10 : RX10 ≠ "java/lang/invoke/MethodHandle" ∧ RX10 ≠ "java/lang/invoke/VarHandle" := by decide +kernel
theorem wj11 : ∀ k, k < 12 → u_lay RX11 TX11 k ∈ WS
  | 0, _ => (inB2 137 rfl rfl)
  | 1, _ => (inB2 139 rfl rfl)
  | 2, _ => (inB2 141 rfl rfl)
  | 3, _ => (inB2 143 rfl rfl)
  | 4, _ => (inB2 145 rfl rfl)
  | 5, _ => (inB2 147 rfl rfl)
  | 6, _ => (inB2 149 rfl rfl)
  | 7, _ => (inB2 151 rfl rfl)
  | 8, _ => (inB2 153 rfl rfl)
  | 9, _ => (inB2 155 rfl rfl)
  | 10, _ => (inB2 157 rfl rfl)
  | 11, _ => (inB2 159 rfl rfl)
  | k + 12, h => absurd h (by omega)
theorem wi11 : ∀ w ∈ u_ws RX11 TX11 12, w ∈ WS := fun w hw => by
  obtain ⟨k, hk, rfl⟩ := List.mem_map.mp hw
  exact wj11 k (List.mem_range.mp hk)
theorem cl11 : Cls 11 RX11 TX11 12 := ⟨rfl, wi11, tyX11_ok, nmX11, rfl⟩
theorem in_X11 : Cond.initialized RX11 ∈ WS := (inB1 1 rfl rfl)
theorem nh_X11 : RX11 ≠ "java/lang/invoke/MethodHandle" ∧ RX11 ≠ "java/lang/invoke/VarHandle" := by decide +kernel
theorem wj12 : ∀ k, k < 59 → u_lay RX12 TX12 k ∈ WS
  | 0, _ => (inB6 227 rfl rfl)
  | 1, _ => (inB6 229 rfl rfl)
  | 2, _ => (inB6 231 rfl rfl)
  | 3, _ => (inB6 233 rfl rfl)
  | 4, _ => (inB6 235 rfl rfl)
  | 5, _ => (inB6 237 rfl rfl)
  | 6, _ => (inB6 239 rfl rfl)
  | 7, _ => (inB7 1 rfl rfl)
  | 8, _ => (inB7 3 rfl rfl)
  | 9, _ => (inB7 5 rfl rfl)
  | 10, _ => (inB7 7 rfl rfl)
  | 11, _ => (inB7 9 rfl rfl)
  | 12, _ => (inB7 11 rfl rfl)
  | 13, _ => (inB7 13 rfl rfl)
  | 14, _ => (inB7 15 rfl rfl)
  | 15, _ => (inB7 17 rfl rfl)
  | 16, _ => (inB7 19 rfl rfl)
  | 17, _ => (inB7 21 rfl rfl)
  | 18, _ => (inB7 23 rfl rfl)
  | 19, _ => (inB7 25 rfl rfl)
  | 20, _ => (inB7 27 rfl rfl)
  | 21, _ => (inB7 29 rfl rfl)
  | 22, _ => (inB7 31 rfl rfl)
  | 23, _ => (inB7 33 rfl rfl)
  | 24, _ => (inB7 35 rfl rfl)
  | 25, _ => (inB7 37 rfl rfl)
  | 26, _ => (inB7 39 rfl rfl)
  | 27, _ => (inB7 41 rfl rfl)
  | 28, _ => (inB7 43 rfl rfl)
  | 29, _ => (inB7 45 rfl rfl)
  | 30, _ => (inB7 47 rfl rfl)
  | 31, _ => (inB7 49 rfl rfl)
  | 32, _ => (inB7 51 rfl rfl)
  | 33, _ => (inB7 53 rfl rfl)
  | 34, _ => (inB7 55 rfl rfl)
  | 35, _ => (inB7 57 rfl rfl)
  | 36, _ => (inB7 59 rfl rfl)
  | 37, _ => (inB7 61 rfl rfl)
  | 38, _ => (inB7 63 rfl rfl)
  | 39, _ => (inB7 65 rfl rfl)
  | 40, _ => (inB7 67 rfl rfl)
  | 41, _ => (inB7 69 rfl rfl)
  | 42, _ => (inB7 71 rfl rfl)
  | 43, _ => (inB7 73 rfl rfl)
  | 44, _ => (inB7 75 rfl rfl)
  | 45, _ => (inB7 77 rfl rfl)
  | 46, _ => (inB7 79 rfl rfl)
  | 47, _ => (inB7 81 rfl rfl)
  | 48, _ => (inB7 83 rfl rfl)
  | 49, _ => (inB7 85 rfl rfl)
  | 50, _ => (inB7 87 rfl rfl)
  | 51, _ => (inB7 89 rfl rfl)
  | 52, _ => (inB7 91 rfl rfl)
  | 53, _ => (inB7 93 rfl rfl)
  | 54, _ => (inB7 95 rfl rfl)
  | 55, _ => (inB7 97 rfl rfl)
  | 56, _ => (inB7 99 rfl rfl)
  | 57, _ => (inB7 101 rfl rfl)
  | 58, _ => (inB7 103 rfl rfl)
  | k + 59, h => absurd h (by omega)
theorem wi12 : ∀ w ∈ u_ws RX12 TX12 59, w ∈ WS := fun w hw => by
  obtain ⟨k, hk, rfl⟩ := List.mem_map.mp hw
  exact wj12 k (List.mem_range.mp hk)
theorem cl12 : Cls 12 RX12 TX12 59 := ⟨rfl, wi12, tyX12_ok, nmX12, rfl⟩
theorem in_X12 : Cond.initialized RX12 ∈ WS := (inB1 13 rfl rfl)
theorem nh_X12 : RX12 ≠ "java/lang/invoke/MethodHandle" ∧ RX12 ≠ "java/lang/invoke/VarHandle" := by decide +kernel
theorem in_J6 : Cond.initialized RJ6 ∈ WS := (inB1 21 rfl rfl)
theorem nh_J6 : RJ6 ≠ "java/lang/invoke/MethodHandle" ∧ RJ6 ≠ "java/lang/invoke/VarHandle" := by decide +kernel
theorem pd_0 : (parseMethodDescriptor "()I").map (fun d => d.parameters.length) = some 0 := by decide +kernel
theorem pd_1 : (parseMethodDescriptor "()LNightCarts$Law;").map (fun d => d.parameters.length) = some 0 := by decide +kernel
theorem pd_2 : (parseMethodDescriptor "()V").map (fun d => d.parameters.length) = some 0 := by decide +kernel
theorem pd_3 : (parseMethodDescriptor "()Z").map (fun d => d.parameters.length) = some 0 := by decide +kernel
theorem pd_4 : (parseMethodDescriptor "(I)I").map (fun d => d.parameters.length) = some 1 := by decide +kernel
theorem pd_5 : (parseMethodDescriptor "(I)LNightCarts$Cart;").map (fun d => d.parameters.length) = some 1 := by decide +kernel
theorem pd_6 : (parseMethodDescriptor "(I)V").map (fun d => d.parameters.length) = some 1 := by decide +kernel
theorem pd_7 : (parseMethodDescriptor "(I)Z").map (fun d => d.parameters.length) = some 1 := by decide +kernel
theorem pd_8 : (parseMethodDescriptor "(II)I").map (fun d => d.parameters.length) = some 2 := by decide +kernel
theorem pd_9 : (parseMethodDescriptor "(II)V").map (fun d => d.parameters.length) = some 2 := by decide +kernel
theorem pd_10 : (parseMethodDescriptor "(II)Z").map (fun d => d.parameters.length) = some 2 := by decide +kernel
theorem pd_11 : (parseMethodDescriptor "(III)I").map (fun d => d.parameters.length) = some 3 := by decide +kernel
theorem pd_12 : (parseMethodDescriptor "(III)V").map (fun d => d.parameters.length) = some 3 := by decide +kernel
theorem pd_13 : (parseMethodDescriptor "(III)Z").map (fun d => d.parameters.length) = some 3 := by decide +kernel
theorem pd_14 : (parseMethodDescriptor "(IIII)I").map (fun d => d.parameters.length) = some 4 := by decide +kernel
theorem pd_15 : (parseMethodDescriptor "(IIII)V").map (fun d => d.parameters.length) = some 4 := by decide +kernel
theorem pd_16 : (parseMethodDescriptor "(IIII)Z").map (fun d => d.parameters.length) = some 4 := by decide +kernel
theorem pd_17 : (parseMethodDescriptor "(IIIII)I").map (fun d => d.parameters.length) = some 5 := by decide +kernel
theorem pd_18 : (parseMethodDescriptor "(IILNightCarts$Law;)I").map (fun d => d.parameters.length) = some 3 := by decide +kernel
theorem pd_19 : (parseMethodDescriptor "(ILNightCarts$Cart;I)V").map (fun d => d.parameters.length) = some 3 := by decide +kernel
theorem pd_20 : (parseMethodDescriptor "(ILNightCarts$Law;)I").map (fun d => d.parameters.length) = some 2 := by decide +kernel
theorem pd_21 : (parseMethodDescriptor "(ILNightCarts$Law;)V").map (fun d => d.parameters.length) = some 2 := by decide +kernel
theorem pd_22 : (parseMethodDescriptor "(LNightCarts$Cart;)V").map (fun d => d.parameters.length) = some 1 := by decide +kernel
theorem pd_23 : (parseMethodDescriptor "(LNightCarts$City;)V").map (fun d => d.parameters.length) = some 1 := by decide +kernel
theorem pd_24 : (parseMethodDescriptor "(LNightCarts$City;III)V").map (fun d => d.parameters.length) = some 4 := by decide +kernel
theorem pd_25 : (parseMethodDescriptor "(LNightCarts$City;LNightCarts$Roads;LNightCarts$Law;)V").map (fun d => d.parameters.length) = some 3 := by decide +kernel
theorem pd_26 : (parseMethodDescriptor "(LNightCarts$City;Z)I").map (fun d => d.parameters.length) = some 2 := by decide +kernel
theorem pd_27 : (parseMethodDescriptor "(LNightCarts$Law;)V").map (fun d => d.parameters.length) = some 1 := by decide +kernel
theorem pd_28 : (parseMethodDescriptor "(LNightCarts$Roads;)V").map (fun d => d.parameters.length) = some 1 := by decide +kernel
theorem pd_29 : (parseMethodDescriptor "(LNightCarts$Tape;)I").map (fun d => d.parameters.length) = some 1 := by decide +kernel
theorem pd_30 : (parseMethodDescriptor "(LNightCarts$Tape;)V").map (fun d => d.parameters.length) = some 1 := by decide +kernel
theorem pd_31 : (parseMethodDescriptor "(LNightCarts$Tape;)Z").map (fun d => d.parameters.length) = some 1 := by decide +kernel
theorem pd_32 : (parseMethodDescriptor "(LNightCarts$Tape;I)V").map (fun d => d.parameters.length) = some 2 := by decide +kernel
theorem pd_33 : (parseMethodDescriptor "(LNightCarts$Tape;I)Z").map (fun d => d.parameters.length) = some 2 := by decide +kernel
theorem pd_34 : (parseMethodDescriptor "(LNightCarts$Tape;II)V").map (fun d => d.parameters.length) = some 3 := by decide +kernel
theorem pd_35 : (parseMethodDescriptor "(LNightCarts$Tape;ILNightCarts$City;)V").map (fun d => d.parameters.length) = some 3 := by decide +kernel
theorem pd_36 : (parseMethodDescriptor "(LNightCarts$Tape;LNightCarts$City;)I").map (fun d => d.parameters.length) = some 2 := by decide +kernel
theorem pd_37 : (parseMethodDescriptor "(LNightCarts$Tape;LNightCarts$City;)V").map (fun d => d.parameters.length) = some 2 := by decide +kernel
theorem pd_38 : (parseMethodDescriptor "(LNightCarts$Tape;LNightCarts$City;I)V").map (fun d => d.parameters.length) = some 3 := by decide +kernel
theorem pd_39 : (parseMethodDescriptor "(Z)V").map (fun d => d.parameters.length) = some 1 := by decide +kernel
theorem pd_40 : (parseMethodDescriptor "(ZII)V").map (fun d => d.parameters.length) = some 3 := by decide +kernel
theorem pd_41 : (parseMethodDescriptor "([I)I").map (fun d => d.parameters.length) = some 1 := by decide +kernel
theorem pd_42 : (parseMethodDescriptor "([I)V").map (fun d => d.parameters.length) = some 1 := by decide +kernel
theorem pd_43 : (parseMethodDescriptor "([I)Z").map (fun d => d.parameters.length) = some 1 := by decide +kernel
theorem pd_44 : (parseMethodDescriptor "([I[I)V").map (fun d => d.parameters.length) = some 2 := by decide +kernel
theorem fl_X0_9 : FLk RX0 9 0 0 := ⟨RX0, TX0, 5, cl0, by decide, (inB1 146 rfl rfl), fun q => by rcases q with q | q <;> cases q⟩
theorem fl_X0_15 : FLk RX0 15 0 1 := ⟨RX0, TX0, 5, cl0, by decide, (inB1 147 rfl rfl), fun q => by rcases q with q | q <;> cases q⟩
theorem fl_X0_18 : FLk RX0 18 0 2 := ⟨RX0, TX0, 5, cl0, by decide, (inB1 148 rfl rfl), fun q => by rcases q with q | q <;> cases q⟩
theorem fl_X0_22 : FLk RX0 22 0 4 := ⟨RX0, TX0, 5, cl0, by decide, (inB1 150 rfl rfl), fun _ => rfl⟩
theorem fl_X0_26 : FLk RX0 26 0 3 := ⟨RX0, TX0, 5, cl0, by decide, (inB1 149 rfl rfl), fun _ => rfl⟩
theorem fl_X1_9 : FLk RX1 9 1 0 := ⟨RX1, TX1, 13, cl1, by decide, (inB1 36 rfl rfl), fun q => by rcases q with q | q <;> cases q⟩
theorem fl_X1_15 : FLk RX1 15 1 1 := ⟨RX1, TX1, 13, cl1, by decide, (inB1 37 rfl rfl), fun q => by rcases q with q | q <;> cases q⟩
theorem fl_X1_18 : FLk RX1 18 1 2 := ⟨RX1, TX1, 13, cl1, by decide, (inB1 38 rfl rfl), fun q => by rcases q with q | q <;> cases q⟩
theorem fl_X1_21 : FLk RX1 21 1 3 := ⟨RX1, TX1, 13, cl1, by decide, (inB1 39 rfl rfl), fun q => by rcases q with q | q <;> cases q⟩
theorem fl_X1_24 : FLk RX1 24 1 8 := ⟨RX1, TX1, 13, cl1, by decide, (inB1 44 rfl rfl), fun q => by rcases q with q | q <;> cases q⟩
theorem fl_X1_27 : FLk RX1 27 1 4 := ⟨RX1, TX1, 13, cl1, by decide, (inB1 40 rfl rfl), fun _ => rfl⟩
theorem fl_X1_60 : FLk RX1 60 1 5 := ⟨RX1, TX1, 13, cl1, by decide, (inB1 41 rfl rfl), fun _ => rfl⟩
theorem fl_X1_63 : FLk RX1 63 1 6 := ⟨RX1, TX1, 13, cl1, by decide, (inB1 42 rfl rfl), fun _ => rfl⟩
theorem fl_X1_66 : FLk RX1 66 1 7 := ⟨RX1, TX1, 13, cl1, by decide, (inB1 43 rfl rfl), fun _ => rfl⟩
theorem fl_X1_73 : FLk RX1 73 1 9 := ⟨RX1, TX1, 13, cl1, by decide, (inB1 45 rfl rfl), fun _ => rfl⟩
theorem fl_X1_77 : FLk RX1 77 1 10 := ⟨RX1, TX1, 13, cl1, by decide, (inB1 46 rfl rfl), fun _ => rfl⟩
theorem fl_X1_80 : FLk RX1 80 1 11 := ⟨RX1, TX1, 13, cl1, by decide, (inB1 47 rfl rfl), fun _ => rfl⟩
theorem fl_X1_83 : FLk RX1 83 1 12 := ⟨RX1, TX1, 13, cl1, by decide, (inB1 48 rfl rfl), fun _ => rfl⟩
theorem fl_X10_9 : FLk RX10 9 10 0 := ⟨RX10, TX10, 6, cl10, by decide, (inB1 169 rfl rfl), fun q => by rcases q with q | q <;> cases q⟩
theorem fl_X10_15 : FLk RX10 15 10 1 := ⟨RX10, TX10, 6, cl10, by decide, (inB1 170 rfl rfl), fun _ => rfl⟩
theorem fl_X10_27 : FLk RX10 27 10 2 := ⟨RX10, TX10, 6, cl10, by decide, (inB1 171 rfl rfl), fun _ => rfl⟩
theorem fl_X10_30 : FLk RX10 30 10 3 := ⟨RX10, TX10, 6, cl10, by decide, (inB1 172 rfl rfl), fun _ => rfl⟩
theorem fl_X10_33 : FLk RX10 33 10 5 := ⟨RX10, TX10, 6, cl10, by decide, (inB1 174 rfl rfl), fun _ => rfl⟩
theorem fl_X10_36 : FLk RX10 36 10 4 := ⟨RX10, TX10, 6, cl10, by decide, (inB1 173 rfl rfl), fun _ => rfl⟩
theorem fl_X11_24 : FLk RX11 24 11 0 := ⟨RX11, TX11, 12, cl11, by decide, (inB2 125 rfl rfl), fun q => by rcases q with q | q <;> cases q⟩
theorem fl_X11_28 : FLk RX11 28 11 1 := ⟨RX11, TX11, 12, cl11, by decide, (inB2 126 rfl rfl), fun q => by rcases q with q | q <;> cases q⟩
theorem fl_X11_32 : FLk RX11 32 11 2 := ⟨RX11, TX11, 12, cl11, by decide, (inB2 127 rfl rfl), fun q => by rcases q with q | q <;> cases q⟩
theorem fl_X11_36 : FLk RX11 36 11 3 := ⟨RX11, TX11, 12, cl11, by decide, (inB2 128 rfl rfl), fun q => by rcases q with q | q <;> cases q⟩
theorem fl_X11_43 : FLk RX11 43 11 4 := ⟨RX11, TX11, 12, cl11, by decide, (inB2 129 rfl rfl), fun q => by rcases q with q | q <;> cases q⟩
theorem fl_X11_47 : FLk RX11 47 11 5 := ⟨RX11, TX11, 12, cl11, by decide, (inB2 130 rfl rfl), fun q => by rcases q with q | q <;> cases q⟩
theorem fl_X11_51 : FLk RX11 51 11 6 := ⟨RX11, TX11, 12, cl11, by decide, (inB2 131 rfl rfl), fun q => by rcases q with q | q <;> cases q⟩
theorem fl_X11_60 : FLk RX11 60 11 7 := ⟨RX11, TX11, 12, cl11, by decide, (inB2 132 rfl rfl), fun q => by rcases q with q | q <;> cases q⟩
theorem fl_X11_69 : FLk RX11 69 11 8 := ⟨RX11, TX11, 12, cl11, by decide, (inB2 133 rfl rfl), fun q => by rcases q with q | q <;> cases q⟩
theorem fl_X11_78 : FLk RX11 78 11 9 := ⟨RX11, TX11, 12, cl11, by decide, (inB2 134 rfl rfl), fun q => by rcases q with q | q <;> cases q⟩
theorem fl_X11_85 : FLk RX11 85 11 10 := ⟨RX11, TX11, 12, cl11, by decide, (inB2 135 rfl rfl), fun q => by rcases q with q | q <;> cases q⟩
theorem fl_X11_92 : FLk RX11 92 11 11 := ⟨RX11, TX11, 12, cl11, by decide, (inB2 136 rfl rfl), fun q => by rcases q with q | q <;> cases q⟩
theorem fl_X12_7 : FLk RX12 7 12 0 := ⟨RX12, TX12, 59, cl12, by decide, (inB6 168 rfl rfl), fun q => by rcases q with q | q <;> cases q⟩
theorem fl_X12_13 : FLk RX12 13 12 1 := ⟨RX12, TX12, 59, cl12, by decide, (inB6 169 rfl rfl), fun q => by rcases q with q | q <;> cases q⟩
theorem fl_X12_16 : FLk RX12 16 12 2 := ⟨RX12, TX12, 59, cl12, by decide, (inB6 170 rfl rfl), fun q => by rcases q with q | q <;> cases q⟩
theorem fl_X12_19 : FLk RX12 19 12 3 := ⟨RX12, TX12, 59, cl12, by decide, (inB6 171 rfl rfl), fun q => by rcases q with q | q <;> cases q⟩
theorem fl_X12_22 : FLk RX12 22 12 4 := ⟨RX12, TX12, 59, cl12, by decide, (inB6 172 rfl rfl), fun q => by rcases q with q | q <;> cases q⟩
theorem fl_X12_25 : FLk RX12 25 12 5 := ⟨RX12, TX12, 59, cl12, by decide, (inB6 173 rfl rfl), fun q => by rcases q with q | q <;> cases q⟩
theorem fl_X12_28 : FLk RX12 28 12 6 := ⟨RX12, TX12, 59, cl12, by decide, (inB6 174 rfl rfl), fun q => by rcases q with q | q <;> cases q⟩
theorem fl_X12_31 : FLk RX12 31 12 7 := ⟨RX12, TX12, 59, cl12, by decide, (inB6 175 rfl rfl), fun q => by rcases q with q | q <;> cases q⟩
theorem fl_X12_34 : FLk RX12 34 12 8 := ⟨RX12, TX12, 59, cl12, by decide, (inB6 176 rfl rfl), fun q => by rcases q with q | q <;> cases q⟩
theorem fl_X12_37 : FLk RX12 37 12 9 := ⟨RX12, TX12, 59, cl12, by decide, (inB6 177 rfl rfl), fun q => by rcases q with q | q <;> cases q⟩
theorem fl_X12_40 : FLk RX12 40 12 10 := ⟨RX12, TX12, 59, cl12, by decide, (inB6 178 rfl rfl), fun q => by rcases q with q | q <;> cases q⟩
theorem fl_X12_43 : FLk RX12 43 12 11 := ⟨RX12, TX12, 59, cl12, by decide, (inB6 179 rfl rfl), fun q => by rcases q with q | q <;> cases q⟩
theorem fl_X12_46 : FLk RX12 46 12 14 := ⟨RX12, TX12, 59, cl12, by decide, (inB6 182 rfl rfl), fun q => by rcases q with q | q <;> cases q⟩
theorem fl_X12_50 : FLk RX12 50 12 25 := ⟨RX12, TX12, 59, cl12, by decide, (inB6 193 rfl rfl), fun q => by rcases q with q | q <;> cases q⟩
theorem fl_X12_53 : FLk RX12 53 12 26 := ⟨RX12, TX12, 59, cl12, by decide, (inB6 194 rfl rfl), fun q => by rcases q with q | q <;> cases q⟩
theorem fl_X12_56 : FLk RX12 56 12 27 := ⟨RX12, TX12, 59, cl12, by decide, (inB6 195 rfl rfl), fun q => by rcases q with q | q <;> cases q⟩
theorem fl_X12_59 : FLk RX12 59 12 28 := ⟨RX12, TX12, 59, cl12, by decide, (inB6 196 rfl rfl), fun q => by rcases q with q | q <;> cases q⟩
theorem fl_X12_62 : FLk RX12 62 12 29 := ⟨RX12, TX12, 59, cl12, by decide, (inB6 197 rfl rfl), fun q => by rcases q with q | q <;> cases q⟩
theorem fl_X12_65 : FLk RX12 65 12 30 := ⟨RX12, TX12, 59, cl12, by decide, (inB6 198 rfl rfl), fun q => by rcases q with q | q <;> cases q⟩
theorem fl_X12_68 : FLk RX12 68 12 31 := ⟨RX12, TX12, 59, cl12, by decide, (inB6 199 rfl rfl), fun q => by rcases q with q | q <;> cases q⟩
theorem fl_X12_71 : FLk RX12 71 12 32 := ⟨RX12, TX12, 59, cl12, by decide, (inB6 200 rfl rfl), fun q => by rcases q with q | q <;> cases q⟩
theorem fl_X12_74 : FLk RX12 74 12 33 := ⟨RX12, TX12, 59, cl12, by decide, (inB6 201 rfl rfl), fun q => by rcases q with q | q <;> cases q⟩
theorem fl_X12_77 : FLk RX12 77 12 34 := ⟨RX12, TX12, 59, cl12, by decide, (inB6 202 rfl rfl), fun q => by rcases q with q | q <;> cases q⟩
theorem fl_X12_80 : FLk RX12 80 12 35 := ⟨RX12, TX12, 59, cl12, by decide, (inB6 203 rfl rfl), fun q => by rcases q with q | q <;> cases q⟩
theorem fl_X12_83 : FLk RX12 83 12 36 := ⟨RX12, TX12, 59, cl12, by decide, (inB6 204 rfl rfl), fun q => by rcases q with q | q <;> cases q⟩
theorem fl_X12_86 : FLk RX12 86 12 37 := ⟨RX12, TX12, 59, cl12, by decide, (inB6 205 rfl rfl), fun q => by rcases q with q | q <;> cases q⟩
theorem fl_X12_89 : FLk RX12 89 12 38 := ⟨RX12, TX12, 59, cl12, by decide, (inB6 206 rfl rfl), fun q => by rcases q with q | q <;> cases q⟩
theorem fl_X12_92 : FLk RX12 92 12 39 := ⟨RX12, TX12, 59, cl12, by decide, (inB6 207 rfl rfl), fun q => by rcases q with q | q <;> cases q⟩
theorem fl_X12_95 : FLk RX12 95 12 40 := ⟨RX12, TX12, 59, cl12, by decide, (inB6 208 rfl rfl), fun q => by rcases q with q | q <;> cases q⟩
theorem fl_X12_98 : FLk RX12 98 12 42 := ⟨RX12, TX12, 59, cl12, by decide, (inB6 210 rfl rfl), fun q => by rcases q with q | q <;> cases q⟩
theorem fl_X12_101 : FLk RX12 101 12 43 := ⟨RX12, TX12, 59, cl12, by decide, (inB6 211 rfl rfl), fun q => by rcases q with q | q <;> cases q⟩
theorem fl_X12_104 : FLk RX12 104 12 44 := ⟨RX12, TX12, 59, cl12, by decide, (inB6 212 rfl rfl), fun q => by rcases q with q | q <;> cases q⟩
theorem fl_X12_107 : FLk RX12 107 12 45 := ⟨RX12, TX12, 59, cl12, by decide, (inB6 213 rfl rfl), fun q => by rcases q with q | q <;> cases q⟩
theorem fl_X12_110 : FLk RX12 110 12 46 := ⟨RX12, TX12, 59, cl12, by decide, (inB6 214 rfl rfl), fun q => by rcases q with q | q <;> cases q⟩
theorem fl_X12_113 : FLk RX12 113 12 52 := ⟨RX12, TX12, 59, cl12, by decide, (inB6 220 rfl rfl), fun q => by rcases q with q | q <;> cases q⟩
theorem fl_X12_116 : FLk RX12 116 12 53 := ⟨RX12, TX12, 59, cl12, by decide, (inB6 221 rfl rfl), fun q => by rcases q with q | q <;> cases q⟩
theorem fl_X12_119 : FLk RX12 119 12 54 := ⟨RX12, TX12, 59, cl12, by decide, (inB6 222 rfl rfl), fun q => by rcases q with q | q <;> cases q⟩
theorem fl_X12_122 : FLk RX12 122 12 55 := ⟨RX12, TX12, 59, cl12, by decide, (inB6 223 rfl rfl), fun q => by rcases q with q | q <;> cases q⟩
theorem fl_X12_125 : FLk RX12 125 12 56 := ⟨RX12, TX12, 59, cl12, by decide, (inB6 224 rfl rfl), fun q => by rcases q with q | q <;> cases q⟩
theorem fl_X12_128 : FLk RX12 128 12 57 := ⟨RX12, TX12, 59, cl12, by decide, (inB6 225 rfl rfl), fun q => by rcases q with q | q <;> cases q⟩
theorem fl_X12_135 : FLk RX12 135 12 12 := ⟨RX12, TX12, 59, cl12, by decide, (inB6 180 rfl rfl), fun _ => rfl⟩
theorem fl_X12_143 : FLk RX12 143 12 13 := ⟨RX12, TX12, 59, cl12, by decide, (inB6 181 rfl rfl), fun _ => rfl⟩
theorem fl_X12_159 : FLk RX12 159 12 15 := ⟨RX12, TX12, 59, cl12, by decide, (inB6 183 rfl rfl), fun _ => rfl⟩
theorem fl_X12_166 : FLk RX12 166 12 16 := ⟨RX12, TX12, 59, cl12, by decide, (inB6 184 rfl rfl), fun _ => rfl⟩
theorem fl_X12_169 : FLk RX12 169 12 17 := ⟨RX12, TX12, 59, cl12, by decide, (inB6 185 rfl rfl), fun _ => rfl⟩
theorem fl_X12_176 : FLk RX12 176 12 18 := ⟨RX12, TX12, 59, cl12, by decide, (inB6 186 rfl rfl), fun _ => rfl⟩
theorem fl_X12_182 : FLk RX12 182 12 19 := ⟨RX12, TX12, 59, cl12, by decide, (inB6 187 rfl rfl), fun _ => rfl⟩
theorem fl_X12_189 : FLk RX12 189 12 21 := ⟨RX12, TX12, 59, cl12, by decide, (inB6 189 rfl rfl), fun _ => rfl⟩
theorem fl_X12_193 : FLk RX12 193 12 20 := ⟨RX12, TX12, 59, cl12, by decide, (inB6 188 rfl rfl), fun _ => rfl⟩
theorem fl_X12_196 : FLk RX12 196 12 22 := ⟨RX12, TX12, 59, cl12, by decide, (inB6 190 rfl rfl), fun _ => rfl⟩
theorem fl_X12_246 : FLk RX12 246 12 23 := ⟨RX12, TX12, 59, cl12, by decide, (inB6 191 rfl rfl), fun _ => rfl⟩
theorem fl_X12_258 : FLk RX12 258 12 24 := ⟨RX12, TX12, 59, cl12, by decide, (inB6 192 rfl rfl), fun _ => rfl⟩
theorem fl_X12_278 : FLk RX12 278 12 41 := ⟨RX12, TX12, 59, cl12, by decide, (inB6 209 rfl rfl), fun _ => rfl⟩
theorem fl_X12_299 : FLk RX12 299 12 50 := ⟨RX12, TX12, 59, cl12, by decide, (inB6 218 rfl rfl), fun _ => rfl⟩
theorem fl_X12_302 : FLk RX12 302 12 49 := ⟨RX12, TX12, 59, cl12, by decide, (inB6 217 rfl rfl), fun _ => rfl⟩
theorem fl_X12_311 : FLk RX12 311 12 47 := ⟨RX12, TX12, 59, cl12, by decide, (inB6 215 rfl rfl), fun _ => rfl⟩
theorem fl_X12_314 : FLk RX12 314 12 48 := ⟨RX12, TX12, 59, cl12, by decide, (inB6 216 rfl rfl), fun _ => rfl⟩
theorem fl_X12_320 : FLk RX12 320 12 51 := ⟨RX12, TX12, 59, cl12, by decide, (inB6 219 rfl rfl), fun _ => rfl⟩
theorem fl_X12_385 : FLk RX12 385 12 58 := ⟨RX12, TX12, 59, cl12, by decide, (inB6 226 rfl rfl), fun _ => rfl⟩
theorem fl_X2_9 : FLk RX2 9 2 0 := ⟨RX2, TX2, 12, cl2, by decide, (inB1 102 rfl rfl), fun q => by rcases q with q | q <;> cases q⟩
theorem fl_X2_15 : FLk RX2 15 2 1 := ⟨RX2, TX2, 12, cl2, by decide, (inB1 103 rfl rfl), fun q => by rcases q with q | q <;> cases q⟩
theorem fl_X2_18 : FLk RX2 18 2 2 := ⟨RX2, TX2, 12, cl2, by decide, (inB1 104 rfl rfl), fun q => by rcases q with q | q <;> cases q⟩
theorem fl_X2_21 : FLk RX2 21 2 3 := ⟨RX2, TX2, 12, cl2, by decide, (inB1 105 rfl rfl), fun q => by rcases q with q | q <;> cases q⟩
theorem fl_X2_24 : FLk RX2 24 2 5 := ⟨RX2, TX2, 12, cl2, by decide, (inB1 107 rfl rfl), fun q => by rcases q with q | q <;> cases q⟩
theorem fl_X2_27 : FLk RX2 27 2 6 := ⟨RX2, TX2, 12, cl2, by decide, (inB1 108 rfl rfl), fun q => by rcases q with q | q <;> cases q⟩
theorem fl_X2_30 : FLk RX2 30 2 8 := ⟨RX2, TX2, 12, cl2, by decide, (inB1 110 rfl rfl), fun q => by rcases q with q | q <;> cases q⟩
theorem fl_X2_33 : FLk RX2 33 2 9 := ⟨RX2, TX2, 12, cl2, by decide, (inB1 111 rfl rfl), fun q => by rcases q with q | q <;> cases q⟩
theorem fl_X2_36 : FLk RX2 36 2 4 := ⟨RX2, TX2, 12, cl2, by decide, (inB1 106 rfl rfl), fun _ => rfl⟩
theorem fl_X2_40 : FLk RX2 40 2 7 := ⟨RX2, TX2, 12, cl2, by decide, (inB1 109 rfl rfl), fun _ => rfl⟩
theorem fl_X2_74 : FLk RX2 74 2 10 := ⟨RX2, TX2, 12, cl2, by decide, (inB1 112 rfl rfl), fun _ => rfl⟩
theorem fl_X2_77 : FLk RX2 77 2 11 := ⟨RX2, TX2, 12, cl2, by decide, (inB1 113 rfl rfl), fun _ => rfl⟩
theorem fl_X3_12 : FLk RX3 12 3 0 := ⟨RX3, TX3, 1, cl3, by decide, (inB1 196 rfl rfl), fun q => by rcases q with q | q <;> cases q⟩
theorem fl_X4_9 : FLk RX4 9 4 0 := ⟨RX4, TX4, 6, cl4, by decide, (inB2 106 rfl rfl), fun q => by rcases q with q | q <;> cases q⟩
theorem fl_X4_15 : FLk RX4 15 4 1 := ⟨RX4, TX4, 6, cl4, by decide, (inB2 107 rfl rfl), fun q => by rcases q with q | q <;> cases q⟩
theorem fl_X4_18 : FLk RX4 18 4 2 := ⟨RX4, TX4, 6, cl4, by decide, (inB2 108 rfl rfl), fun q => by rcases q with q | q <;> cases q⟩
theorem fl_X4_21 : FLk RX4 21 4 3 := ⟨RX4, TX4, 6, cl4, by decide, (inB2 109 rfl rfl), fun q => by rcases q with q | q <;> cases q⟩
theorem fl_X4_24 : FLk RX4 24 4 5 := ⟨RX4, TX4, 6, cl4, by decide, (inB2 111 rfl rfl), fun _ => rfl⟩
theorem fl_X4_38 : FLk RX4 38 4 4 := ⟨RX4, TX4, 6, cl4, by decide, (inB2 110 rfl rfl), fun _ => rfl⟩
theorem fl_X5_11 : FLk RX5 11 5 3 := ⟨RX5, TX5, 16, cl5, by decide, (inB1 210 rfl rfl), fun q => by rcases q with q | q <;> cases q⟩
theorem fl_X5_19 : FLk RX5 19 5 4 := ⟨RX5, TX5, 16, cl5, by decide, (inB1 211 rfl rfl), fun q => by rcases q with q | q <;> cases q⟩
theorem fl_X5_23 : FLk RX5 23 5 5 := ⟨RX5, TX5, 16, cl5, by decide, (inB1 212 rfl rfl), fun q => by rcases q with q | q <;> cases q⟩
theorem fl_X5_26 : FLk RX5 26 5 6 := ⟨RX5, TX5, 16, cl5, by decide, (inB1 213 rfl rfl), fun q => by rcases q with q | q <;> cases q⟩
theorem fl_X5_29 : FLk RX5 29 5 7 := ⟨RX5, TX5, 16, cl5, by decide, (inB1 214 rfl rfl), fun q => by rcases q with q | q <;> cases q⟩
theorem fl_X5_32 : FLk RX5 32 5 8 := ⟨RX5, TX5, 16, cl5, by decide, (inB1 215 rfl rfl), fun q => by rcases q with q | q <;> cases q⟩
theorem fl_X5_35 : FLk RX5 35 5 9 := ⟨RX5, TX5, 16, cl5, by decide, (inB1 216 rfl rfl), fun q => by rcases q with q | q <;> cases q⟩
theorem fl_X5_38 : FLk RX5 38 5 0 := ⟨RX5, TX5, 16, cl5, by decide, (inB1 207 rfl rfl), fun q => by rcases q with q | q <;> cases q⟩
theorem fl_X5_42 : FLk RX5 42 5 1 := ⟨RX5, TX5, 16, cl5, by decide, (inB1 208 rfl rfl), fun q => by rcases q with q | q <;> cases q⟩
theorem fl_X5_46 : FLk RX5 46 5 2 := ⟨RX5, TX5, 16, cl5, by decide, (inB1 209 rfl rfl), fun q => by rcases q with q | q <;> cases q⟩
theorem fl_X5_50 : FLk RX5 50 5 10 := ⟨RX5, TX5, 16, cl5, by decide, (inB1 217 rfl rfl), fun _ => rfl⟩
theorem fl_X5_54 : FLk RX5 54 5 11 := ⟨RX5, TX5, 16, cl5, by decide, (inB1 218 rfl rfl), fun _ => rfl⟩
theorem fl_X5_57 : FLk RX5 57 5 12 := ⟨RX5, TX5, 16, cl5, by decide, (inB1 219 rfl rfl), fun _ => rfl⟩
theorem fl_X5_60 : FLk RX5 60 5 13 := ⟨RX5, TX5, 16, cl5, by decide, (inB1 220 rfl rfl), fun _ => rfl⟩
theorem fl_X5_63 : FLk RX5 63 5 14 := ⟨RX5, TX5, 16, cl5, by decide, (inB1 221 rfl rfl), fun _ => rfl⟩
theorem fl_X5_66 : FLk RX5 66 5 15 := ⟨RX5, TX5, 16, cl5, by decide, (inB1 222 rfl rfl), fun _ => rfl⟩
theorem fl_X6_9 : FLk RX6 9 6 0 := ⟨RX6, TX6, 7, cl6, by decide, (inB2 78 rfl rfl), fun q => by rcases q with q | q <;> cases q⟩
theorem fl_X6_15 : FLk RX6 15 6 1 := ⟨RX6, TX6, 7, cl6, by decide, (inB2 79 rfl rfl), fun q => by rcases q with q | q <;> cases q⟩
theorem fl_X6_18 : FLk RX6 18 6 2 := ⟨RX6, TX6, 7, cl6, by decide, (inB2 80 rfl rfl), fun q => by rcases q with q | q <;> cases q⟩
theorem fl_X6_21 : FLk RX6 21 6 3 := ⟨RX6, TX6, 7, cl6, by decide, (inB2 81 rfl rfl), fun q => by rcases q with q | q <;> cases q⟩
theorem fl_X6_24 : FLk RX6 24 6 6 := ⟨RX6, TX6, 7, cl6, by decide, (inB2 84 rfl rfl), fun _ => rfl⟩
theorem fl_X6_38 : FLk RX6 38 6 4 := ⟨RX6, TX6, 7, cl6, by decide, (inB2 82 rfl rfl), fun _ => rfl⟩
theorem fl_X6_41 : FLk RX6 41 6 5 := ⟨RX6, TX6, 7, cl6, by decide, (inB2 83 rfl rfl), fun _ => rfl⟩
theorem fl_X7_11 : FLk RX7 11 7 0 := ⟨RX7, TX7, 4, cl7, by decide, (inB1 83 rfl rfl), fun q => by rcases q with q | q <;> cases q⟩
theorem fl_X7_15 : FLk RX7 15 7 1 := ⟨RX7, TX7, 4, cl7, by decide, (inB1 84 rfl rfl), fun q => by rcases q with q | q <;> cases q⟩
theorem fl_X7_18 : FLk RX7 18 7 2 := ⟨RX7, TX7, 4, cl7, by decide, (inB1 85 rfl rfl), fun q => by rcases q with q | q <;> cases q⟩
theorem fl_X7_21 : FLk RX7 21 7 3 := ⟨RX7, TX7, 4, cl7, by decide, (inB1 86 rfl rfl), fun _ => rfl⟩
theorem fl_X8_11 : FLk RX8 11 8 1 := ⟨RX8, TX8, 5, cl8, by decide, (inB2 23 rfl rfl), fun q => by rcases q with q | q <;> cases q⟩
theorem fl_X8_15 : FLk RX8 15 8 2 := ⟨RX8, TX8, 5, cl8, by decide, (inB2 24 rfl rfl), fun q => by rcases q with q | q <;> cases q⟩
theorem fl_X8_18 : FLk RX8 18 8 3 := ⟨RX8, TX8, 5, cl8, by decide, (inB2 25 rfl rfl), fun q => by rcases q with q | q <;> cases q⟩
theorem fl_X8_21 : FLk RX8 21 8 0 := ⟨RX8, TX8, 5, cl8, by decide, (inB2 22 rfl rfl), fun q => by rcases q with q | q <;> cases q⟩
theorem fl_X8_25 : FLk RX8 25 8 4 := ⟨RX8, TX8, 5, cl8, by decide, (inB2 26 rfl rfl), fun _ => rfl⟩
theorem fl_X9_9 : FLk RX9 9 9 1 := ⟨RX9, TX9, 9, cl9, by decide, (inB2 45 rfl rfl), fun q => by rcases q with q | q <;> cases q⟩
theorem fl_X9_15 : FLk RX9 15 9 2 := ⟨RX9, TX9, 9, cl9, by decide, (inB2 46 rfl rfl), fun q => by rcases q with q | q <;> cases q⟩
theorem fl_X9_18 : FLk RX9 18 9 3 := ⟨RX9, TX9, 9, cl9, by decide, (inB2 47 rfl rfl), fun q => by rcases q with q | q <;> cases q⟩
theorem fl_X9_21 : FLk RX9 21 9 0 := ⟨RX9, TX9, 9, cl9, by decide, (inB2 44 rfl rfl), fun q => by rcases q with q | q <;> cases q⟩
theorem fl_X9_25 : FLk RX9 25 9 4 := ⟨RX9, TX9, 9, cl9, by decide, (inB2 48 rfl rfl), fun _ => rfl⟩
theorem fl_X9_33 : FLk RX9 33 9 5 := ⟨RX9, TX9, 9, cl9, by decide, (inB2 49 rfl rfl), fun _ => rfl⟩
theorem fl_X9_57 : FLk RX9 57 9 7 := ⟨RX9, TX9, 9, cl9, by decide, (inB2 51 rfl rfl), fun _ => rfl⟩
theorem fl_X9_60 : FLk RX9 60 9 8 := ⟨RX9, TX9, 9, cl9, by decide, (inB2 52 rfl rfl), fun _ => rfl⟩
theorem fl_X9_63 : FLk RX9 63 9 6 := ⟨RX9, TX9, 9, cl9, by decide, (inB2 50 rfl rfl), fun _ => rfl⟩
theorem ml_L_9 : Cond.methodLink RL 9 yX11_init ∈ WS := (inB1 24 rfl rfl)
theorem ml_L_12 : Cond.methodLink RL 12 yX12_init ∈ WS := (inB6 149 rfl rfl)
theorem ml_L_13 : Cond.methodLink RL 13 yX11_street ∈ WS := (inB2 162 rfl rfl)
theorem ml_L_17 : Cond.methodLink RL 17 yX12_street ∈ WS := (inB7 106 rfl rfl)
theorem ml_L_18 : Cond.methodLink RL 18 yX11_cart ∈ WS := (inB2 174 rfl rfl)
theorem ml_L_22 : Cond.methodLink RL 22 yX12_cart ∈ WS := (inB7 113 rfl rfl)
theorem ml_L_23 : Cond.methodLink RL 23 yX11_pour ∈ WS := (inB2 186 rfl rfl)
theorem ml_L_27 : Cond.methodLink RL 27 yX12_pour ∈ WS := (inB7 117 rfl rfl)
theorem ml_L_28 : Cond.methodLink RL 28 yX11_feed ∈ WS := (inB2 206 rfl rfl)
theorem ml_L_32 : Cond.methodLink RL 32 yX12_feed ∈ WS := (inB7 121 rfl rfl)
theorem ml_L_33 : Cond.methodLink RL 33 yX11_law ∈ WS := (inB2 222 rfl rfl)
theorem ml_L_37 : Cond.methodLink RL 37 yX12_law ∈ WS := (inB7 129 rfl rfl)
theorem ml_L_38 : Cond.methodLink RL 38 yX11_roads ∈ WS := (inB3 220 rfl rfl)
theorem ml_L_41 : Cond.methodLink RL 41 yX12_roads ∈ WS := (inB7 215 rfl rfl)
theorem ml_L_42 : Cond.methodLink RL 42 yX11_plan ∈ WS := (inB4 26 rfl rfl)
theorem ml_L_45 : Cond.methodLink RL 45 yX12_plan ∈ WS := (inB7 231 rfl rfl)
theorem ml_L_46 : Cond.methodLink RL 46 yX11_nights ∈ WS := (inB4 69 rfl rfl)
theorem ml_L_49 : Cond.methodLink RL 49 yX12_nights ∈ WS := (inB7 239 rfl rfl)
theorem ml_L_50 : Cond.methodLink RL 50 yX11_tried ∈ WS := (inB4 229 rfl rfl)
theorem ml_L_53 : Cond.methodLink RL 53 yX12_tried ∈ WS := (inB8 57 rfl rfl)
theorem ml_L_54 : Cond.methodLink RL 54 yX11_way ∈ WS := (inB5 10 rfl rfl)
theorem ml_L_57 : Cond.methodLink RL 57 yX12_way ∈ WS := (inB8 88 rfl rfl)
theorem ml_L_58 : Cond.methodLink RL 58 yX11_round ∈ WS := (inB5 15 rfl rfl)
theorem ml_L_62 : Cond.methodLink RL 62 yX12_round ∈ WS := (inB8 92 rfl rfl)
theorem ml_L_63 : Cond.methodLink RL 63 yX11_share ∈ WS := (inB5 70 rfl rfl)
theorem ml_L_66 : Cond.methodLink RL 66 yX12_share ∈ WS := (inB8 114 rfl rfl)
theorem ml_L_67 : Cond.methodLink RL 67 yX11_sleepful ∈ WS := (inB5 102 rfl rfl)
theorem ml_L_70 : Cond.methodLink RL 70 yX12_sleepful ∈ WS := (inB8 125 rfl rfl)
theorem ml_L_71 : Cond.methodLink RL 71 yX11_pitAt ∈ WS := (inB5 136 rfl rfl)
theorem ml_L_74 : Cond.methodLink RL 74 yX12_pitAt ∈ WS := (inB8 129 rfl rfl)
theorem ml_L_75 : Cond.methodLink RL 75 yX11_cut ∈ WS := (inB5 164 rfl rfl)
theorem ml_L_78 : Cond.methodLink RL 78 yX12_cut ∈ WS := (inB8 141 rfl rfl)
theorem ml_L_79 : Cond.methodLink RL 79 yX11_strike ∈ WS := (inB5 187 rfl rfl)
theorem ml_L_82 : Cond.methodLink RL 82 yX12_strike ∈ WS := (inB8 68 rfl rfl)
theorem ml_L_83 : Cond.methodLink RL 83 yX11_enough ∈ WS := (inB5 191 rfl rfl)
theorem ml_L_86 : Cond.methodLink RL 86 yX12_enough ∈ WS := (inB8 76 rfl rfl)
theorem ml_L_87 : Cond.methodLink RL 87 yX11_oneStop ∈ WS := (inB5 200 rfl rfl)
theorem ml_L_90 : Cond.methodLink RL 90 yX12_oneStop ∈ WS := (inB8 84 rfl rfl)
theorem ml_L_91 : Cond.methodLink RL 91 yX11_out ∈ WS := (inB5 213 rfl rfl)
theorem ml_L_94 : Cond.methodLink RL 94 yX12_out ∈ WS := (inB8 145 rfl rfl)
theorem ml_L_95 : Cond.methodLink RL 95 yX11_jobs ∈ WS := (inB5 235 rfl rfl)
theorem ml_L_98 : Cond.methodLink RL 98 yX12_jobs ∈ WS := (inB8 153 rfl rfl)
theorem ml_L_99 : Cond.methodLink RL 99 yX11_load ∈ WS := (inB6 33 rfl rfl)
theorem ml_L_102 : Cond.methodLink RL 102 yX12_load ∈ WS := (inB8 161 rfl rfl)
theorem ml_L_103 : Cond.methodLink RL 103 yX11_brides ∈ WS := (inB6 42 rfl rfl)
theorem ml_L_106 : Cond.methodLink RL 106 yX12_brides ∈ WS := (inB8 165 rfl rfl)
theorem ml_L_107 : Cond.methodLink RL 107 yX11_thieves ∈ WS := (inB6 79 rfl rfl)
theorem ml_L_110 : Cond.methodLink RL 110 yX12_thieves ∈ WS := (inB8 173 rfl rfl)
theorem ml_L_111 : Cond.methodLink RL 111 yX11_latest ∈ WS := (inB6 83 rfl rfl)
theorem ml_L_114 : Cond.methodLink RL 114 yX12_latest ∈ WS := (inB8 177 rfl rfl)
theorem ml_L_115 : Cond.methodLink RL 115 yX11_keep ∈ WS := (inB6 97 rfl rfl)
theorem ml_L_119 : Cond.methodLink RL 119 yX12_keep ∈ WS := (inB8 181 rfl rfl)
theorem ml_L_120 : Cond.methodLink RL 120 yX11_undo ∈ WS := (inB6 106 rfl rfl)
theorem ml_L_124 : Cond.methodLink RL 124 yX12_undo ∈ WS := (inB8 185 rfl rfl)
theorem ml_L_125 : Cond.methodLink RL 125 yX11_check ∈ WS := (inB6 114 rfl rfl)
theorem ml_L_128 : Cond.methodLink RL 128 yX12_check ∈ WS := (inB8 189 rfl rfl)
theorem ml_L_129 : Cond.methodLink RL 129 yX11_count ∈ WS := (inB6 118 rfl rfl)
theorem ml_L_132 : Cond.methodLink RL 132 yX12_count ∈ WS := (inB8 193 rfl rfl)
theorem ml_X0_3 : Cond.methodLink RX0 3 objectInit ∈ WS := (inB1 145 rfl rfl)
theorem ml_X0_29 : Cond.methodLinkNest RX0 29 yX11_isWithin "NightCarts" ∈ NW := (inN4 60 rfl rfl)
theorem ml_X0_33 : Cond.methodLink RX0 33 yX10_isSound ∈ WS := (inB4 34 rfl rfl)
theorem ml_X0_39 : Cond.methodLink RX0 39 yX0_readStop ∈ WS := (inB4 35 rfl rfl)
theorem ml_X0_43 : Cond.methodLink RX0 43 yX10_isAtEnd ∈ WS := (inB4 49 rfl rfl)
theorem ml_X0_46 : Cond.methodLink RX0 46 yX10_need ∈ WS := (inB4 50 rfl rfl)
theorem ml_X0_50 : Cond.methodLink RX0 50 yX10_fault ∈ WS := (inB4 51 rfl rfl)
theorem ml_X0_54 : Cond.methodLink RX0 54 yX10_sees ∈ WS := (inB4 39 rfl rfl)
theorem ml_X0_58 : Cond.methodLink RX0 58 yX10_sign ∈ WS := (inB4 40 rfl rfl)
theorem ml_X0_61 : Cond.methodLink RX0 61 yX10_seesStreet ∈ WS := (inB4 41 rfl rfl)
theorem ml_X0_64 : Cond.methodLink RX0 64 yX10_fail ∈ WS := (inB4 42 rfl rfl)
theorem ml_X0_67 : Cond.methodLink RX0 67 yX10_step ∈ WS := (inB4 43 rfl rfl)
theorem ml_X0_70 : Cond.methodLink RX0 70 yX10_readNumber ∈ WS := (inB4 44 rfl rfl)
theorem ml_X0_74 : Cond.methodLink RX0 74 yX0_addStop ∈ WS := (inB4 45 rfl rfl)
theorem ml_X0_78 : Cond.methodLink RX0 78 yX0_takesOnAt ∈ WS := (inB4 56 rfl rfl)
theorem ml_X0_81 : Cond.methodLink RX0 81 yX0_streetOf ∈ WS := (inB4 61 rfl rfl)
theorem ml_X0_84 : Cond.methodLink RX0 84 yX0_yardsOf ∈ WS := (inB4 65 rfl rfl)
theorem ml_X1_3 : Cond.methodLink RX1 3 objectInit ∈ WS := (inB1 35 rfl rfl)
theorem ml_X1_31 : Cond.methodLink RX1 31 yJ6_bitCount_0f7a4 ∈ WS := (inB5 23 rfl rfl)
theorem ml_X1_37 : Cond.methodLinkNest RX1 37 yX11_isWithin "NightCarts" ∈ NW := (inN2 173 rfl rfl)
theorem ml_X1_41 : Cond.methodLink RX1 41 yX1_isTold ∈ WS := (inB2 198 rfl rfl)
theorem ml_X1_45 : Cond.methodLink RX1 45 Lib.Math.min.name ∈ WS := (inB2 199 rfl rfl)
theorem ml_X1_51 : Cond.methodLink RX1 51 yX1_depthOf ∈ WS := (inB2 202 rfl rfl)
theorem ml_X1_54 : Cond.methodLink RX1 54 arraycopyName ∈ WS := (inB4 89 rfl rfl)
theorem ml_X1_69 : Cond.methodLink RX1 69 yX1_copyDepths ∈ WS := (inB6 105 rfl rfl)
theorem ml_X10_3 : Cond.methodLink RX10 3 objectInit ∈ WS := (inB1 168 rfl rfl)
theorem ml_X10_19 : Cond.methodLink RX10 19 yX10_at ∈ WS := (inB2 234 rfl rfl)
theorem ml_X10_23 : Cond.methodLinkNest RX10 23 yX11_hasBit "NightCarts" ∈ NW := (inN6 41 rfl rfl)
theorem ml_X10_39 : Cond.methodLink RX10 39 yX10_sees ∈ WS := (inB3 58 rfl rfl)
theorem ml_X10_43 : Cond.methodLink RX10 43 yX10_step ∈ WS := (inB3 59 rfl rfl)
theorem ml_X10_46 : Cond.methodLink RX10 46 yX10_fail ∈ WS := (inB3 60 rfl rfl)
theorem ml_X10_50 : Cond.methodLink RX10 50 yX10_seesDigit ∈ WS := (inB3 69 rfl rfl)
theorem ml_X11_1 : Cond.methodLink RX11 1 objectInit ∈ WS := (inB1 27 rfl rfl)
theorem ml_X11_9 : Cond.methodLinkNest RX11 9 yX1_init "NightCarts" ∈ NW := (inN1 32 rfl rfl)
theorem ml_X11_12 : Cond.methodLink RX11 12 yX7_init ∈ WS := (inB1 79 rfl rfl)
theorem ml_X11_15 : Cond.methodLinkNest RX11 15 yX2_init "NightCarts" ∈ NW := (inN1 98 rfl rfl)
theorem ml_X11_20 : Cond.methodLinkNest RX11 20 yX0_init "NightCarts" ∈ NW := (inN1 142 rfl rfl)
theorem ml_X11_23 : Cond.methodLinkNest RX11 23 yX10_init "NightCarts" ∈ NW := (inN1 165 rfl rfl)
theorem ml_X11_42 : Cond.methodLinkNest RX11 42 yX3_init "NightCarts" ∈ NW := (inN1 190 rfl rfl)
theorem ml_X11_57 : Cond.methodLink RX11 57 yX5_init ∈ WS := (inB1 202 rfl rfl)
theorem ml_X11_66 : Cond.methodLink RX11 66 yX8_init ∈ WS := (inB2 18 rfl rfl)
theorem ml_X11_75 : Cond.methodLink RX11 75 yX9_init ∈ WS := (inB2 40 rfl rfl)
theorem ml_X11_84 : Cond.methodLinkNest RX11 84 yX6_init "NightCarts" ∈ NW := (inN2 74 rfl rfl)
theorem ml_X11_91 : Cond.methodLinkNest RX11 91 yX4_init "NightCarts" ∈ NW := (inN2 102 rfl rfl)
theorem ml_X11_96 : Cond.methodLink RX11 96 yX11_isWithin ∈ WS := (inB2 166 rfl rfl)
theorem ml_X11_100 : Cond.methodLink RX11 100 yX1_tell ∈ WS := (inB2 169 rfl rfl)
theorem ml_X11_104 : Cond.methodLink RX11 104 yX11_cartAt ∈ WS := (inB2 178 rfl rfl)
theorem ml_X11_108 : Cond.methodLink RX11 108 yX0_tellRoom ∈ WS := (inB2 182 rfl rfl)
theorem ml_X11_112 : Cond.methodLink RX11 112 yX1_isTold ∈ WS := (inB2 190 rfl rfl)
theorem ml_X11_116 : Cond.methodLink RX11 116 yX1_deepen ∈ WS := (inB2 194 rfl rfl)
theorem ml_X11_120 : Cond.methodLink RX11 120 yX10_hasRoomFor ∈ WS := (inB2 210 rfl rfl)
theorem ml_X11_123 : Cond.methodLink RX11 123 yX10_addWord ∈ WS := (inB2 214 rfl rfl)
theorem ml_X11_126 : Cond.methodLink RX11 126 yX10_length ∈ WS := (inB2 218 rfl rfl)
theorem ml_X11_130 : Cond.methodLink RX11 130 yX10_holds ∈ WS := (inB2 226 rfl rfl)
theorem ml_X11_133 : Cond.methodLink RX11 133 yX10_open ∈ WS := (inB2 230 rfl rfl)
theorem ml_X11_136 : Cond.methodLink RX11 136 yX3_read ∈ WS := (inB2 238 rfl rfl)
theorem ml_X11_140 : Cond.methodLink RX11 140 yX10_isSound ∈ WS := (inB3 203 rfl rfl)
theorem ml_X11_144 : Cond.methodLink RX11 144 yX3_fresh ∈ WS := (inB3 204 rfl rfl)
theorem ml_X11_148 : Cond.methodLink RX11 148 yX2_takeOver ∈ WS := (inB3 208 rfl rfl)
theorem ml_X11_152 : Cond.methodLink RX11 152 yX10_clear ∈ WS := (inB3 215 rfl rfl)
theorem ml_X11_155 : Cond.methodLink RX11 155 yX7_read ∈ WS := (inB3 224 rfl rfl)
theorem ml_X11_158 : Cond.methodLink RX11 158 yX0_readStops ∈ WS := (inB4 30 rfl rfl)
theorem ml_X11_161 : Cond.methodLink RX11 161 yX0_takeStopsOf ∈ WS := (inB4 52 rfl rfl)
theorem ml_X11_165 : Cond.methodLink RX11 165 yX1_night ∈ WS := (inB4 73 rfl rfl)
theorem ml_X11_167 : Cond.methodLink RX11 167 yX11_sendCarts ∈ WS := (inB4 77 rfl rfl)
theorem ml_X11_170 : Cond.methodLink RX11 170 yX5_goThrough ∈ WS := (inB4 118 rfl rfl)
theorem ml_X11_173 : Cond.methodLink RX11 173 yX5_slept ∈ WS := (inB4 217 rfl rfl)
theorem ml_X11_176 : Cond.methodLink RX11 176 yX5_swept ∈ WS := (inB4 221 rfl rfl)
theorem ml_X11_179 : Cond.methodLink RX11 179 yX1_endNight ∈ WS := (inB4 225 rfl rfl)
theorem ml_X11_183 : Cond.methodLink RX11 183 yX11_canBeTried ∈ WS := (inB4 233 rfl rfl)
theorem ml_X11_186 : Cond.methodLink RX11 186 yX5_total ∈ WS := (inB4 237 rfl rfl)
theorem ml_X11_190 : Cond.methodLink RX11 190 yX5_depthOf ∈ WS := (inB5 1 rfl rfl)
theorem ml_X11_193 : Cond.methodLink RX11 193 yX5_loadOf ∈ WS := (inB5 2 rfl rfl)
theorem ml_X11_196 : Cond.methodLink RX11 196 yX5_lastMinuteOf ∈ WS := (inB5 6 rfl rfl)
theorem ml_X11_199 : Cond.methodLink RX11 199 yX7_between ∈ WS := (inB5 14 rfl rfl)
theorem ml_X11_202 : Cond.methodLink RX11 202 yX1_areTold ∈ WS := (inB5 19 rfl rfl)
theorem ml_X11_206 : Cond.methodLink RX11 206 yX11_hasBit ∈ WS := (inB5 29 rfl rfl)
theorem ml_X11_209 : Cond.methodLink RX11 209 yJ6_bitCount_0f7a4 ∈ WS := (inB5 32 rfl rfl)
theorem ml_X11_214 : Cond.methodLink RX11 214 yX8_find ∈ WS := (inB5 33 rfl rfl)
theorem ml_X11_217 : Cond.methodLink RX11 217 yX8_minutes ∈ WS := (inB5 61 rfl rfl)
theorem ml_X11_220 : Cond.methodLink RX11 220 yX8_streetAt ∈ WS := (inB5 65 rfl rfl)
theorem ml_X11_223 : Cond.methodLink RX11 223 yX9_choose ∈ WS := (inB5 74 rfl rfl)
theorem ml_X11_226 : Cond.methodLink RX11 226 yX9_spread ∈ WS := (inB5 79 rfl rfl)
theorem ml_X11_229 : Cond.methodLink RX11 229 yX9_least ∈ WS := (inB5 94 rfl rfl)
theorem ml_X11_232 : Cond.methodLink RX11 232 yX9_yardsFor ∈ WS := (inB5 98 rfl rfl)
theorem ml_X11_235 : Cond.methodLink RX11 235 yX9_findSleepful ∈ WS := (inB5 106 rfl rfl)
theorem ml_X11_239 : Cond.methodLink RX11 239 yX9_houses ∈ WS := (inB5 124 rfl rfl)
theorem ml_X11_242 : Cond.methodLink RX11 242 yX9_spent ∈ WS := (inB5 128 rfl rfl)
theorem ml_X11_245 : Cond.methodLink RX11 245 yX9_sleepingStreets ∈ WS := (inB5 132 rfl rfl)
theorem ml_X11_248 : Cond.methodLink RX11 248 yX1_toldStreets ∈ WS := (inB5 140 rfl rfl)
theorem ml_X11_251 : Cond.methodLink RX11 251 yX7_bestPit ∈ WS := (inB5 144 rfl rfl)
theorem ml_X11_255 : Cond.methodLink RX11 255 yX7_farthestFrom ∈ WS := (inB5 162 rfl rfl)
theorem ml_X11_258 : Cond.methodLink RX11 258 yX7_sumFrom ∈ WS := (inB5 163 rfl rfl)
theorem ml_X11_261 : Cond.methodLink RX11 261 yX7_countCuts ∈ WS := (inB5 168 rfl rfl)
theorem ml_X11_264 : Cond.methodLink RX11 264 yX7_firstCut ∈ WS := (inB5 183 rfl rfl)
theorem ml_X11_267 : Cond.methodLink RX11 267 yX1_depthOf ∈ WS := (inB5 195 rfl rfl)
theorem ml_X11_268 : Cond.methodLink RX11 268 yX5_sleepsThrough ∈ WS := (inB5 196 rfl rfl)
theorem ml_X11_271 : Cond.methodLink RX11 271 yX11_isToldCart ∈ WS := (inB4 91 rfl rfl)
theorem ml_X11_274 : Cond.methodLink RX11 274 yX11_sendOneCart ∈ WS := (inB5 204 rfl rfl)
theorem ml_X11_278 : Cond.methodLink RX11 278 yX9_reckonGains ∈ WS := (inB5 217 rfl rfl)
theorem ml_X11_281 : Cond.methodLink RX11 281 yX9_bestGainBeside ∈ WS := (inB5 226 rfl rfl)
theorem ml_X11_284 : Cond.methodLink RX11 284 yX9_gainOf ∈ WS := (inB5 230 rfl rfl)
theorem ml_X11_287 : Cond.methodLink RX11 287 yX11_partJobs ∈ WS := (inB5 239 rfl rfl)
theorem ml_X11_291 : Cond.methodLink RX11 291 yX10_sumOf ∈ WS := (inB6 37 rfl rfl)
theorem ml_X11_295 : Cond.methodLink RX11 295 yX11_matchBrides ∈ WS := (inB6 46 rfl rfl)
theorem ml_X11_298 : Cond.methodLink RX11 298 yX11_latestStart ∈ WS := (inB6 87 rfl rfl)
theorem ml_X11_301 : Cond.methodLink RX11 301 yX1_store ∈ WS := (inB6 101 rfl rfl)
theorem ml_X11_304 : Cond.methodLink RX11 304 yX1_restore ∈ WS := (inB6 110 rfl rfl)
theorem ml_X11_307 : Cond.methodLink RX11 307 yX10_pairAt ∈ WS := (inB6 92 rfl rfl)
theorem ml_X11_310 : Cond.methodLink RX11 310 yX0_stops ∈ WS := (inB6 122 rfl rfl)
theorem ml_X11_313 : Cond.methodLink RX11 313 yX0_room ∈ WS := (inB5 208 rfl rfl)
theorem ml_X11_316 : Cond.methodLink RX11 316 yX11_countOfStreet ∈ WS := (inB6 123 rfl rfl)
theorem ml_X11_319 : Cond.methodLink RX11 319 yX1_slept ∈ WS := (inB6 130 rfl rfl)
theorem ml_X11_320 : Cond.methodLink RX11 320 yX1_swept ∈ WS := (inB6 134 rfl rfl)
theorem ml_X11_321 : Cond.methodLink RX11 321 yX11_toldCarts ∈ WS := (inB6 138 rfl rfl)
theorem ml_X11_324 : Cond.methodLink RX11 324 yX2_clauses ∈ WS := (inB6 142 rfl rfl)
theorem ml_X11_327 : Cond.methodLink RX11 327 yX7_howMany ∈ WS := (inB6 143 rfl rfl)
theorem ml_X11_330 : Cond.methodLink RX11 330 yX0_isTold ∈ WS := (inB4 95 rfl rfl)
theorem ml_X11_332 : Cond.methodLink RX11 332 yX1_housesOf ∈ WS := (inB6 127 rfl rfl)
theorem ml_X11_335 : Cond.methodLink RX11 335 yX1_lampsOf ∈ WS := (inB6 128 rfl rfl)
theorem ml_X11_338 : Cond.methodLink RX11 338 yX1_starsOf ∈ WS := (inB6 129 rfl rfl)
theorem ml_X11_341 : Cond.methodLink RX11 341 yX5_prepare ∈ WS := (inB4 81 rfl rfl)
theorem ml_X11_344 : Cond.methodLink RX11 344 yX5_send ∈ WS := (inB4 99 rfl rfl)
theorem ml_X11_348 : Cond.methodLink RX11 348 yX0_planOneStop ∈ WS := (inB5 209 rfl rfl)
theorem ml_X11_351 : Cond.methodLink RX11 351 yX6_find ∈ WS := (inB6 3 rfl rfl)
theorem ml_X11_354 : Cond.methodLink RX11 354 yX6_longest ∈ WS := (inB6 24 rfl rfl)
theorem ml_X11_357 : Cond.methodLink RX11 357 yX6_cartOf ∈ WS := (inB6 28 rfl rfl)
theorem ml_X11_360 : Cond.methodLink RX11 360 yX10_at ∈ WS := (inB6 50 rfl rfl)
theorem ml_X11_363 : Cond.methodLink RX11 363 yX4_find ∈ WS := (inB6 51 rfl rfl)
theorem ml_X11_366 : Cond.methodLink RX11 366 yX4_missing ∈ WS := (inB6 70 rfl rfl)
theorem ml_X11_369 : Cond.methodLink RX11 369 yX4_placeFor ∈ WS := (inB6 74 rfl rfl)
theorem ml_X11_373 : Cond.methodLink RX11 373 Lib.Math.min.name ∈ WS := (inB6 96 rfl rfl)
theorem ml_X12_1 : Cond.methodLink RX12 1 objectInit ∈ WS := (inB6 152 rfl rfl)
theorem ml_X12_131 : Cond.methodLink RX12 131 yX12_laysWays ∈ WS := (inB6 153 rfl rfl)
theorem ml_X12_139 : Cond.methodLink RX12 139 yX12_has ∈ WS := (inB6 161 rfl rfl)
theorem ml_X12_146 : Cond.methodLink RX12 146 yX12_isStreet ∈ WS := (inB6 157 rfl rfl)
theorem ml_X12_151 : Cond.methodLink RX12 151 yX12_min ∈ WS := (inB6 165 rfl rfl)
theorem ml_X12_155 : Cond.methodLink RX12 155 yX12_in ∈ WS := (inB7 110 rfl rfl)
theorem ml_X12_162 : Cond.methodLink RX12 162 yX12_types ∈ WS := (inB7 125 rfl rfl)
theorem ml_X12_172 : Cond.methodLink RX12 172 yX12_here ∈ WS := (inB7 137 rfl rfl)
theorem ml_X12_179 : Cond.methodLink RX12 179 yX12_wrongAt ∈ WS := (inB7 144 rfl rfl)
theorem ml_X12_185 : Cond.methodLink RX12 185 yX12_isDigit ∈ WS := (inB7 161 rfl rfl)
theorem ml_X12_199 : Cond.methodLink RX12 199 yX12_waitTop ∈ WS := (inB7 183 rfl rfl)
theorem ml_X12_202 : Cond.methodLink RX12 202 yX12_notes ∈ WS := (inB7 169 rfl rfl)
theorem ml_X12_205 : Cond.methodLink RX12 205 yX12_opens ∈ WS := (inB7 156 rfl rfl)
theorem ml_X12_208 : Cond.methodLink RX12 208 yX12_readsNumber ∈ WS := (inB7 165 rfl rfl)
theorem ml_X12_211 : Cond.methodLink RX12 211 yX12_factOf ∈ WS := (inB7 173 rfl rfl)
theorem ml_X12_215 : Cond.methodLink RX12 215 yX12_readsFactor ∈ WS := (inB7 152 rfl rfl)
theorem ml_X12_218 : Cond.methodLink RX12 218 yX12_sumSign ∈ WS := (inB7 176 rfl rfl)
theorem ml_X12_221 : Cond.methodLink RX12 221 yX12_closesSums ∈ WS := (inB7 179 rfl rfl)
theorem ml_X12_225 : Cond.methodLink RX12 225 yX12_hasOpenSum ∈ WS := (inB7 187 rfl rfl)
theorem ml_X12_228 : Cond.methodLink RX12 228 yX12_readsSum ∈ WS := (inB7 148 rfl rfl)
theorem ml_X12_231 : Cond.methodLink RX12 231 yX12_endsPiece ∈ WS := (inB7 199 rfl rfl)
theorem ml_X12_234 : Cond.methodLink RX12 234 yX12_readsCompared ∈ WS := (inB7 195 rfl rfl)
theorem ml_X12_237 : Cond.methodLink RX12 237 yX12_lands ∈ WS := (inB7 203 rfl rfl)
theorem ml_X12_240 : Cond.methodLink RX12 240 yX12_jumps ∈ WS := (inB7 207 rfl rfl)
theorem ml_X12_243 : Cond.methodLink RX12 243 yX12_isClause ∈ WS := (inB7 141 rfl rfl)
theorem ml_X12_249 : Cond.methodLink RX12 249 yX12_readsCondition ∈ WS := (inB7 191 rfl rfl)
theorem ml_X12_252 : Cond.methodLink RX12 252 yX12_readsClause ∈ WS := (inB7 133 rfl rfl)
theorem ml_X12_255 : Cond.methodLink RX12 255 yX12_takes ∈ WS := (inB7 211 rfl rfl)
theorem ml_X12_261 : Cond.methodLink RX12 261 yX12_reckon ∈ WS := (inB8 42 rfl rfl)
theorem ml_X12_265 : Cond.methodLink RX12 265 yX12_comesTo ∈ WS := (inB8 38 rfl rfl)
theorem ml_X12_268 : Cond.methodLink RX12 268 yX12_feels ∈ WS := (inB8 30 rfl rfl)
theorem ml_X12_272 : Cond.methodLink RX12 272 yX12_byLaw ∈ WS := (inB8 34 rfl rfl)
theorem ml_X12_275 : Cond.methodLink RX12 275 yX12_isLetterHere ∈ WS := (inB7 223 rfl rfl)
theorem ml_X12_281 : Cond.methodLink RX12 281 yX12_readsTwo ∈ WS := (inB7 227 rfl rfl)
theorem ml_X12_284 : Cond.methodLink RX12 284 yX12_readsLine ∈ WS := (inB7 219 rfl rfl)
theorem ml_X12_287 : Cond.methodLink RX12 287 yX12_readsStop ∈ WS := (inB7 235 rfl rfl)
theorem ml_X12_290 : Cond.methodLink RX12 290 yX12_placeOf ∈ WS := (inB8 19 rfl rfl)
theorem ml_X12_293 : Cond.methodLink RX12 293 yX12_farOf ∈ WS := (inB8 22 rfl rfl)
theorem ml_X12_296 : Cond.methodLink RX12 296 yX12_canCome ∈ WS := (inB8 15 rfl rfl)
theorem ml_X12_305 : Cond.methodLink RX12 305 yX12_goesOn ∈ WS := (inB8 11 rfl rfl)
theorem ml_X12_308 : Cond.methodLink RX12 308 yX12_byStreet ∈ WS := (inB8 49 rfl rfl)
theorem ml_X12_317 : Cond.methodLink RX12 317 yX12_isCart ∈ WS := (inB8 7 rfl rfl)
theorem ml_X12_323 : Cond.methodLink RX12 323 yX12_arrives ∈ WS := (inB8 26 rfl rfl)
theorem ml_X12_326 : Cond.methodLink RX12 326 yX12_hourEnds ∈ WS := (inB8 45 rfl rfl)
theorem ml_X12_329 : Cond.methodLink RX12 329 yX12_goesNight ∈ WS := (inB8 3 rfl rfl)
theorem ml_X12_332 : Cond.methodLink RX12 332 yX12_yardsAll ∈ WS := (inB8 53 rfl rfl)
theorem ml_X12_335 : Cond.methodLink RX12 335 yX12_copies ∈ WS := (inB8 61 rfl rfl)
theorem ml_X12_339 : Cond.methodLink RX12 339 yX12_lastOf ∈ WS := (inB8 64 rfl rfl)
theorem ml_X12_342 : Cond.methodLink RX12 342 yX12_sleptBy ∈ WS := (inB8 72 rfl rfl)
theorem ml_X12_345 : Cond.methodLink RX12 345 yX12_sleepsAll ∈ WS := (inB8 80 rfl rfl)
theorem ml_X12_348 : Cond.methodLink RX12 348 yX12_bits ∈ WS := (inB8 96 rfl rfl)
theorem ml_X12_351 : Cond.methodLink RX12 351 yX12_laysWho ∈ WS := (inB8 99 rfl rfl)
theorem ml_X12_354 : Cond.methodLink RX12 354 yX12_codesFor ∈ WS := (inB8 103 rfl rfl)
theorem ml_X12_357 : Cond.methodLink RX12 357 yX12_readsRow ∈ WS := (inB8 106 rfl rfl)
theorem ml_X12_360 : Cond.methodLink RX12 360 yX12_roundBy ∈ WS := (inB8 110 rfl rfl)
theorem ml_X12_363 : Cond.methodLink RX12 363 yX12_max ∈ WS := (inB8 122 rfl rfl)
theorem ml_X12_366 : Cond.methodLink RX12 366 yX12_needFor ∈ WS := (inB8 118 rfl rfl)
theorem ml_X12_369 : Cond.methodLink RX12 369 yX12_laysReach ∈ WS := (inB8 133 rfl rfl)
theorem ml_X12_372 : Cond.methodLink RX12 372 yX12_bestBy ∈ WS := (inB8 137 rfl rfl)
theorem ml_X12_376 : Cond.methodLink RX12 376 yX12_spared ∈ WS := (inB8 149 rfl rfl)
theorem ml_X12_379 : Cond.methodLink RX12 379 yX12_longestBy ∈ WS := (inB8 157 rfl rfl)
theorem ml_X12_382 : Cond.methodLink RX12 382 yX12_missingBy ∈ WS := (inB8 169 rfl rfl)
theorem ml_X12_389 : Cond.methodLink RX12 389 yX12_roadMany ∈ WS := (inB8 197 rfl rfl)
theorem ml_X12_392 : Cond.methodLink RX12 392 yX12_streetIs ∈ WS := (inB8 201 rfl rfl)
theorem ml_X2_3 : Cond.methodLink RX2 3 objectInit ∈ WS := (inB1 101 rfl rfl)
theorem ml_X2_43 : Cond.methodLinkNest RX2 43 yX11_isWithin "NightCarts" ∈ NW := (inN3 194 rfl rfl)
theorem ml_X2_47 : Cond.methodLink RX2 47 arraycopyName ∈ WS := (inB3 212 rfl rfl)
theorem ml_X2_53 : Cond.methodLink RX2 53 yX1_housesOf ∈ WS := (inB4 159 rfl rfl)
theorem ml_X2_59 : Cond.methodLink RX2 59 yX1_starsOf ∈ WS := (inB4 163 rfl rfl)
theorem ml_X2_62 : Cond.methodLink RX2 62 yX2_reckon ∈ WS := (inB4 171 rfl rfl)
theorem ml_X2_66 : Cond.methodLink RX2 66 Lib.Math.min.name ∈ WS := (inB4 192 rfl rfl)
theorem ml_X2_71 : Cond.methodLink RX2 71 Lib.Math.max.name ∈ WS := (inB4 187 rfl rfl)
theorem ml_X2_81 : Cond.methodLink RX2 81 yX2_push ∈ WS := (inB4 175 rfl rfl)
theorem ml_X2_85 : Cond.methodLink RX2 85 yX2_factAt ∈ WS := (inB4 179 rfl rfl)
theorem ml_X2_88 : Cond.methodLink RX2 88 yX2_pop ∈ WS := (inB4 183 rfl rfl)
theorem ml_X2_92 : Cond.methodLink RX2 92 yX2_join ∈ WS := (inB4 188 rfl rfl)
theorem ml_X3_3 : Cond.methodLink RX3 3 objectInit ∈ WS := (inB1 193 rfl rfl)
theorem ml_X3_11 : Cond.methodLinkNest RX3 11 yX2_init "NightCarts" ∈ NW := (inN1 195 rfl rfl)
theorem ml_X3_18 : Cond.methodLink RX3 18 yX2_clear ∈ WS := (inB3 2 rfl rfl)
theorem ml_X3_21 : Cond.methodLink RX3 21 yX10_isSound ∈ WS := (inB3 6 rfl rfl)
theorem ml_X3_27 : Cond.methodLink RX3 27 yX3_readClause ∈ WS := (inB3 10 rfl rfl)
theorem ml_X3_31 : Cond.methodLink RX3 31 yX10_isAtEnd ∈ WS := (inB3 78 rfl rfl)
theorem ml_X3_34 : Cond.methodLink RX3 34 yX10_need ∈ WS := (inB3 54 rfl rfl)
theorem ml_X3_38 : Cond.methodLink RX3 38 yX2_clauses ∈ WS := (inB3 22 rfl rfl)
theorem ml_X3_42 : Cond.methodLink RX3 42 yX10_fault ∈ WS := (inB3 199 rfl rfl)
theorem ml_X3_45 : Cond.methodLink RX3 45 yX10_sign ∈ WS := (inB3 14 rfl rfl)
theorem ml_X3_48 : Cond.methodLink RX3 48 yX10_fail ∈ WS := (inB3 18 rfl rfl)
theorem ml_X3_51 : Cond.methodLink RX3 51 yX10_step ∈ WS := (inB3 26 rfl rfl)
theorem ml_X3_54 : Cond.methodLink RX3 54 yX2_length ∈ WS := (inB3 30 rfl rfl)
theorem ml_X3_57 : Cond.methodLink RX3 57 yX3_readSum ∈ WS := (inB3 34 rfl rfl)
theorem ml_X3_61 : Cond.methodLink RX3 61 yX3_readChoice ∈ WS := (inB3 170 rfl rfl)
theorem ml_X3_64 : Cond.methodLink RX3 64 yX2_addClause ∈ WS := (inB3 195 rfl rfl)
theorem ml_X3_68 : Cond.methodLink RX3 68 yX3_readProduct ∈ WS := (inB3 38 rfl rfl)
theorem ml_X3_71 : Cond.methodLink RX3 71 yX10_sees ∈ WS := (inB3 46 rfl rfl)
theorem ml_X3_75 : Cond.methodLink RX3 75 yX2_addSign ∈ WS := (inB3 70 rfl rfl)
theorem ml_X3_79 : Cond.methodLink RX3 79 yX3_readFactor ∈ WS := (inB3 42 rfl rfl)
theorem ml_X3_82 : Cond.methodLink RX3 82 yX3_seesProductSign ∈ WS := (inB3 167 rfl rfl)
theorem ml_X3_86 : Cond.methodLink RX3 86 yX3_opens ∈ WS := (inB3 50 rfl rfl)
theorem ml_X3_90 : Cond.methodLink RX3 90 yX10_seesDigit ∈ WS := (inB3 61 rfl rfl)
theorem ml_X3_93 : Cond.methodLink RX3 93 yX10_readNumber ∈ WS := (inB3 65 rfl rfl)
theorem ml_X3_97 : Cond.methodLink RX3 97 yX3_readFact ∈ WS := (inB3 74 rfl rfl)
theorem ml_X3_102 : Cond.methodLink RX3 102 yJ0_indexOf_0f7a4 ∈ WS := (inB3 83 rfl rfl)
theorem ml_X3_107 : Cond.methodLink RX3 107 yX3_readPart ∈ WS := (inB3 174 rfl rfl)
theorem ml_X3_110 : Cond.methodLink RX3 110 yX2_leadToEnd ∈ WS := (inB3 190 rfl rfl)
theorem ml_X3_113 : Cond.methodLink RX3 113 yX3_readTest ∈ WS := (inB3 178 rfl rfl)
theorem ml_X3_116 : Cond.methodLink RX3 116 yX3_readNegation ∈ WS := (inB3 182 rfl rfl)
theorem ml_X3_119 : Cond.methodLink RX3 119 yX3_readComparison ∈ WS := (inB3 186 rfl rfl)
theorem ml_X4_3 : Cond.methodLink RX4 3 objectInit ∈ WS := (inB2 105 rfl rfl)
theorem ml_X4_28 : Cond.methodLinkNest RX4 28 yX11_isWithin "NightCarts" ∈ NW := (inN6 78 rfl rfl)
theorem ml_X4_32 : Cond.methodLink RX4 32 Lib.Math.min.name ∈ WS := (inB6 55 rfl rfl)
theorem ml_X4_41 : Cond.methodLink RX4 41 yX10_at ∈ WS := (inB6 56 rfl rfl)
theorem ml_X4_47 : Cond.methodLink RX4 47 yX1_starsOf ∈ WS := (inB6 57 rfl rfl)
theorem ml_X4_55 : Cond.methodLink RX4 55 yX4_match ∈ WS := (inB6 59 rfl rfl)
theorem ml_X4_59 : Cond.methodLink RX4 59 arraycopyName ∈ WS := (inB6 63 rfl rfl)
theorem ml_X4_65 : Cond.methodLinkNest RX4 65 yX11_hasBit "NightCarts" ∈ NW := (inN6 64 rfl rfl)
theorem ml_X4_69 : Cond.methodLink RX4 69 yX4_matchWith ∈ WS := (inB6 65 rfl rfl)
theorem ml_X4_73 : Cond.methodLink RX4 73 Lib.Math.max.name ∈ WS := (inB6 69 rfl rfl)
theorem ml_X5_5 : Cond.methodLink RX5 5 objectInit ∈ WS := (inB1 205 rfl rfl)
theorem ml_X5_69 : Cond.methodLinkNest RX5 69 yX11_isWithin "NightCarts" ∈ NW := (inN4 103 rfl rfl)
theorem ml_X5_74 : Cond.methodLink RX5 74 yX1_copyDepths ∈ WS := (inB4 85 rfl rfl)
theorem ml_X5_80 : Cond.methodLink RX5 80 yX5_goOn ∈ WS := (inB4 104 rfl rfl)
theorem ml_X5_84 : Cond.methodLink RX5 84 yX5_isIdle ∈ WS := (inB4 122 rfl rfl)
theorem ml_X5_88 : Cond.methodLink RX5 88 yX5_serveBefore ∈ WS := (inB4 130 rfl rfl)
theorem ml_X5_92 : Cond.methodLink RX5 92 yX1_isTold ∈ WS := (inB4 108 rfl rfl)
theorem ml_X5_96 : Cond.methodLink RX5 96 yX5_sleepsAfter ∈ WS := (inB4 208 rfl rfl)
theorem ml_X5_100 : Cond.methodLink RX5 100 yX1_housesOf ∈ WS := (inB4 216 rfl rfl)
theorem ml_X5_104 : Cond.methodLink RX5 104 yX5_earliestCart ∈ WS := (inB4 126 rfl rfl)
theorem ml_X5_108 : Cond.methodLink RX5 108 yX5_depthOf ∈ WS := (inB4 151 rfl rfl)
theorem ml_X5_111 : Cond.methodLink RX5 111 yX1_night ∈ WS := (inB4 138 rfl rfl)
theorem ml_X5_114 : Cond.methodLink RX5 114 yX2_regardTime ∈ WS := (inB4 139 rfl rfl)
theorem ml_X5_119 : Cond.methodLink RX5 119 yX5_lose ∈ WS := (inB4 212 rfl rfl)
theorem ml_X5_123 : Cond.methodLink RX5 123 yX5_askOf ∈ WS := (inB4 143 rfl rfl)
theorem ml_X5_126 : Cond.methodLink RX5 126 Lib.Math.min.name ∈ WS := (inB4 199 rfl rfl)
theorem ml_X5_131 : Cond.methodLink RX5 131 yX1_lampsOf ∈ WS := (inB4 147 rfl rfl)
theorem ml_X5_134 : Cond.methodLink RX5 134 yX2_regardStreet ∈ WS := (inB4 155 rfl rfl)
theorem ml_X5_138 : Cond.methodLink RX5 138 yX2_ask ∈ WS := (inB4 167 rfl rfl)
theorem ml_X5_141 : Cond.methodLink RX5 141 yX5_serve ∈ WS := (inB4 134 rfl rfl)
theorem ml_X5_144 : Cond.methodLink RX5 144 yX0_streetOf ∈ WS := (inB4 113 rfl rfl)
theorem ml_X5_147 : Cond.methodLink RX5 147 yX0_takesOnAt ∈ WS := (inB4 193 rfl rfl)
theorem ml_X5_150 : Cond.methodLink RX5 150 yX0_yardsOf ∈ WS := (inB4 194 rfl rfl)
theorem ml_X5_153 : Cond.methodLink RX5 153 yX0_room ∈ WS := (inB4 195 rfl rfl)
theorem ml_X5_156 : Cond.methodLink RX5 156 yX5_takeOn ∈ WS := (inB4 200 rfl rfl)
theorem ml_X5_159 : Cond.methodLink RX5 159 yX5_leave ∈ WS := (inB4 204 rfl rfl)
theorem ml_X5_163 : Cond.methodLink RX5 163 yX0_stops ∈ WS := (inB4 109 rfl rfl)
theorem ml_X5_165 : Cond.methodLink RX5 165 yX7_between ∈ WS := (inB4 114 rfl rfl)
theorem ml_X6_3 : Cond.methodLink RX6 3 objectInit ∈ WS := (inB2 77 rfl rfl)
theorem ml_X6_28 : Cond.methodLinkNest RX6 28 yX11_isWithin "NightCarts" ∈ NW := (inN6 32 rfl rfl)
theorem ml_X6_32 : Cond.methodLink RX6 32 Lib.Math.min.name ∈ WS := (inB6 7 rfl rfl)
theorem ml_X6_44 : Cond.methodLink RX6 44 yX10_at ∈ WS := (inB6 8 rfl rfl)
theorem ml_X6_53 : Cond.methodLink RX6 53 yX6_give ∈ WS := (inB6 10 rfl rfl)
theorem ml_X6_57 : Cond.methodLink RX6 57 yX6_keepRow ∈ WS := (inB6 14 rfl rfl)
theorem ml_X6_60 : Cond.methodLink RX6 60 yX6_giveTo ∈ WS := (inB6 20 rfl rfl)
theorem ml_X6_64 : Cond.methodLink RX6 64 Lib.Math.max.name ∈ WS := (inB6 18 rfl rfl)
theorem ml_X6_67 : Cond.methodLink RX6 67 arraycopyName ∈ WS := (inB6 19 rfl rfl)
theorem ml_X7_3 : Cond.methodLink RX7 3 objectInit ∈ WS := (inB1 82 rfl rfl)
theorem ml_X7_25 : Cond.methodLink RX7 25 yX10_isSound ∈ WS := (inB3 228 rfl rfl)
theorem ml_X7_31 : Cond.methodLink RX7 31 yX7_readLine ∈ WS := (inB3 229 rfl rfl)
theorem ml_X7_35 : Cond.methodLink RX7 35 yX10_isAtEnd ∈ WS := (inB4 14 rfl rfl)
theorem ml_X7_38 : Cond.methodLink RX7 38 yX10_need ∈ WS := (inB4 15 rfl rfl)
theorem ml_X7_42 : Cond.methodLink RX7 42 yX10_fault ∈ WS := (inB4 16 rfl rfl)
theorem ml_X7_46 : Cond.methodLink RX7 46 arraycopyName ∈ WS := (inB4 17 rfl rfl)
theorem ml_X7_52 : Cond.methodLink RX7 52 yX7_findWays ∈ WS := (inB4 18 rfl rfl)
theorem ml_X7_55 : Cond.methodLink RX7 55 yX10_sign ∈ WS := (inB3 233 rfl rfl)
theorem ml_X7_58 : Cond.methodLink RX7 58 yX10_seesStreet ∈ WS := (inB3 234 rfl rfl)
theorem ml_X7_61 : Cond.methodLink RX7 61 yX10_fail ∈ WS := (inB3 238 rfl rfl)
theorem ml_X7_64 : Cond.methodLink RX7 64 yX7_readStreet ∈ WS := (inB3 239 rfl rfl)
theorem ml_X7_68 : Cond.methodLink RX7 68 yX1_isTold ∈ WS := (inB4 3 rfl rfl)
theorem ml_X7_74 : Cond.methodLink RX7 74 yX10_place ∈ WS := (inB4 5 rfl rfl)
theorem ml_X7_77 : Cond.methodLink RX7 77 yX10_readNumber ∈ WS := (inB4 9 rfl rfl)
theorem ml_X7_81 : Cond.methodLink RX7 81 yX10_failAt ∈ WS := (inB4 10 rfl rfl)
theorem ml_X7_85 : Cond.methodLink RX7 85 yX10_step ∈ WS := (inB4 4 rfl rfl)
theorem ml_X7_88 : Cond.methodLink RX7 88 yX7_shortenFrom ∈ WS := (inB4 22 rfl rfl)
theorem ml_X7_91 : Cond.methodLink RX7 91 yX7_between ∈ WS := (inB5 152 rfl rfl)
theorem ml_X7_95 : Cond.methodLink RX7 95 Lib.Math.max.name ∈ WS := (inB5 157 rfl rfl)
theorem ml_X7_100 : Cond.methodLink RX7 100 yX7_reachedFrom ∈ WS := (inB5 148 rfl rfl)
theorem ml_X7_103 : Cond.methodLink RX7 103 yX7_farthestFrom ∈ WS := (inB5 153 rfl rfl)
theorem ml_X7_106 : Cond.methodLink RX7 106 yX7_sumFrom ∈ WS := (inB5 158 rfl rfl)
theorem ml_X7_109 : Cond.methodLink RX7 109 yX7_isCut ∈ WS := (inB5 172 rfl rfl)
theorem ml_X7_112 : Cond.methodLinkNest RX7 112 yX11_isWithin "NightCarts" ∈ NW := (inN5 176 rfl rfl)
theorem ml_X7_116 : Cond.methodLinkNest RX7 116 yX11_hasBit "NightCarts" ∈ NW := (inN5 177 rfl rfl)
theorem ml_X7_120 : Cond.methodLink RX7 120 yX7_neighboursOf ∈ WS := (inB5 178 rfl rfl)
theorem ml_X7_124 : Cond.methodLink RX7 124 Lib.Math.min.name ∈ WS := (inB5 182 rfl rfl)
theorem ml_X8_3 : Cond.methodLink RX8 3 objectInit ∈ WS := (inB2 21 rfl rfl)
theorem ml_X8_29 : Cond.methodLinkNest RX8 29 yX11_hasBit "NightCarts" ∈ NW := (inN5 37 rfl rfl)
theorem ml_X8_33 : Cond.methodLink RX8 33 yX7_between ∈ WS := (inB5 38 rfl rfl)
theorem ml_X8_39 : Cond.methodLink RX8 39 yX8_leastFrom ∈ WS := (inB5 39 rfl rfl)
theorem ml_X8_42 : Cond.methodLink RX8 42 yX8_writeRow ∈ WS := (inB5 53 rfl rfl)
theorem ml_X8_45 : Cond.methodLinkNest RX8 45 yX11_isWithin "NightCarts" ∈ NW := (inN5 69 rfl rfl)
theorem ml_X8_49 : Cond.methodLink RX8 49 yX8_minutesBetween ∈ WS := (inB5 43 rfl rfl)
theorem ml_X8_55 : Cond.methodLink RX8 55 yX8_minutesOver ∈ WS := (inB5 48 rfl rfl)
theorem ml_X8_59 : Cond.methodLink RX8 59 Lib.Math.min.name ∈ WS := (inB5 52 rfl rfl)
theorem ml_X8_64 : Cond.methodLink RX8 64 yX8_firstThatMeets ∈ WS := (inB5 57 rfl rfl)
theorem ml_X9_3 : Cond.methodLink RX9 3 objectInit ∈ WS := (inB2 43 rfl rfl)
theorem ml_X9_29 : Cond.methodLinkNest RX9 29 yX11_hasBit "NightCarts" ∈ NW := (inN5 78 rfl rfl)
theorem ml_X9_36 : Cond.methodLink RX9 36 yX9_neededFor ∈ WS := (inB5 83 rfl rfl)
theorem ml_X9_40 : Cond.methodLink RX9 40 yX9_greatestLevel ∈ WS := (inB5 89 rfl rfl)
theorem ml_X9_43 : Cond.methodLink RX9 43 yX1_depthOf ∈ WS := (inB5 87 rfl rfl)
theorem ml_X9_48 : Cond.methodLink RX9 48 Lib.Math.max.name ∈ WS := (inB5 88 rfl rfl)
theorem ml_X9_54 : Cond.methodLink RX9 54 Lib.Math.min.name ∈ WS := (inB5 93 rfl rfl)
theorem ml_X9_66 : Cond.methodLink RX9 66 yX9_missingToSleep ∈ WS := (inB5 110 rfl rfl)
theorem ml_X9_70 : Cond.methodLink RX9 70 yX9_weigh ∈ WS := (inB5 119 rfl rfl)
theorem ml_X9_74 : Cond.methodLink RX9 74 yX1_night ∈ WS := (inB5 114 rfl rfl)
theorem ml_X9_78 : Cond.methodLink RX9 78 yX2_regardTime ∈ WS := (inB5 115 rfl rfl)
theorem ml_X9_84 : Cond.methodLink RX9 84 yX1_lampsOf ∈ WS := (inB5 116 rfl rfl)
theorem ml_X9_87 : Cond.methodLink RX9 87 yX2_regardStreet ∈ WS := (inB5 117 rfl rfl)
theorem ml_X9_91 : Cond.methodLink RX9 91 yX2_ask ∈ WS := (inB5 118 rfl rfl)
theorem ml_X9_94 : Cond.methodLink RX9 94 yX1_housesOf ∈ WS := (inB5 123 rfl rfl)
theorem ml_X9_97 : Cond.methodLink RX9 97 yX1_isTold ∈ WS := (inB5 221 rfl rfl)
theorem ml_X9_101 : Cond.methodLink RX9 101 yX9_wastedBy ∈ WS := (inB5 222 rfl rfl)
theorem ml_X9_105 : Cond.methodLinkNest RX9 105 yX11_isWithin "NightCarts" ∈ NW := (inN5 234 rfl rfl)
theorem kc_J6_265 : Cond.constant RJ6 265 (Int32.ofInt 1431655765) ∈ WS := (inB5 26 rfl rfl)
theorem kc_J6_266 : Cond.constant RJ6 266 (Int32.ofInt 858993459) ∈ WS := (inB5 27 rfl rfl)
theorem kc_J6_267 : Cond.constant RJ6 267 (Int32.ofInt 252645135) ∈ WS := (inB5 28 rfl rfl)
theorem kc_X11_372 : Cond.constant RX11 372 (Int32.ofInt 2147483647) ∈ WS := (inB6 91 rfl rfl)
theorem kc_X12_150 : Cond.constant RX12 150 (Int32.ofInt 1000000) ∈ WS := (inB6 164 rfl rfl)
theorem kc_X12_192 : Cond.constant RX12 192 (Int32.ofInt 1048576) ∈ WS := (inB7 160 rfl rfl)
theorem kc_X4_54 : Cond.constant RX4 54 (Int32.ofInt 2147483647) ∈ WS := (inB6 58 rfl rfl)
theorem kc_X5_73 : Cond.constant RX5 73 (Int32.ofInt 2147483647) ∈ WS := (inB4 90 rfl rfl)
theorem kc_X6_52 : Cond.constant RX6 52 (Int32.ofInt 2147483647) ∈ WS := (inB6 9 rfl rfl)
theorem kc_X8_54 : Cond.constant RX8 54 (Int32.ofInt 2147483647) ∈ WS := (inB5 47 rfl rfl)
theorem cb_X0_isTold : CBv M_X0_isTold 0 0 := ⟨⟨(inB4 98 rfl rfl), in_X0, nh_X0.1, nh_X0.2, pd_3, by decide⟩, (inB4 96 rfl rfl), (inB4 97 rfl rfl), TX0, 5, rfl⟩
theorem cb_X0_room : CBv M_X0_room 0 0 := ⟨⟨(inB4 198 rfl rfl), in_X0, nh_X0.1, nh_X0.2, pd_0, by decide⟩, (inB4 196 rfl rfl), (inB4 197 rfl rfl), TX0, 5, rfl⟩
theorem cb_X0_tellRoom : CBv M_X0_tellRoom 0 1 := ⟨⟨(inB2 185 rfl rfl), in_X0, nh_X0.1, nh_X0.2, pd_6, by decide⟩, (inB2 183 rfl rfl), (inB2 184 rfl rfl), TX0, 5, rfl⟩
theorem cb_X0_stops : CBv M_X0_stops 0 0 := ⟨⟨(inB4 112 rfl rfl), in_X0, nh_X0.1, nh_X0.2, pd_0, by decide⟩, (inB4 110 rfl rfl), (inB4 111 rfl rfl), TX0, 5, rfl⟩
theorem cb_X0_streetOf : CBv M_X0_streetOf 0 1 := ⟨⟨(inB4 64 rfl rfl), in_X0, nh_X0.1, nh_X0.2, pd_4, by decide⟩, (inB4 62 rfl rfl), (inB4 63 rfl rfl), TX0, 5, rfl⟩
theorem cb_X0_yardsOf : CBv M_X0_yardsOf 0 1 := ⟨⟨(inB4 68 rfl rfl), in_X0, nh_X0.1, nh_X0.2, pd_4, by decide⟩, (inB4 66 rfl rfl), (inB4 67 rfl rfl), TX0, 5, rfl⟩
theorem cb_X0_takesOnAt : CBv M_X0_takesOnAt 0 1 := ⟨⟨(inB4 59 rfl rfl), in_X0, nh_X0.1, nh_X0.2, pd_7, by decide⟩, (inB4 57 rfl rfl), (inB4 58 rfl rfl), TX0, 5, rfl⟩
theorem cb_X0_readStops : CBv M_X0_readStops 0 1 := ⟨⟨(inB4 33 rfl rfl), in_X0, nh_X0.1, nh_X0.2, pd_29, by decide⟩, (inB4 31 rfl rfl), (inB4 32 rfl rfl), TX0, 5, rfl⟩
theorem cb_X0_readStop : CBv M_X0_readStop 0 1 := ⟨⟨(inB4 38 rfl rfl), in_X0, nh_X0.1, nh_X0.2, pd_30, by decide⟩, (inB4 37 rfl rfl), (inP2 0 rfl), TX0, 5, rfl⟩
theorem cb_X0_addStop : CBv M_X0_addStop 0 3 := ⟨⟨(inB4 48 rfl rfl), in_X0, nh_X0.1, nh_X0.2, pd_40, by decide⟩, (inB4 47 rfl rfl), (inP2 1 rfl), TX0, 5, rfl⟩
theorem cb_X0_planOneStop : CBv M_X0_planOneStop 0 2 := ⟨⟨(inB5 212 rfl rfl), in_X0, nh_X0.1, nh_X0.2, pd_9, by decide⟩, (inB5 210 rfl rfl), (inB5 211 rfl rfl), TX0, 5, rfl⟩
theorem cb_X0_takeStopsOf : CBv M_X0_takeStopsOf 0 1 := ⟨⟨(inB4 55 rfl rfl), in_X0, nh_X0.1, nh_X0.2, pd_22, by decide⟩, (inB4 53 rfl rfl), (inB4 54 rfl rfl), TX0, 5, rfl⟩
theorem cb_X1_isTold : CBv M_X1_isTold 1 1 := ⟨⟨(inB2 193 rfl rfl), in_X1, nh_X1.1, nh_X1.2, pd_7, by decide⟩, (inB2 191 rfl rfl), (inB2 192 rfl rfl), TX1, 13, rfl⟩
theorem cb_X1_areTold : CBv M_X1_areTold 1 2 := ⟨⟨(inB5 22 rfl rfl), in_X1, nh_X1.1, nh_X1.2, pd_10, by decide⟩, (inB5 20 rfl rfl), (inB5 21 rfl rfl), TX1, 13, rfl⟩
theorem cb_X1_toldStreets : CBv M_X1_toldStreets 1 0 := ⟨⟨(inB5 143 rfl rfl), in_X1, nh_X1.1, nh_X1.2, pd_0, by decide⟩, (inB5 141 rfl rfl), (inB5 142 rfl rfl), TX1, 13, rfl⟩
theorem cb_X1_tell : CBv M_X1_tell 1 4 := ⟨⟨(inB2 172 rfl rfl), in_X1, nh_X1.1, nh_X1.2, pd_15, by decide⟩, (inB2 170 rfl rfl), (inB2 171 rfl rfl), TX1, 13, rfl⟩
theorem cb_X1_housesOf : CBv M_X1_housesOf 1 1 := ⟨⟨(inB4 162 rfl rfl), in_X1, nh_X1.1, nh_X1.2, pd_4, by decide⟩, (inB4 160 rfl rfl), (inB4 161 rfl rfl), TX1, 13, rfl⟩
theorem cb_X1_lampsOf : CBv M_X1_lampsOf 1 1 := ⟨⟨(inB4 150 rfl rfl), in_X1, nh_X1.1, nh_X1.2, pd_4, by decide⟩, (inB4 148 rfl rfl), (inB4 149 rfl rfl), TX1, 13, rfl⟩
theorem cb_X1_starsOf : CBv M_X1_starsOf 1 1 := ⟨⟨(inB4 166 rfl rfl), in_X1, nh_X1.1, nh_X1.2, pd_4, by decide⟩, (inB4 164 rfl rfl), (inB4 165 rfl rfl), TX1, 13, rfl⟩
theorem cb_X1_depthOf : CBv M_X1_depthOf 1 1 := ⟨⟨(inB2 205 rfl rfl), in_X1, nh_X1.1, nh_X1.2, pd_4, by decide⟩, (inB2 203 rfl rfl), (inB2 204 rfl rfl), TX1, 13, rfl⟩
theorem cb_X1_deepen : CBv M_X1_deepen 1 2 := ⟨⟨(inB2 197 rfl rfl), in_X1, nh_X1.1, nh_X1.2, pd_8, by decide⟩, (inB2 195 rfl rfl), (inB2 196 rfl rfl), TX1, 13, rfl⟩
theorem cb_X1_copyDepths : CBv M_X1_copyDepths 1 1 := ⟨⟨(inB4 88 rfl rfl), in_X1, nh_X1.1, nh_X1.2, pd_42, by decide⟩, (inB4 86 rfl rfl), (inB4 87 rfl rfl), TX1, 13, rfl⟩
theorem cb_X1_night : CBv M_X1_night 1 0 := ⟨⟨(inB4 76 rfl rfl), in_X1, nh_X1.1, nh_X1.2, pd_0, by decide⟩, (inB4 74 rfl rfl), (inB4 75 rfl rfl), TX1, 13, rfl⟩
theorem cb_X1_slept : CBv M_X1_slept 1 0 := ⟨⟨(inB6 133 rfl rfl), in_X1, nh_X1.1, nh_X1.2, pd_0, by decide⟩, (inB6 131 rfl rfl), (inB6 132 rfl rfl), TX1, 13, rfl⟩
theorem cb_X1_swept : CBv M_X1_swept 1 0 := ⟨⟨(inB6 137 rfl rfl), in_X1, nh_X1.1, nh_X1.2, pd_0, by decide⟩, (inB6 135 rfl rfl), (inB6 136 rfl rfl), TX1, 13, rfl⟩
theorem cb_X1_endNight : CBv M_X1_endNight 1 2 := ⟨⟨(inB4 228 rfl rfl), in_X1, nh_X1.1, nh_X1.2, pd_9, by decide⟩, (inB4 226 rfl rfl), (inB4 227 rfl rfl), TX1, 13, rfl⟩
theorem cb_X1_store : CBv M_X1_store 1 0 := ⟨⟨(inB6 104 rfl rfl), in_X1, nh_X1.1, nh_X1.2, pd_0, by decide⟩, (inB6 102 rfl rfl), (inB6 103 rfl rfl), TX1, 13, rfl⟩
theorem cb_X1_restore : CBv M_X1_restore 1 0 := ⟨⟨(inB6 113 rfl rfl), in_X1, nh_X1.1, nh_X1.2, pd_3, by decide⟩, (inB6 111 rfl rfl), (inB6 112 rfl rfl), TX1, 13, rfl⟩
theorem cb_X2_clauses : CBv M_X2_clauses 2 0 := ⟨⟨(inB3 25 rfl rfl), in_X2, nh_X2.1, nh_X2.2, pd_0, by decide⟩, (inB3 23 rfl rfl), (inB3 24 rfl rfl), TX2, 12, rfl⟩
theorem cb_X2_length : CBv M_X2_length 2 0 := ⟨⟨(inB3 33 rfl rfl), in_X2, nh_X2.1, nh_X2.2, pd_0, by decide⟩, (inB3 31 rfl rfl), (inB3 32 rfl rfl), TX2, 12, rfl⟩
theorem cb_X2_clear : CBv M_X2_clear 2 0 := ⟨⟨(inB3 5 rfl rfl), in_X2, nh_X2.1, nh_X2.2, pd_2, by decide⟩, (inB3 3 rfl rfl), (inB3 4 rfl rfl), TX2, 12, rfl⟩
theorem cb_X2_addClause : CBv M_X2_addClause 2 3 := ⟨⟨(inB3 198 rfl rfl), in_X2, nh_X2.1, nh_X2.2, pd_12, by decide⟩, (inB3 196 rfl rfl), (inB3 197 rfl rfl), TX2, 12, rfl⟩
theorem cb_X2_addSign : CBv M_X2_addSign 2 2 := ⟨⟨(inB3 73 rfl rfl), in_X2, nh_X2.1, nh_X2.2, pd_9, by decide⟩, (inB3 71 rfl rfl), (inB3 72 rfl rfl), TX2, 12, rfl⟩
theorem cb_X2_leadToEnd : CBv M_X2_leadToEnd 2 1 := ⟨⟨(inB3 193 rfl rfl), in_X2, nh_X2.1, nh_X2.2, pd_6, by decide⟩, (inB3 191 rfl rfl), (inB3 192 rfl rfl), TX2, 12, rfl⟩
theorem cb_X2_takeOver : CBv M_X2_takeOver 2 1 := ⟨⟨(inB3 211 rfl rfl), in_X2, nh_X2.1, nh_X2.2, pd_27, by decide⟩, (inB3 209 rfl rfl), (inB3 210 rfl rfl), TX2, 12, rfl⟩
theorem cb_X2_regardStreet : CBv M_X2_regardStreet 2 4 := ⟨⟨(inB4 158 rfl rfl), in_X2, nh_X2.1, nh_X2.2, pd_24, by decide⟩, (inB4 156 rfl rfl), (inB4 157 rfl rfl), TX2, 12, rfl⟩
theorem cb_X2_regardTime : CBv M_X2_regardTime 2 3 := ⟨⟨(inB4 142 rfl rfl), in_X2, nh_X2.1, nh_X2.2, pd_12, by decide⟩, (inB4 140 rfl rfl), (inB4 141 rfl rfl), TX2, 12, rfl⟩
theorem cb_X2_ask : CBv M_X2_ask 2 1 := ⟨⟨(inB4 170 rfl rfl), in_X2, nh_X2.1, nh_X2.2, pd_4, by decide⟩, (inB4 168 rfl rfl), (inB4 169 rfl rfl), TX2, 12, rfl⟩
theorem cb_X2_reckon : CBv M_X2_reckon 2 2 := ⟨⟨(inB4 174 rfl rfl), in_X2, nh_X2.1, nh_X2.2, pd_8, by decide⟩, (inB4 173 rfl rfl), (inP2 10 rfl), TX2, 12, rfl⟩
theorem cb_X2_join : CBv M_X2_join 2 3 := ⟨⟨(inB4 191 rfl rfl), in_X2, nh_X2.1, nh_X2.2, pd_11, by decide⟩, (inB4 190 rfl rfl), (inP2 14 rfl), TX2, 12, rfl⟩
theorem cb_X2_factAt : CBv M_X2_factAt 2 1 := ⟨⟨(inB4 182 rfl rfl), in_X2, nh_X2.1, nh_X2.2, pd_4, by decide⟩, (inB4 181 rfl rfl), (inP2 12 rfl), TX2, 12, rfl⟩
theorem cb_X2_push : CBv M_X2_push 2 1 := ⟨⟨(inB4 178 rfl rfl), in_X2, nh_X2.1, nh_X2.2, pd_6, by decide⟩, (inB4 177 rfl rfl), (inP2 11 rfl), TX2, 12, rfl⟩
theorem cb_X2_pop : CBv M_X2_pop 2 0 := ⟨⟨(inB4 186 rfl rfl), in_X2, nh_X2.1, nh_X2.2, pd_0, by decide⟩, (inB4 185 rfl rfl), (inP2 13 rfl), TX2, 12, rfl⟩
theorem cb_X3_fresh : CBv M_X3_fresh 3 0 := ⟨⟨(inB3 207 rfl rfl), in_X3, nh_X3.1, nh_X3.2, pd_1, by decide⟩, (inB3 205 rfl rfl), (inB3 206 rfl rfl), TX3, 1, rfl⟩
theorem cb_X3_read : CBv M_X3_read 3 1 := ⟨⟨(inB3 1 rfl rfl), in_X3, nh_X3.1, nh_X3.2, pd_29, by decide⟩, (inB2 239 rfl rfl), (inB3 0 rfl rfl), TX3, 1, rfl⟩
theorem cb_X3_readClause : CBv M_X3_readClause 3 1 := ⟨⟨(inB3 13 rfl rfl), in_X3, nh_X3.1, nh_X3.2, pd_30, by decide⟩, (inB3 12 rfl rfl), (inP1 1 rfl), TX3, 1, rfl⟩
theorem cb_X3_readSum : CBv M_X3_readSum 3 2 := ⟨⟨(inB3 37 rfl rfl), in_X3, nh_X3.1, nh_X3.2, pd_32, by decide⟩, (inB3 36 rfl rfl), (inP1 2 rfl), TX3, 1, rfl⟩
theorem cb_X3_readProduct : CBv M_X3_readProduct 3 2 := ⟨⟨(inB3 41 rfl rfl), in_X3, nh_X3.1, nh_X3.2, pd_32, by decide⟩, (inB3 40 rfl rfl), (inP1 3 rfl), TX3, 1, rfl⟩
theorem cb_X3_seesProductSign : CBs M_X3_seesProductSign 1 := ⟨⟨(inB3 169 rfl rfl), in_X3, nh_X3.1, nh_X3.2, pd_31, by decide⟩, (inB3 168 rfl rfl)⟩
theorem cb_X3_readFactor : CBv M_X3_readFactor 3 2 := ⟨⟨(inB3 45 rfl rfl), in_X3, nh_X3.1, nh_X3.2, pd_32, by decide⟩, (inB3 44 rfl rfl), (inP1 4 rfl), TX3, 1, rfl⟩
theorem cb_X3_readFact : CBv M_X3_readFact 3 1 := ⟨⟨(inB3 77 rfl rfl), in_X3, nh_X3.1, nh_X3.2, pd_30, by decide⟩, (inB3 76 rfl rfl), (inP1 6 rfl), TX3, 1, rfl⟩
theorem cb_X3_opens : CBv M_X3_opens 3 2 := ⟨⟨(inB3 53 rfl rfl), in_X3, nh_X3.1, nh_X3.2, pd_33, by decide⟩, (inB3 52 rfl rfl), (inP1 5 rfl), TX3, 1, rfl⟩
theorem cb_X3_readChoice : CBv M_X3_readChoice 3 2 := ⟨⟨(inB3 173 rfl rfl), in_X3, nh_X3.1, nh_X3.2, pd_32, by decide⟩, (inB3 172 rfl rfl), (inP1 7 rfl), TX3, 1, rfl⟩
theorem cb_X3_readPart : CBv M_X3_readPart 3 2 := ⟨⟨(inB3 177 rfl rfl), in_X3, nh_X3.1, nh_X3.2, pd_32, by decide⟩, (inB3 176 rfl rfl), (inP1 8 rfl), TX3, 1, rfl⟩
theorem cb_X3_readTest : CBv M_X3_readTest 3 2 := ⟨⟨(inB3 181 rfl rfl), in_X3, nh_X3.1, nh_X3.2, pd_32, by decide⟩, (inB3 180 rfl rfl), (inP1 9 rfl), TX3, 1, rfl⟩
theorem cb_X3_readNegation : CBv M_X3_readNegation 3 2 := ⟨⟨(inB3 185 rfl rfl), in_X3, nh_X3.1, nh_X3.2, pd_32, by decide⟩, (inB3 184 rfl rfl), (inP1 10 rfl), TX3, 1, rfl⟩
theorem cb_X3_readComparison : CBv M_X3_readComparison 3 2 := ⟨⟨(inB3 189 rfl rfl), in_X3, nh_X3.1, nh_X3.2, pd_32, by decide⟩, (inB3 188 rfl rfl), (inP1 11 rfl), TX3, 1, rfl⟩
theorem cb_X4_missing : CBv M_X4_missing 4 0 := ⟨⟨(inB6 73 rfl rfl), in_X4, nh_X4.1, nh_X4.2, pd_0, by decide⟩, (inB6 71 rfl rfl), (inB6 72 rfl rfl), TX4, 6, rfl⟩
theorem cb_X4_placeFor : CBv M_X4_placeFor 4 1 := ⟨⟨(inB6 77 rfl rfl), in_X4, nh_X4.1, nh_X4.2, pd_4, by decide⟩, (inB6 75 rfl rfl), (inB6 76 rfl rfl), TX4, 6, rfl⟩
theorem cb_X4_find : CBv M_X4_find 4 3 := ⟨⟨(inB6 54 rfl rfl), in_X4, nh_X4.1, nh_X4.2, pd_35, by decide⟩, (inB6 52 rfl rfl), (inB6 53 rfl rfl), TX4, 6, rfl⟩
theorem cb_X4_match : CBv M_X4_match 4 3 := ⟨⟨(inB6 62 rfl rfl), in_X4, nh_X4.1, nh_X4.2, pd_12, by decide⟩, (inB6 61 rfl rfl), (inP4 7 rfl), TX4, 6, rfl⟩
theorem cb_X4_matchWith : CBv M_X4_matchWith 4 4 := ⟨⟨(inB6 68 rfl rfl), in_X4, nh_X4.1, nh_X4.2, pd_15, by decide⟩, (inB6 67 rfl rfl), (inP4 8 rfl), TX4, 6, rfl⟩
theorem cb_X5_slept : CBv M_X5_slept 5 0 := ⟨⟨(inB4 220 rfl rfl), in_X5, nh_X5.1, nh_X5.2, pd_0, by decide⟩, (inB4 218 rfl rfl), (inB4 219 rfl rfl), TX5, 16, rfl⟩
theorem cb_X5_swept : CBv M_X5_swept 5 0 := ⟨⟨(inB4 224 rfl rfl), in_X5, nh_X5.1, nh_X5.2, pd_0, by decide⟩, (inB4 222 rfl rfl), (inB4 223 rfl rfl), TX5, 16, rfl⟩
theorem cb_X5_total : CBv M_X5_total 5 1 := ⟨⟨(inB5 0 rfl rfl), in_X5, nh_X5.1, nh_X5.2, pd_4, by decide⟩, (inB4 238 rfl rfl), (inB4 239 rfl rfl), TX5, 16, rfl⟩
theorem cb_X5_depthOf : CBv M_X5_depthOf 5 1 := ⟨⟨(inB4 154 rfl rfl), in_X5, nh_X5.1, nh_X5.2, pd_4, by decide⟩, (inB4 152 rfl rfl), (inB4 153 rfl rfl), TX5, 16, rfl⟩
theorem cb_X5_loadOf : CBv M_X5_loadOf 5 1 := ⟨⟨(inB5 5 rfl rfl), in_X5, nh_X5.1, nh_X5.2, pd_4, by decide⟩, (inB5 3 rfl rfl), (inB5 4 rfl rfl), TX5, 16, rfl⟩
theorem cb_X5_lastMinuteOf : CBv M_X5_lastMinuteOf 5 1 := ⟨⟨(inB5 9 rfl rfl), in_X5, nh_X5.1, nh_X5.2, pd_4, by decide⟩, (inB5 7 rfl rfl), (inB5 8 rfl rfl), TX5, 16, rfl⟩
theorem cb_X5_prepare : CBv M_X5_prepare 5 0 := ⟨⟨(inB4 84 rfl rfl), in_X5, nh_X5.1, nh_X5.2, pd_2, by decide⟩, (inB4 82 rfl rfl), (inB4 83 rfl rfl), TX5, 16, rfl⟩
theorem cb_X5_send : CBv M_X5_send 5 3 := ⟨⟨(inB4 102 rfl rfl), in_X5, nh_X5.1, nh_X5.2, pd_19, by decide⟩, (inB4 100 rfl rfl), (inB4 101 rfl rfl), TX5, 16, rfl⟩
theorem cb_X5_goThrough : CBv M_X5_goThrough 5 0 := ⟨⟨(inB4 121 rfl rfl), in_X5, nh_X5.1, nh_X5.2, pd_2, by decide⟩, (inB4 119 rfl rfl), (inB4 120 rfl rfl), TX5, 16, rfl⟩
theorem cb_X5_isIdle : CBv M_X5_isIdle 5 0 := ⟨⟨(inB4 125 rfl rfl), in_X5, nh_X5.1, nh_X5.2, pd_3, by decide⟩, (inB4 124 rfl rfl), (inP2 5 rfl), TX5, 16, rfl⟩
theorem cb_X5_sleepsThrough : CBv M_X5_sleepsThrough 5 2 := ⟨⟨(inB5 199 rfl rfl), in_X5, nh_X5.1, nh_X5.2, pd_10, by decide⟩, (inB5 197 rfl rfl), (inB5 198 rfl rfl), TX5, 16, rfl⟩
theorem cb_X5_sleepsAfter : CBv M_X5_sleepsAfter 5 2 := ⟨⟨(inB4 211 rfl rfl), in_X5, nh_X5.1, nh_X5.2, pd_10, by decide⟩, (inB4 210 rfl rfl), (inP3 1 rfl), TX5, 16, rfl⟩
theorem cb_X5_lose : CBv M_X5_lose 5 2 := ⟨⟨(inB4 215 rfl rfl), in_X5, nh_X5.1, nh_X5.2, pd_8, by decide⟩, (inB4 214 rfl rfl), (inP3 2 rfl), TX5, 16, rfl⟩
theorem cb_X5_askOf : CBv M_X5_askOf 5 2 := ⟨⟨(inB4 146 rfl rfl), in_X5, nh_X5.1, nh_X5.2, pd_8, by decide⟩, (inB4 145 rfl rfl), (inP2 9 rfl), TX5, 16, rfl⟩
theorem cb_X5_serveBefore : CBv M_X5_serveBefore 5 1 := ⟨⟨(inB4 133 rfl rfl), in_X5, nh_X5.1, nh_X5.2, pd_6, by decide⟩, (inB4 132 rfl rfl), (inP2 7 rfl), TX5, 16, rfl⟩
theorem cb_X5_earliestCart : CBv M_X5_earliestCart 5 0 := ⟨⟨(inB4 129 rfl rfl), in_X5, nh_X5.1, nh_X5.2, pd_0, by decide⟩, (inB4 128 rfl rfl), (inP2 6 rfl), TX5, 16, rfl⟩
theorem cb_X5_serve : CBv M_X5_serve 5 1 := ⟨⟨(inB4 137 rfl rfl), in_X5, nh_X5.1, nh_X5.2, pd_6, by decide⟩, (inB4 136 rfl rfl), (inP2 8 rfl), TX5, 16, rfl⟩
theorem cb_X5_takeOn : CBv M_X5_takeOn 5 2 := ⟨⟨(inB4 203 rfl rfl), in_X5, nh_X5.1, nh_X5.2, pd_8, by decide⟩, (inB4 202 rfl rfl), (inP2 15 rfl), TX5, 16, rfl⟩
theorem cb_X5_leave : CBv M_X5_leave 5 3 := ⟨⟨(inB4 207 rfl rfl), in_X5, nh_X5.1, nh_X5.2, pd_11, by decide⟩, (inB4 206 rfl rfl), (inP3 0 rfl), TX5, 16, rfl⟩
theorem cb_X5_goOn : CBv M_X5_goOn 5 3 := ⟨⟨(inB4 107 rfl rfl), in_X5, nh_X5.1, nh_X5.2, pd_12, by decide⟩, (inB4 106 rfl rfl), (inP2 4 rfl), TX5, 16, rfl⟩
theorem cb_X6_longest : CBv M_X6_longest 6 0 := ⟨⟨(inB6 27 rfl rfl), in_X6, nh_X6.1, nh_X6.2, pd_0, by decide⟩, (inB6 25 rfl rfl), (inB6 26 rfl rfl), TX6, 7, rfl⟩
theorem cb_X6_cartOf : CBv M_X6_cartOf 6 1 := ⟨⟨(inB6 31 rfl rfl), in_X6, nh_X6.1, nh_X6.2, pd_4, by decide⟩, (inB6 29 rfl rfl), (inB6 30 rfl rfl), TX6, 7, rfl⟩
theorem cb_X6_find : CBv M_X6_find 6 3 := ⟨⟨(inB6 6 rfl rfl), in_X6, nh_X6.1, nh_X6.2, pd_34, by decide⟩, (inB6 4 rfl rfl), (inB6 5 rfl rfl), TX6, 7, rfl⟩
theorem cb_X6_give : CBv M_X6_give 6 1 := ⟨⟨(inB6 13 rfl rfl), in_X6, nh_X6.1, nh_X6.2, pd_6, by decide⟩, (inB6 12 rfl rfl), (inP4 3 rfl), TX6, 7, rfl⟩
theorem cb_X6_giveTo : CBv M_X6_giveTo 6 2 := ⟨⟨(inB6 23 rfl rfl), in_X6, nh_X6.1, nh_X6.2, pd_9, by decide⟩, (inB6 22 rfl rfl), (inP4 5 rfl), TX6, 7, rfl⟩
theorem cb_X6_keepRow : CBv M_X6_keepRow 6 0 := ⟨⟨(inB6 17 rfl rfl), in_X6, nh_X6.1, nh_X6.2, pd_2, by decide⟩, (inB6 16 rfl rfl), (inP4 4 rfl), TX6, 7, rfl⟩
theorem cb_X7_howMany : CBv M_X7_howMany 7 0 := ⟨⟨(inB6 146 rfl rfl), in_X7, nh_X7.1, nh_X7.2, pd_0, by decide⟩, (inB6 144 rfl rfl), (inB6 145 rfl rfl), TX7, 4, rfl⟩
theorem cb_X7_read : CBv M_X7_read 7 2 := ⟨⟨(inB3 227 rfl rfl), in_X7, nh_X7.1, nh_X7.2, pd_36, by decide⟩, (inB3 225 rfl rfl), (inB3 226 rfl rfl), TX7, 4, rfl⟩
theorem cb_X7_readLine : CBv M_X7_readLine 7 3 := ⟨⟨(inB3 232 rfl rfl), in_X7, nh_X7.1, nh_X7.2, pd_38, by decide⟩, (inB3 231 rfl rfl), (inP1 12 rfl), TX7, 4, rfl⟩
theorem cb_X7_readStreet : CBv M_X7_readStreet 7 2 := ⟨⟨(inB4 2 rfl rfl), in_X7, nh_X7.1, nh_X7.2, pd_37, by decide⟩, (inB4 1 rfl rfl), (inP1 13 rfl), TX7, 4, rfl⟩
theorem cb_X7_findWays : CBv M_X7_findWays 7 0 := ⟨⟨(inB4 21 rfl rfl), in_X7, nh_X7.1, nh_X7.2, pd_2, by decide⟩, (inB4 20 rfl rfl), (inP1 14 rfl), TX7, 4, rfl⟩
theorem cb_X7_shortenFrom : CBv M_X7_shortenFrom 7 2 := ⟨⟨(inB4 25 rfl rfl), in_X7, nh_X7.1, nh_X7.2, pd_9, by decide⟩, (inB4 24 rfl rfl), (inP1 15 rfl), TX7, 4, rfl⟩
theorem cb_X7_between : CBv M_X7_between 7 2 := ⟨⟨(inB4 117 rfl rfl), in_X7, nh_X7.1, nh_X7.2, pd_8, by decide⟩, (inB4 115 rfl rfl), (inB4 116 rfl rfl), TX7, 4, rfl⟩
theorem cb_X7_reachedFrom : CBv M_X7_reachedFrom 7 1 := ⟨⟨(inB5 151 rfl rfl), in_X7, nh_X7.1, nh_X7.2, pd_4, by decide⟩, (inB5 150 rfl rfl), (inP3 13 rfl), TX7, 4, rfl⟩
theorem cb_X7_farthestFrom : CBv M_X7_farthestFrom 7 1 := ⟨⟨(inB5 156 rfl rfl), in_X7, nh_X7.1, nh_X7.2, pd_4, by decide⟩, (inB5 154 rfl rfl), (inB5 155 rfl rfl), TX7, 4, rfl⟩
theorem cb_X7_sumFrom : CBv M_X7_sumFrom 7 1 := ⟨⟨(inB5 161 rfl rfl), in_X7, nh_X7.1, nh_X7.2, pd_4, by decide⟩, (inB5 159 rfl rfl), (inB5 160 rfl rfl), TX7, 4, rfl⟩
theorem cb_X7_bestPit : CBv M_X7_bestPit 7 2 := ⟨⟨(inB5 147 rfl rfl), in_X7, nh_X7.1, nh_X7.2, pd_26, by decide⟩, (inB5 145 rfl rfl), (inB5 146 rfl rfl), TX7, 4, rfl⟩
theorem cb_X7_countCuts : CBv M_X7_countCuts 7 0 := ⟨⟨(inB5 171 rfl rfl), in_X7, nh_X7.1, nh_X7.2, pd_0, by decide⟩, (inB5 169 rfl rfl), (inB5 170 rfl rfl), TX7, 4, rfl⟩
theorem cb_X7_firstCut : CBv M_X7_firstCut 7 0 := ⟨⟨(inB5 186 rfl rfl), in_X7, nh_X7.1, nh_X7.2, pd_0, by decide⟩, (inB5 184 rfl rfl), (inB5 185 rfl rfl), TX7, 4, rfl⟩
theorem cb_X7_isCut : CBv M_X7_isCut 7 1 := ⟨⟨(inB5 175 rfl rfl), in_X7, nh_X7.1, nh_X7.2, pd_7, by decide⟩, (inB5 174 rfl rfl), (inP3 14 rfl), TX7, 4, rfl⟩
theorem cb_X7_neighboursOf : CBv M_X7_neighboursOf 7 3 := ⟨⟨(inB5 181 rfl rfl), in_X7, nh_X7.1, nh_X7.2, pd_11, by decide⟩, (inB5 180 rfl rfl), (inP3 15 rfl), TX7, 4, rfl⟩
theorem cb_X8_find : CBv M_X8_find 8 2 := ⟨⟨(inB5 36 rfl rfl), in_X8, nh_X8.1, nh_X8.2, pd_10, by decide⟩, (inB5 34 rfl rfl), (inB5 35 rfl rfl), TX8, 5, rfl⟩
theorem cb_X8_minutes : CBv M_X8_minutes 8 0 := ⟨⟨(inB5 64 rfl rfl), in_X8, nh_X8.1, nh_X8.2, pd_0, by decide⟩, (inB5 62 rfl rfl), (inB5 63 rfl rfl), TX8, 5, rfl⟩
theorem cb_X8_streetAt : CBv M_X8_streetAt 8 1 := ⟨⟨(inB5 68 rfl rfl), in_X8, nh_X8.1, nh_X8.2, pd_4, by decide⟩, (inB5 66 rfl rfl), (inB5 67 rfl rfl), TX8, 5, rfl⟩
theorem cb_X8_leastFrom : CBv M_X8_leastFrom 8 2 := ⟨⟨(inB5 42 rfl rfl), in_X8, nh_X8.1, nh_X8.2, pd_8, by decide⟩, (inB5 41 rfl rfl), (inP3 4 rfl), TX8, 5, rfl⟩
theorem cb_X8_minutesOver : CBv M_X8_minutesOver 8 3 := ⟨⟨(inB5 51 rfl rfl), in_X8, nh_X8.1, nh_X8.2, pd_11, by decide⟩, (inB5 50 rfl rfl), (inP3 6 rfl), TX8, 5, rfl⟩
theorem cb_X8_minutesBetween : CBv M_X8_minutesBetween 8 2 := ⟨⟨(inB5 46 rfl rfl), in_X8, nh_X8.1, nh_X8.2, pd_8, by decide⟩, (inB5 45 rfl rfl), (inP3 5 rfl), TX8, 5, rfl⟩
theorem cb_X8_writeRow : CBv M_X8_writeRow 8 0 := ⟨⟨(inB5 56 rfl rfl), in_X8, nh_X8.1, nh_X8.2, pd_2, by decide⟩, (inB5 55 rfl rfl), (inP3 7 rfl), TX8, 5, rfl⟩
theorem cb_X8_firstThatMeets : CBv M_X8_firstThatMeets 8 3 := ⟨⟨(inB5 60 rfl rfl), in_X8, nh_X8.1, nh_X8.2, pd_11, by decide⟩, (inB5 59 rfl rfl), (inP3 8 rfl), TX8, 5, rfl⟩
theorem cb_X9_choose : CBv M_X9_choose 9 1 := ⟨⟨(inB5 77 rfl rfl), in_X9, nh_X9.1, nh_X9.2, pd_6, by decide⟩, (inB5 75 rfl rfl), (inB5 76 rfl rfl), TX9, 9, rfl⟩
theorem cb_X9_least : CBv M_X9_least 9 0 := ⟨⟨(inB5 97 rfl rfl), in_X9, nh_X9.1, nh_X9.2, pd_0, by decide⟩, (inB5 95 rfl rfl), (inB5 96 rfl rfl), TX9, 9, rfl⟩
theorem cb_X9_yardsFor : CBv M_X9_yardsFor 9 1 := ⟨⟨(inB5 101 rfl rfl), in_X9, nh_X9.1, nh_X9.2, pd_4, by decide⟩, (inB5 99 rfl rfl), (inB5 100 rfl rfl), TX9, 9, rfl⟩
theorem cb_X9_spread : CBv M_X9_spread 9 1 := ⟨⟨(inB5 82 rfl rfl), in_X9, nh_X9.1, nh_X9.2, pd_7, by decide⟩, (inB5 80 rfl rfl), (inB5 81 rfl rfl), TX9, 9, rfl⟩
theorem cb_X9_neededFor : CBv M_X9_neededFor 9 1 := ⟨⟨(inB5 86 rfl rfl), in_X9, nh_X9.1, nh_X9.2, pd_4, by decide⟩, (inB5 85 rfl rfl), (inP3 9 rfl), TX9, 9, rfl⟩
theorem cb_X9_greatestLevel : CBv M_X9_greatestLevel 9 1 := ⟨⟨(inB5 92 rfl rfl), in_X9, nh_X9.1, nh_X9.2, pd_4, by decide⟩, (inB5 91 rfl rfl), (inP3 10 rfl), TX9, 9, rfl⟩
theorem cb_X9_houses : CBv M_X9_houses 9 0 := ⟨⟨(inB5 127 rfl rfl), in_X9, nh_X9.1, nh_X9.2, pd_0, by decide⟩, (inB5 125 rfl rfl), (inB5 126 rfl rfl), TX9, 9, rfl⟩
theorem cb_X9_spent : CBv M_X9_spent 9 0 := ⟨⟨(inB5 131 rfl rfl), in_X9, nh_X9.1, nh_X9.2, pd_0, by decide⟩, (inB5 129 rfl rfl), (inB5 130 rfl rfl), TX9, 9, rfl⟩
theorem cb_X9_sleepingStreets : CBv M_X9_sleepingStreets 9 0 := ⟨⟨(inB5 135 rfl rfl), in_X9, nh_X9.1, nh_X9.2, pd_0, by decide⟩, (inB5 133 rfl rfl), (inB5 134 rfl rfl), TX9, 9, rfl⟩
theorem cb_X9_findSleepful : CBv M_X9_findSleepful 9 2 := ⟨⟨(inB5 109 rfl rfl), in_X9, nh_X9.1, nh_X9.2, pd_21, by decide⟩, (inB5 107 rfl rfl), (inB5 108 rfl rfl), TX9, 9, rfl⟩
theorem cb_X9_missingToSleep : CBv M_X9_missingToSleep 9 2 := ⟨⟨(inB5 113 rfl rfl), in_X9, nh_X9.1, nh_X9.2, pd_20, by decide⟩, (inB5 112 rfl rfl), (inP3 11 rfl), TX9, 9, rfl⟩
theorem cb_X9_weigh : CBv M_X9_weigh 9 2 := ⟨⟨(inB5 122 rfl rfl), in_X9, nh_X9.1, nh_X9.2, pd_9, by decide⟩, (inB5 121 rfl rfl), (inP3 12 rfl), TX9, 9, rfl⟩
theorem cb_X9_reckonGains : CBv M_X9_reckonGains 9 1 := ⟨⟨(inB5 220 rfl rfl), in_X9, nh_X9.1, nh_X9.2, pd_27, by decide⟩, (inB5 218 rfl rfl), (inB5 219 rfl rfl), TX9, 9, rfl⟩
theorem cb_X9_wastedBy : CBv M_X9_wastedBy 9 3 := ⟨⟨(inB5 225 rfl rfl), in_X9, nh_X9.1, nh_X9.2, pd_18, by decide⟩, (inB5 224 rfl rfl), (inP4 1 rfl), TX9, 9, rfl⟩
theorem cb_X9_gainOf : CBv M_X9_gainOf 9 1 := ⟨⟨(inB5 233 rfl rfl), in_X9, nh_X9.1, nh_X9.2, pd_4, by decide⟩, (inB5 231 rfl rfl), (inB5 232 rfl rfl), TX9, 9, rfl⟩
theorem cb_X9_bestGainBeside : CBv M_X9_bestGainBeside 9 1 := ⟨⟨(inB5 229 rfl rfl), in_X9, nh_X9.1, nh_X9.2, pd_4, by decide⟩, (inB5 227 rfl rfl), (inB5 228 rfl rfl), TX9, 9, rfl⟩
theorem cb_X10_hasRoomFor : CBv M_X10_hasRoomFor 10 1 := ⟨⟨(inB2 213 rfl rfl), in_X10, nh_X10.1, nh_X10.2, pd_7, by decide⟩, (inB2 211 rfl rfl), (inB2 212 rfl rfl), TX10, 6, rfl⟩
theorem cb_X10_holds : CBv M_X10_holds 10 1 := ⟨⟨(inB2 229 rfl rfl), in_X10, nh_X10.1, nh_X10.2, pd_7, by decide⟩, (inB2 227 rfl rfl), (inB2 228 rfl rfl), TX10, 6, rfl⟩
theorem cb_X10_length : CBv M_X10_length 10 0 := ⟨⟨(inB2 221 rfl rfl), in_X10, nh_X10.1, nh_X10.2, pd_0, by decide⟩, (inB2 219 rfl rfl), (inB2 220 rfl rfl), TX10, 6, rfl⟩
theorem cb_X10_clear : CBv M_X10_clear 10 0 := ⟨⟨(inB3 218 rfl rfl), in_X10, nh_X10.1, nh_X10.2, pd_2, by decide⟩, (inB3 216 rfl rfl), (inB3 217 rfl rfl), TX10, 6, rfl⟩
theorem cb_X10_addWord : CBv M_X10_addWord 10 1 := ⟨⟨(inB2 217 rfl rfl), in_X10, nh_X10.1, nh_X10.2, pd_6, by decide⟩, (inB2 215 rfl rfl), (inB2 216 rfl rfl), TX10, 6, rfl⟩
theorem cb_X10_at : CBv M_X10_at 10 1 := ⟨⟨(inB2 237 rfl rfl), in_X10, nh_X10.1, nh_X10.2, pd_4, by decide⟩, (inB2 235 rfl rfl), (inB2 236 rfl rfl), TX10, 6, rfl⟩
theorem cb_X10_pairAt : CBv M_X10_pairAt 10 1 := ⟨⟨(inB6 95 rfl rfl), in_X10, nh_X10.1, nh_X10.2, pd_4, by decide⟩, (inB6 93 rfl rfl), (inB6 94 rfl rfl), TX10, 6, rfl⟩
theorem cb_X10_sumOf : CBv M_X10_sumOf 10 4 := ⟨⟨(inB6 40 rfl rfl), in_X10, nh_X10.1, nh_X10.2, pd_14, by decide⟩, (inB6 38 rfl rfl), (inB6 39 rfl rfl), TX10, 6, rfl⟩
theorem cb_X10_open : CBv M_X10_open 10 1 := ⟨⟨(inB2 233 rfl rfl), in_X10, nh_X10.1, nh_X10.2, pd_6, by decide⟩, (inB2 231 rfl rfl), (inB2 232 rfl rfl), TX10, 6, rfl⟩
theorem cb_X10_place : CBv M_X10_place 10 0 := ⟨⟨(inB4 8 rfl rfl), in_X10, nh_X10.1, nh_X10.2, pd_0, by decide⟩, (inB4 6 rfl rfl), (inB4 7 rfl rfl), TX10, 6, rfl⟩
theorem cb_X10_sign : CBv M_X10_sign 10 0 := ⟨⟨(inB3 17 rfl rfl), in_X10, nh_X10.1, nh_X10.2, pd_0, by decide⟩, (inB3 15 rfl rfl), (inB3 16 rfl rfl), TX10, 6, rfl⟩
theorem cb_X10_isAtEnd : CBv M_X10_isAtEnd 10 0 := ⟨⟨(inB3 81 rfl rfl), in_X10, nh_X10.1, nh_X10.2, pd_3, by decide⟩, (inB3 79 rfl rfl), (inB3 80 rfl rfl), TX10, 6, rfl⟩
theorem cb_X10_isSound : CBv M_X10_isSound 10 0 := ⟨⟨(inB3 9 rfl rfl), in_X10, nh_X10.1, nh_X10.2, pd_3, by decide⟩, (inB3 7 rfl rfl), (inB3 8 rfl rfl), TX10, 6, rfl⟩
theorem cb_X10_fault : CBv M_X10_fault 10 0 := ⟨⟨(inB3 202 rfl rfl), in_X10, nh_X10.1, nh_X10.2, pd_0, by decide⟩, (inB3 200 rfl rfl), (inB3 201 rfl rfl), TX10, 6, rfl⟩
theorem cb_X10_step : CBv M_X10_step 10 0 := ⟨⟨(inB3 29 rfl rfl), in_X10, nh_X10.1, nh_X10.2, pd_2, by decide⟩, (inB3 27 rfl rfl), (inB3 28 rfl rfl), TX10, 6, rfl⟩
theorem cb_X10_failAt : CBv M_X10_failAt 10 2 := ⟨⟨(inB4 13 rfl rfl), in_X10, nh_X10.1, nh_X10.2, pd_9, by decide⟩, (inB4 11 rfl rfl), (inB4 12 rfl rfl), TX10, 6, rfl⟩
theorem cb_X10_fail : CBv M_X10_fail 10 1 := ⟨⟨(inB3 21 rfl rfl), in_X10, nh_X10.1, nh_X10.2, pd_6, by decide⟩, (inB3 19 rfl rfl), (inB3 20 rfl rfl), TX10, 6, rfl⟩
theorem cb_X10_sees : CBv M_X10_sees 10 1 := ⟨⟨(inB3 49 rfl rfl), in_X10, nh_X10.1, nh_X10.2, pd_7, by decide⟩, (inB3 47 rfl rfl), (inB3 48 rfl rfl), TX10, 6, rfl⟩
theorem cb_X10_seesDigit : CBv M_X10_seesDigit 10 0 := ⟨⟨(inB3 64 rfl rfl), in_X10, nh_X10.1, nh_X10.2, pd_3, by decide⟩, (inB3 62 rfl rfl), (inB3 63 rfl rfl), TX10, 6, rfl⟩
theorem cb_X10_seesStreet : CBv M_X10_seesStreet 10 0 := ⟨⟨(inB3 237 rfl rfl), in_X10, nh_X10.1, nh_X10.2, pd_3, by decide⟩, (inB3 235 rfl rfl), (inB3 236 rfl rfl), TX10, 6, rfl⟩
theorem cb_X10_need : CBv M_X10_need 10 1 := ⟨⟨(inB3 57 rfl rfl), in_X10, nh_X10.1, nh_X10.2, pd_6, by decide⟩, (inB3 55 rfl rfl), (inB3 56 rfl rfl), TX10, 6, rfl⟩
theorem cb_X10_readNumber : CBv M_X10_readNumber 10 1 := ⟨⟨(inB3 68 rfl rfl), in_X10, nh_X10.1, nh_X10.2, pd_4, by decide⟩, (inB3 66 rfl rfl), (inB3 67 rfl rfl), TX10, 6, rfl⟩
theorem cb_X11_street : CBv M_X11_street 11 4 := ⟨⟨(inB2 165 rfl rfl), in_X11, nh_X11.1, nh_X11.2, pd_16, by decide⟩, (inB2 163 rfl rfl), (inB2 164 rfl rfl), TX11, 12, rfl⟩
theorem cb_X11_cart : CBv M_X11_cart 11 2 := ⟨⟨(inB2 177 rfl rfl), in_X11, nh_X11.1, nh_X11.2, pd_10, by decide⟩, (inB2 175 rfl rfl), (inB2 176 rfl rfl), TX11, 12, rfl⟩
theorem cb_X11_pour : CBv M_X11_pour 11 2 := ⟨⟨(inB2 189 rfl rfl), in_X11, nh_X11.1, nh_X11.2, pd_8, by decide⟩, (inB2 187 rfl rfl), (inB2 188 rfl rfl), TX11, 12, rfl⟩
theorem cb_X11_feed : CBv M_X11_feed 11 5 := ⟨⟨(inB2 209 rfl rfl), in_X11, nh_X11.1, nh_X11.2, pd_17, by decide⟩, (inB2 207 rfl rfl), (inB2 208 rfl rfl), TX11, 12, rfl⟩
theorem cb_X11_law : CBv M_X11_law 11 1 := ⟨⟨(inB2 225 rfl rfl), in_X11, nh_X11.1, nh_X11.2, pd_4, by decide⟩, (inB2 223 rfl rfl), (inB2 224 rfl rfl), TX11, 12, rfl⟩
theorem cb_X11_roads : CBv M_X11_roads 11 1 := ⟨⟨(inB3 223 rfl rfl), in_X11, nh_X11.1, nh_X11.2, pd_4, by decide⟩, (inB3 221 rfl rfl), (inB3 222 rfl rfl), TX11, 12, rfl⟩
theorem cb_X11_plan : CBv M_X11_plan 11 2 := ⟨⟨(inB4 29 rfl rfl), in_X11, nh_X11.1, nh_X11.2, pd_8, by decide⟩, (inB4 27 rfl rfl), (inB4 28 rfl rfl), TX11, 12, rfl⟩
theorem cb_X11_nights : CBv M_X11_nights 11 1 := ⟨⟨(inB4 72 rfl rfl), in_X11, nh_X11.1, nh_X11.2, pd_4, by decide⟩, (inB4 70 rfl rfl), (inB4 71 rfl rfl), TX11, 12, rfl⟩
theorem cb_X11_tried : CBv M_X11_tried 11 1 := ⟨⟨(inB4 232 rfl rfl), in_X11, nh_X11.1, nh_X11.2, pd_4, by decide⟩, (inB4 230 rfl rfl), (inB4 231 rfl rfl), TX11, 12, rfl⟩
theorem cb_X11_way : CBv M_X11_way 11 2 := ⟨⟨(inB5 13 rfl rfl), in_X11, nh_X11.1, nh_X11.2, pd_8, by decide⟩, (inB5 11 rfl rfl), (inB5 12 rfl rfl), TX11, 12, rfl⟩
theorem cb_X11_round : CBv M_X11_round 11 3 := ⟨⟨(inB5 18 rfl rfl), in_X11, nh_X11.1, nh_X11.2, pd_11, by decide⟩, (inB5 16 rfl rfl), (inB5 17 rfl rfl), TX11, 12, rfl⟩
theorem cb_X11_share : CBv M_X11_share 11 3 := ⟨⟨(inB5 73 rfl rfl), in_X11, nh_X11.1, nh_X11.2, pd_11, by decide⟩, (inB5 71 rfl rfl), (inB5 72 rfl rfl), TX11, 12, rfl⟩
theorem cb_X11_sleepful : CBv M_X11_sleepful 11 3 := ⟨⟨(inB5 105 rfl rfl), in_X11, nh_X11.1, nh_X11.2, pd_11, by decide⟩, (inB5 103 rfl rfl), (inB5 104 rfl rfl), TX11, 12, rfl⟩
theorem cb_X11_pitAt : CBv M_X11_pitAt 11 1 := ⟨⟨(inB5 139 rfl rfl), in_X11, nh_X11.1, nh_X11.2, pd_4, by decide⟩, (inB5 137 rfl rfl), (inB5 138 rfl rfl), TX11, 12, rfl⟩
theorem cb_X11_cut : CBv M_X11_cut 11 1 := ⟨⟨(inB5 167 rfl rfl), in_X11, nh_X11.1, nh_X11.2, pd_4, by decide⟩, (inB5 165 rfl rfl), (inB5 166 rfl rfl), TX11, 12, rfl⟩
theorem cb_X11_strike : CBv M_X11_strike 11 1 := ⟨⟨(inB5 190 rfl rfl), in_X11, nh_X11.1, nh_X11.2, pd_4, by decide⟩, (inB5 188 rfl rfl), (inB5 189 rfl rfl), TX11, 12, rfl⟩
theorem cb_X11_enough : CBv M_X11_enough 11 1 := ⟨⟨(inB5 194 rfl rfl), in_X11, nh_X11.1, nh_X11.2, pd_4, by decide⟩, (inB5 192 rfl rfl), (inB5 193 rfl rfl), TX11, 12, rfl⟩
theorem cb_X11_oneStop : CBv M_X11_oneStop 11 3 := ⟨⟨(inB5 203 rfl rfl), in_X11, nh_X11.1, nh_X11.2, pd_11, by decide⟩, (inB5 201 rfl rfl), (inB5 202 rfl rfl), TX11, 12, rfl⟩
theorem cb_X11_out : CBv M_X11_out 11 2 := ⟨⟨(inB5 216 rfl rfl), in_X11, nh_X11.1, nh_X11.2, pd_8, by decide⟩, (inB5 214 rfl rfl), (inB5 215 rfl rfl), TX11, 12, rfl⟩
theorem cb_X11_jobs : CBv M_X11_jobs 11 3 := ⟨⟨(inB5 238 rfl rfl), in_X11, nh_X11.1, nh_X11.2, pd_11, by decide⟩, (inB5 236 rfl rfl), (inB5 237 rfl rfl), TX11, 12, rfl⟩
theorem cb_X11_load : CBv M_X11_load 11 3 := ⟨⟨(inB6 36 rfl rfl), in_X11, nh_X11.1, nh_X11.2, pd_11, by decide⟩, (inB6 34 rfl rfl), (inB6 35 rfl rfl), TX11, 12, rfl⟩
theorem cb_X11_brides : CBv M_X11_brides 11 2 := ⟨⟨(inB6 45 rfl rfl), in_X11, nh_X11.1, nh_X11.2, pd_8, by decide⟩, (inB6 43 rfl rfl), (inB6 44 rfl rfl), TX11, 12, rfl⟩
theorem cb_X11_thieves : CBv M_X11_thieves 11 3 := ⟨⟨(inB6 82 rfl rfl), in_X11, nh_X11.1, nh_X11.2, pd_11, by decide⟩, (inB6 80 rfl rfl), (inB6 81 rfl rfl), TX11, 12, rfl⟩
theorem cb_X11_latest : CBv M_X11_latest 11 1 := ⟨⟨(inB6 86 rfl rfl), in_X11, nh_X11.1, nh_X11.2, pd_4, by decide⟩, (inB6 84 rfl rfl), (inB6 85 rfl rfl), TX11, 12, rfl⟩
theorem cb_X11_keep : CBv M_X11_keep 11 0 := ⟨⟨(inB6 100 rfl rfl), in_X11, nh_X11.1, nh_X11.2, pd_0, by decide⟩, (inB6 98 rfl rfl), (inB6 99 rfl rfl), TX11, 12, rfl⟩
theorem cb_X11_undo : CBv M_X11_undo 11 0 := ⟨⟨(inB6 109 rfl rfl), in_X11, nh_X11.1, nh_X11.2, pd_3, by decide⟩, (inB6 107 rfl rfl), (inB6 108 rfl rfl), TX11, 12, rfl⟩
theorem cb_X11_check : CBv M_X11_check 11 1 := ⟨⟨(inB6 117 rfl rfl), in_X11, nh_X11.1, nh_X11.2, pd_4, by decide⟩, (inB6 115 rfl rfl), (inB6 116 rfl rfl), TX11, 12, rfl⟩
theorem cb_X11_count : CBv M_X11_count 11 1 := ⟨⟨(inB6 121 rfl rfl), in_X11, nh_X11.1, nh_X11.2, pd_4, by decide⟩, (inB6 119 rfl rfl), (inB6 120 rfl rfl), TX11, 12, rfl⟩
theorem cb_X11_isWithin : CBs M_X11_isWithin 3 := ⟨⟨(inB2 168 rfl rfl), in_X11, nh_X11.1, nh_X11.2, pd_13, by decide⟩, (inB2 167 rfl rfl)⟩
theorem cb_X11_hasBit : CBs M_X11_hasBit 2 := ⟨⟨(inB5 31 rfl rfl), in_X11, nh_X11.1, nh_X11.2, pd_10, by decide⟩, (inB5 30 rfl rfl)⟩
theorem cb_X11_cartAt : CBv M_X11_cartAt 11 1 := ⟨⟨(inB2 181 rfl rfl), in_X11, nh_X11.1, nh_X11.2, pd_5, by decide⟩, (inB2 180 rfl rfl), (inP1 0 rfl), TX11, 12, rfl⟩
theorem cb_X11_isToldCart : CBv M_X11_isToldCart 11 1 := ⟨⟨(inB4 94 rfl rfl), in_X11, nh_X11.1, nh_X11.2, pd_7, by decide⟩, (inB4 93 rfl rfl), (inP2 3 rfl), TX11, 12, rfl⟩
theorem cb_X11_toldCarts : CBv M_X11_toldCarts 11 0 := ⟨⟨(inB6 141 rfl rfl), in_X11, nh_X11.1, nh_X11.2, pd_0, by decide⟩, (inB6 140 rfl rfl), (inP4 11 rfl), TX11, 12, rfl⟩
theorem cb_X11_countOfStreet : CBv M_X11_countOfStreet 11 1 := ⟨⟨(inB6 126 rfl rfl), in_X11, nh_X11.1, nh_X11.2, pd_4, by decide⟩, (inB6 125 rfl rfl), (inP4 10 rfl), TX11, 12, rfl⟩
theorem cb_X11_canBeTried : CBv M_X11_canBeTried 11 1 := ⟨⟨(inB4 236 rfl rfl), in_X11, nh_X11.1, nh_X11.2, pd_7, by decide⟩, (inB4 235 rfl rfl), (inP3 3 rfl), TX11, 12, rfl⟩
theorem cb_X11_sendCarts : CBv M_X11_sendCarts 11 1 := ⟨⟨(inB4 80 rfl rfl), in_X11, nh_X11.1, nh_X11.2, pd_6, by decide⟩, (inB4 79 rfl rfl), (inP2 2 rfl), TX11, 12, rfl⟩
theorem cb_X11_sendOneCart : CBv M_X11_sendOneCart 11 3 := ⟨⟨(inB5 207 rfl rfl), in_X11, nh_X11.1, nh_X11.2, pd_12, by decide⟩, (inB5 206 rfl rfl), (inP4 0 rfl), TX11, 12, rfl⟩
theorem cb_X11_partJobs : CBv M_X11_partJobs 11 3 := ⟨⟨(inB6 2 rfl rfl), in_X11, nh_X11.1, nh_X11.2, pd_11, by decide⟩, (inB6 1 rfl rfl), (inP4 2 rfl), TX11, 12, rfl⟩
theorem cb_X11_matchBrides : CBv M_X11_matchBrides 11 2 := ⟨⟨(inB6 49 rfl rfl), in_X11, nh_X11.1, nh_X11.2, pd_8, by decide⟩, (inB6 48 rfl rfl), (inP4 6 rfl), TX11, 12, rfl⟩
theorem cb_X11_latestStart : CBv M_X11_latestStart 11 1 := ⟨⟨(inB6 90 rfl rfl), in_X11, nh_X11.1, nh_X11.2, pd_4, by decide⟩, (inB6 89 rfl rfl), (inP4 9 rfl), TX11, 12, rfl⟩
theorem cb_X12_in : CBs M_X12_in 3 := ⟨⟨(inB7 112 rfl rfl), in_X12, nh_X12.1, nh_X12.2, pd_13, by decide⟩, (inB7 111 rfl rfl)⟩
theorem cb_X12_min : CBs M_X12_min 2 := ⟨⟨(inB6 167 rfl rfl), in_X12, nh_X12.1, nh_X12.2, pd_8, by decide⟩, (inB6 166 rfl rfl)⟩
theorem cb_X12_max : CBs M_X12_max 2 := ⟨⟨(inB8 124 rfl rfl), in_X12, nh_X12.1, nh_X12.2, pd_8, by decide⟩, (inB8 123 rfl rfl)⟩
theorem cb_X12_has : CBs M_X12_has 2 := ⟨⟨(inB6 163 rfl rfl), in_X12, nh_X12.1, nh_X12.2, pd_10, by decide⟩, (inB6 162 rfl rfl)⟩
theorem cb_X12_bits : CBs M_X12_bits 1 := ⟨⟨(inB8 98 rfl rfl), in_X12, nh_X12.1, nh_X12.2, pd_4, by decide⟩, (inB8 97 rfl rfl)⟩
theorem cb_X12_copies : CBs M_X12_copies 2 := ⟨⟨(inB8 63 rfl rfl), in_X12, nh_X12.1, nh_X12.2, pd_44, by decide⟩, (inB8 62 rfl rfl)⟩
theorem cb_X12_isStreet : CBv M_X12_isStreet 12 1 := ⟨⟨(inB6 160 rfl rfl), in_X12, nh_X12.1, nh_X12.2, pd_7, by decide⟩, (inB6 159 rfl rfl), (inP4 13 rfl), TX12, 59, rfl⟩
theorem cb_X12_isCart : CBv M_X12_isCart 12 1 := ⟨⟨(inB8 10 rfl rfl), in_X12, nh_X12.1, nh_X12.2, pd_7, by decide⟩, (inB8 9 rfl rfl), (inP6 6 rfl), TX12, 59, rfl⟩
theorem cb_X12_laysWays : CBv M_X12_laysWays 12 2 := ⟨⟨(inB6 156 rfl rfl), in_X12, nh_X12.1, nh_X12.2, pd_9, by decide⟩, (inB6 155 rfl rfl), (inP4 12 rfl), TX12, 59, rfl⟩
theorem cb_X12_farOf : CBv M_X12_farOf 12 2 := ⟨⟨(inB8 25 rfl rfl), in_X12, nh_X12.1, nh_X12.2, pd_8, by decide⟩, (inB8 24 rfl rfl), (inP6 9 rfl), TX12, 59, rfl⟩
theorem cb_X12_street : CBv M_X12_street 12 4 := ⟨⟨(inB7 109 rfl rfl), in_X12, nh_X12.1, nh_X12.2, pd_16, by decide⟩, (inB7 107 rfl rfl), (inB7 108 rfl rfl), TX12, 59, rfl⟩
theorem cb_X12_cart : CBv M_X12_cart 12 2 := ⟨⟨(inB7 116 rfl rfl), in_X12, nh_X12.1, nh_X12.2, pd_10, by decide⟩, (inB7 114 rfl rfl), (inB7 115 rfl rfl), TX12, 59, rfl⟩
theorem cb_X12_pour : CBv M_X12_pour 12 2 := ⟨⟨(inB7 120 rfl rfl), in_X12, nh_X12.1, nh_X12.2, pd_8, by decide⟩, (inB7 118 rfl rfl), (inB7 119 rfl rfl), TX12, 59, rfl⟩
theorem cb_X12_types : CBv M_X12_types 12 1 := ⟨⟨(inB7 128 rfl rfl), in_X12, nh_X12.1, nh_X12.2, pd_6, by decide⟩, (inB7 127 rfl rfl), (inP4 14 rfl), TX12, 59, rfl⟩
theorem cb_X12_feed : CBv M_X12_feed 12 5 := ⟨⟨(inB7 124 rfl rfl), in_X12, nh_X12.1, nh_X12.2, pd_17, by decide⟩, (inB7 122 rfl rfl), (inB7 123 rfl rfl), TX12, 59, rfl⟩
theorem cb_X12_here : CBv M_X12_here 12 0 := ⟨⟨(inB7 140 rfl rfl), in_X12, nh_X12.1, nh_X12.2, pd_0, by decide⟩, (inB7 139 rfl rfl), (inP5 0 rfl), TX12, 59, rfl⟩
theorem cb_X12_isDigit : CBv M_X12_isDigit 12 0 := ⟨⟨(inB7 164 rfl rfl), in_X12, nh_X12.1, nh_X12.2, pd_3, by decide⟩, (inB7 163 rfl rfl), (inP5 5 rfl), TX12, 59, rfl⟩
theorem cb_X12_wrongAt : CBv M_X12_wrongAt 12 2 := ⟨⟨(inB7 147 rfl rfl), in_X12, nh_X12.1, nh_X12.2, pd_10, by decide⟩, (inB7 146 rfl rfl), (inP5 1 rfl), TX12, 59, rfl⟩
theorem cb_X12_takes : CBv M_X12_takes 12 1 := ⟨⟨(inB7 214 rfl rfl), in_X12, nh_X12.1, nh_X12.2, pd_7, by decide⟩, (inB7 213 rfl rfl), (inP6 0 rfl), TX12, 59, rfl⟩
theorem cb_X12_readsNumber : CBv M_X12_readsNumber 12 0 := ⟨⟨(inB7 168 rfl rfl), in_X12, nh_X12.1, nh_X12.2, pd_3, by decide⟩, (inB7 167 rfl rfl), (inP5 6 rfl), TX12, 59, rfl⟩
theorem cb_X12_notes : CBv M_X12_notes 12 2 := ⟨⟨(inB7 172 rfl rfl), in_X12, nh_X12.1, nh_X12.2, pd_9, by decide⟩, (inB7 171 rfl rfl), (inP5 7 rfl), TX12, 59, rfl⟩
theorem cb_X12_opens : CBv M_X12_opens 12 1 := ⟨⟨(inB7 159 rfl rfl), in_X12, nh_X12.1, nh_X12.2, pd_7, by decide⟩, (inB7 158 rfl rfl), (inP5 4 rfl), TX12, 59, rfl⟩
theorem cb_X12_waitTop : CBv M_X12_waitTop 12 0 := ⟨⟨(inB7 186 rfl rfl), in_X12, nh_X12.1, nh_X12.2, pd_0, by decide⟩, (inB7 185 rfl rfl), (inP5 9 rfl), TX12, 59, rfl⟩
theorem cb_X12_factOf : CBs M_X12_factOf 1 := ⟨⟨(inB7 175 rfl rfl), in_X12, nh_X12.1, nh_X12.2, pd_4, by decide⟩, (inB7 174 rfl rfl)⟩
theorem cb_X12_sumSign : CBs M_X12_sumSign 1 := ⟨⟨(inB7 178 rfl rfl), in_X12, nh_X12.1, nh_X12.2, pd_4, by decide⟩, (inB7 177 rfl rfl)⟩
theorem cb_X12_closesSums : CBv M_X12_closesSums 12 1 := ⟨⟨(inB7 182 rfl rfl), in_X12, nh_X12.1, nh_X12.2, pd_39, by decide⟩, (inB7 181 rfl rfl), (inP5 8 rfl), TX12, 59, rfl⟩
theorem cb_X12_readsFactor : CBv M_X12_readsFactor 12 0 := ⟨⟨(inB7 155 rfl rfl), in_X12, nh_X12.1, nh_X12.2, pd_3, by decide⟩, (inB7 154 rfl rfl), (inP5 3 rfl), TX12, 59, rfl⟩
theorem cb_X12_hasOpenSum : CBv M_X12_hasOpenSum 12 1 := ⟨⟨(inB7 190 rfl rfl), in_X12, nh_X12.1, nh_X12.2, pd_7, by decide⟩, (inB7 189 rfl rfl), (inP5 10 rfl), TX12, 59, rfl⟩
theorem cb_X12_readsSum : CBv M_X12_readsSum 12 0 := ⟨⟨(inB7 151 rfl rfl), in_X12, nh_X12.1, nh_X12.2, pd_3, by decide⟩, (inB7 150 rfl rfl), (inP5 2 rfl), TX12, 59, rfl⟩
theorem cb_X12_endsPiece : CBv M_X12_endsPiece 12 0 := ⟨⟨(inB7 202 rfl rfl), in_X12, nh_X12.1, nh_X12.2, pd_2, by decide⟩, (inB7 201 rfl rfl), (inP5 13 rfl), TX12, 59, rfl⟩
theorem cb_X12_lands : CBv M_X12_lands 12 1 := ⟨⟨(inB7 206 rfl rfl), in_X12, nh_X12.1, nh_X12.2, pd_39, by decide⟩, (inB7 205 rfl rfl), (inP5 14 rfl), TX12, 59, rfl⟩
theorem cb_X12_jumps : CBv M_X12_jumps 12 1 := ⟨⟨(inB7 210 rfl rfl), in_X12, nh_X12.1, nh_X12.2, pd_6, by decide⟩, (inB7 209 rfl rfl), (inP5 15 rfl), TX12, 59, rfl⟩
theorem cb_X12_readsCompared : CBv M_X12_readsCompared 12 0 := ⟨⟨(inB7 198 rfl rfl), in_X12, nh_X12.1, nh_X12.2, pd_3, by decide⟩, (inB7 197 rfl rfl), (inP5 12 rfl), TX12, 59, rfl⟩
theorem cb_X12_readsCondition : CBv M_X12_readsCondition 12 0 := ⟨⟨(inB7 194 rfl rfl), in_X12, nh_X12.1, nh_X12.2, pd_3, by decide⟩, (inB7 193 rfl rfl), (inP5 11 rfl), TX12, 59, rfl⟩
theorem cb_X12_isClause : CBs M_X12_isClause 1 := ⟨⟨(inB7 143 rfl rfl), in_X12, nh_X12.1, nh_X12.2, pd_7, by decide⟩, (inB7 142 rfl rfl)⟩
theorem cb_X12_readsClause : CBv M_X12_readsClause 12 0 := ⟨⟨(inB7 136 rfl rfl), in_X12, nh_X12.1, nh_X12.2, pd_3, by decide⟩, (inB7 135 rfl rfl), (inP4 15 rfl), TX12, 59, rfl⟩
theorem cb_X12_law : CBv M_X12_law 12 1 := ⟨⟨(inB7 132 rfl rfl), in_X12, nh_X12.1, nh_X12.2, pd_4, by decide⟩, (inB7 130 rfl rfl), (inB7 131 rfl rfl), TX12, 59, rfl⟩
theorem cb_X12_reckon : CBs M_X12_reckon 3 := ⟨⟨(inB8 44 rfl rfl), in_X12, nh_X12.1, nh_X12.2, pd_11, by decide⟩, (inB8 43 rfl rfl)⟩
theorem cb_X12_comesTo : CBv M_X12_comesTo 12 2 := ⟨⟨(inB8 41 rfl rfl), in_X12, nh_X12.1, nh_X12.2, pd_8, by decide⟩, (inB8 40 rfl rfl), (inP6 13 rfl), TX12, 59, rfl⟩
theorem cb_X12_byLaw : CBv M_X12_byLaw 12 2 := ⟨⟨(inB8 37 rfl rfl), in_X12, nh_X12.1, nh_X12.2, pd_8, by decide⟩, (inB8 36 rfl rfl), (inP6 12 rfl), TX12, 59, rfl⟩
theorem cb_X12_feels : CBv M_X12_feels 12 3 := ⟨⟨(inB8 33 rfl rfl), in_X12, nh_X12.1, nh_X12.2, pd_12, by decide⟩, (inB8 32 rfl rfl), (inP6 11 rfl), TX12, 59, rfl⟩
theorem cb_X12_byStreet : CBv M_X12_byStreet 12 3 := ⟨⟨(inB8 52 rfl rfl), in_X12, nh_X12.1, nh_X12.2, pd_11, by decide⟩, (inB8 51 rfl rfl), (inP6 15 rfl), TX12, 59, rfl⟩
theorem cb_X12_readsTwo : CBv M_X12_readsTwo 12 0 := ⟨⟨(inB7 230 rfl rfl), in_X12, nh_X12.1, nh_X12.2, pd_3, by decide⟩, (inB7 229 rfl rfl), (inP6 3 rfl), TX12, 59, rfl⟩
theorem cb_X12_isLetterHere : CBv M_X12_isLetterHere 12 0 := ⟨⟨(inB7 226 rfl rfl), in_X12, nh_X12.1, nh_X12.2, pd_3, by decide⟩, (inB7 225 rfl rfl), (inP6 2 rfl), TX12, 59, rfl⟩
theorem cb_X12_readsLine : CBv M_X12_readsLine 12 0 := ⟨⟨(inB7 222 rfl rfl), in_X12, nh_X12.1, nh_X12.2, pd_3, by decide⟩, (inB7 221 rfl rfl), (inP6 1 rfl), TX12, 59, rfl⟩
theorem cb_X12_roads : CBv M_X12_roads 12 1 := ⟨⟨(inB7 218 rfl rfl), in_X12, nh_X12.1, nh_X12.2, pd_4, by decide⟩, (inB7 216 rfl rfl), (inB7 217 rfl rfl), TX12, 59, rfl⟩
theorem cb_X12_readsStop : CBv M_X12_readsStop 12 0 := ⟨⟨(inB7 238 rfl rfl), in_X12, nh_X12.1, nh_X12.2, pd_3, by decide⟩, (inB7 237 rfl rfl), (inP6 4 rfl), TX12, 59, rfl⟩
theorem cb_X12_plan : CBv M_X12_plan 12 2 := ⟨⟨(inB7 234 rfl rfl), in_X12, nh_X12.1, nh_X12.2, pd_8, by decide⟩, (inB7 232 rfl rfl), (inB7 233 rfl rfl), TX12, 59, rfl⟩
theorem cb_X12_placeOf : CBs M_X12_placeOf 1 := ⟨⟨(inB8 21 rfl rfl), in_X12, nh_X12.1, nh_X12.2, pd_4, by decide⟩, (inB8 20 rfl rfl)⟩
theorem cb_X12_canCome : CBv M_X12_canCome 12 2 := ⟨⟨(inB8 18 rfl rfl), in_X12, nh_X12.1, nh_X12.2, pd_10, by decide⟩, (inB8 17 rfl rfl), (inP6 8 rfl), TX12, 59, rfl⟩
theorem cb_X12_goesOn : CBv M_X12_goesOn 12 2 := ⟨⟨(inB8 14 rfl rfl), in_X12, nh_X12.1, nh_X12.2, pd_9, by decide⟩, (inB8 13 rfl rfl), (inP6 7 rfl), TX12, 59, rfl⟩
theorem cb_X12_arrives : CBv M_X12_arrives 12 2 := ⟨⟨(inB8 29 rfl rfl), in_X12, nh_X12.1, nh_X12.2, pd_9, by decide⟩, (inB8 28 rfl rfl), (inP6 10 rfl), TX12, 59, rfl⟩
theorem cb_X12_hourEnds : CBv M_X12_hourEnds 12 1 := ⟨⟨(inB8 48 rfl rfl), in_X12, nh_X12.1, nh_X12.2, pd_6, by decide⟩, (inB8 47 rfl rfl), (inP6 14 rfl), TX12, 59, rfl⟩
theorem cb_X12_goesNight : CBv M_X12_goesNight 12 0 := ⟨⟨(inB8 6 rfl rfl), in_X12, nh_X12.1, nh_X12.2, pd_2, by decide⟩, (inB8 5 rfl rfl), (inP6 5 rfl), TX12, 59, rfl⟩
theorem cb_X12_yardsAll : CBv M_X12_yardsAll 12 0 := ⟨⟨(inB8 56 rfl rfl), in_X12, nh_X12.1, nh_X12.2, pd_0, by decide⟩, (inB8 55 rfl rfl), (inP7 0 rfl), TX12, 59, rfl⟩
theorem cb_X12_nights : CBv M_X12_nights 12 1 := ⟨⟨(inB8 2 rfl rfl), in_X12, nh_X12.1, nh_X12.2, pd_4, by decide⟩, (inB8 0 rfl rfl), (inB8 1 rfl rfl), TX12, 59, rfl⟩
theorem cb_X12_tried : CBv M_X12_tried 12 1 := ⟨⟨(inB8 60 rfl rfl), in_X12, nh_X12.1, nh_X12.2, pd_4, by decide⟩, (inB8 58 rfl rfl), (inB8 59 rfl rfl), TX12, 59, rfl⟩
theorem cb_X12_lastOf : CBv M_X12_lastOf 12 1 := ⟨⟨(inB8 67 rfl rfl), in_X12, nh_X12.1, nh_X12.2, pd_4, by decide⟩, (inB8 66 rfl rfl), (inP7 1 rfl), TX12, 59, rfl⟩
theorem cb_X12_sleptBy : CBv M_X12_sleptBy 12 0 := ⟨⟨(inB8 75 rfl rfl), in_X12, nh_X12.1, nh_X12.2, pd_0, by decide⟩, (inB8 74 rfl rfl), (inP7 2 rfl), TX12, 59, rfl⟩
theorem cb_X12_strike : CBv M_X12_strike 12 1 := ⟨⟨(inB8 71 rfl rfl), in_X12, nh_X12.1, nh_X12.2, pd_4, by decide⟩, (inB8 69 rfl rfl), (inB8 70 rfl rfl), TX12, 59, rfl⟩
theorem cb_X12_sleepsAll : CBv M_X12_sleepsAll 12 1 := ⟨⟨(inB8 83 rfl rfl), in_X12, nh_X12.1, nh_X12.2, pd_7, by decide⟩, (inB8 82 rfl rfl), (inP7 3 rfl), TX12, 59, rfl⟩
theorem cb_X12_enough : CBv M_X12_enough 12 1 := ⟨⟨(inB8 79 rfl rfl), in_X12, nh_X12.1, nh_X12.2, pd_4, by decide⟩, (inB8 77 rfl rfl), (inB8 78 rfl rfl), TX12, 59, rfl⟩
theorem cb_X12_oneStop : CBv M_X12_oneStop 12 3 := ⟨⟨(inB8 87 rfl rfl), in_X12, nh_X12.1, nh_X12.2, pd_11, by decide⟩, (inB8 85 rfl rfl), (inB8 86 rfl rfl), TX12, 59, rfl⟩
theorem cb_X12_way : CBv M_X12_way 12 2 := ⟨⟨(inB8 91 rfl rfl), in_X12, nh_X12.1, nh_X12.2, pd_8, by decide⟩, (inB8 89 rfl rfl), (inB8 90 rfl rfl), TX12, 59, rfl⟩
theorem cb_X12_laysWho : CBv M_X12_laysWho 12 1 := ⟨⟨(inB8 102 rfl rfl), in_X12, nh_X12.1, nh_X12.2, pd_4, by decide⟩, (inB8 101 rfl rfl), (inP7 4 rfl), TX12, 59, rfl⟩
theorem cb_X12_readsRow : CBv M_X12_readsRow 12 2 := ⟨⟨(inB8 109 rfl rfl), in_X12, nh_X12.1, nh_X12.2, pd_10, by decide⟩, (inB8 108 rfl rfl), (inP7 5 rfl), TX12, 59, rfl⟩
theorem cb_X12_codesFor : CBs M_X12_codesFor 2 := ⟨⟨(inB8 105 rfl rfl), in_X12, nh_X12.1, nh_X12.2, pd_8, by decide⟩, (inB8 104 rfl rfl)⟩
theorem cb_X12_roundBy : CBv M_X12_roundBy 12 2 := ⟨⟨(inB8 113 rfl rfl), in_X12, nh_X12.1, nh_X12.2, pd_8, by decide⟩, (inB8 112 rfl rfl), (inP7 6 rfl), TX12, 59, rfl⟩
theorem cb_X12_round : CBv M_X12_round 12 3 := ⟨⟨(inB8 95 rfl rfl), in_X12, nh_X12.1, nh_X12.2, pd_11, by decide⟩, (inB8 93 rfl rfl), (inB8 94 rfl rfl), TX12, 59, rfl⟩
theorem cb_X12_needFor : CBv M_X12_needFor 12 2 := ⟨⟨(inB8 121 rfl rfl), in_X12, nh_X12.1, nh_X12.2, pd_8, by decide⟩, (inB8 120 rfl rfl), (inP7 7 rfl), TX12, 59, rfl⟩
theorem cb_X12_share : CBv M_X12_share 12 3 := ⟨⟨(inB8 117 rfl rfl), in_X12, nh_X12.1, nh_X12.2, pd_11, by decide⟩, (inB8 115 rfl rfl), (inB8 116 rfl rfl), TX12, 59, rfl⟩
theorem cb_X12_sleepful : CBv M_X12_sleepful 12 3 := ⟨⟨(inB8 128 rfl rfl), in_X12, nh_X12.1, nh_X12.2, pd_11, by decide⟩, (inB8 126 rfl rfl), (inB8 127 rfl rfl), TX12, 59, rfl⟩
theorem cb_X12_laysReach : CBv M_X12_laysReach 12 0 := ⟨⟨(inB8 136 rfl rfl), in_X12, nh_X12.1, nh_X12.2, pd_2, by decide⟩, (inB8 135 rfl rfl), (inP7 8 rfl), TX12, 59, rfl⟩
theorem cb_X12_bestBy : CBv M_X12_bestBy 12 1 := ⟨⟨(inB8 140 rfl rfl), in_X12, nh_X12.1, nh_X12.2, pd_41, by decide⟩, (inB8 139 rfl rfl), (inP7 9 rfl), TX12, 59, rfl⟩
theorem cb_X12_pitAt : CBv M_X12_pitAt 12 1 := ⟨⟨(inB8 132 rfl rfl), in_X12, nh_X12.1, nh_X12.2, pd_4, by decide⟩, (inB8 130 rfl rfl), (inB8 131 rfl rfl), TX12, 59, rfl⟩
theorem cb_X12_cut : CBv M_X12_cut 12 1 := ⟨⟨(inB8 144 rfl rfl), in_X12, nh_X12.1, nh_X12.2, pd_4, by decide⟩, (inB8 142 rfl rfl), (inB8 143 rfl rfl), TX12, 59, rfl⟩
theorem cb_X12_spared : CBv M_X12_spared 12 1 := ⟨⟨(inB8 152 rfl rfl), in_X12, nh_X12.1, nh_X12.2, pd_4, by decide⟩, (inB8 151 rfl rfl), (inP7 10 rfl), TX12, 59, rfl⟩
theorem cb_X12_out : CBv M_X12_out 12 2 := ⟨⟨(inB8 148 rfl rfl), in_X12, nh_X12.1, nh_X12.2, pd_8, by decide⟩, (inB8 146 rfl rfl), (inB8 147 rfl rfl), TX12, 59, rfl⟩
theorem cb_X12_longestBy : CBv M_X12_longestBy 12 3 := ⟨⟨(inB8 160 rfl rfl), in_X12, nh_X12.1, nh_X12.2, pd_11, by decide⟩, (inB8 159 rfl rfl), (inP7 11 rfl), TX12, 59, rfl⟩
theorem cb_X12_jobs : CBv M_X12_jobs 12 3 := ⟨⟨(inB8 156 rfl rfl), in_X12, nh_X12.1, nh_X12.2, pd_11, by decide⟩, (inB8 154 rfl rfl), (inB8 155 rfl rfl), TX12, 59, rfl⟩
theorem cb_X12_load : CBv M_X12_load 12 3 := ⟨⟨(inB8 164 rfl rfl), in_X12, nh_X12.1, nh_X12.2, pd_11, by decide⟩, (inB8 162 rfl rfl), (inB8 163 rfl rfl), TX12, 59, rfl⟩
theorem cb_X12_missingBy : CBv M_X12_missingBy 12 1 := ⟨⟨(inB8 172 rfl rfl), in_X12, nh_X12.1, nh_X12.2, pd_4, by decide⟩, (inB8 171 rfl rfl), (inP7 12 rfl), TX12, 59, rfl⟩
theorem cb_X12_brides : CBv M_X12_brides 12 2 := ⟨⟨(inB8 168 rfl rfl), in_X12, nh_X12.1, nh_X12.2, pd_8, by decide⟩, (inB8 166 rfl rfl), (inB8 167 rfl rfl), TX12, 59, rfl⟩
theorem cb_X12_thieves : CBv M_X12_thieves 12 3 := ⟨⟨(inB8 176 rfl rfl), in_X12, nh_X12.1, nh_X12.2, pd_11, by decide⟩, (inB8 174 rfl rfl), (inB8 175 rfl rfl), TX12, 59, rfl⟩
theorem cb_X12_latest : CBv M_X12_latest 12 1 := ⟨⟨(inB8 180 rfl rfl), in_X12, nh_X12.1, nh_X12.2, pd_4, by decide⟩, (inB8 178 rfl rfl), (inB8 179 rfl rfl), TX12, 59, rfl⟩
theorem cb_X12_keep : CBv M_X12_keep 12 0 := ⟨⟨(inB8 184 rfl rfl), in_X12, nh_X12.1, nh_X12.2, pd_0, by decide⟩, (inB8 182 rfl rfl), (inB8 183 rfl rfl), TX12, 59, rfl⟩
theorem cb_X12_undo : CBv M_X12_undo 12 0 := ⟨⟨(inB8 188 rfl rfl), in_X12, nh_X12.1, nh_X12.2, pd_3, by decide⟩, (inB8 186 rfl rfl), (inB8 187 rfl rfl), TX12, 59, rfl⟩
theorem cb_X12_check : CBv M_X12_check 12 1 := ⟨⟨(inB8 192 rfl rfl), in_X12, nh_X12.1, nh_X12.2, pd_4, by decide⟩, (inB8 190 rfl rfl), (inB8 191 rfl rfl), TX12, 59, rfl⟩
theorem cb_X12_roadMany : CBv M_X12_roadMany 12 0 := ⟨⟨(inB8 200 rfl rfl), in_X12, nh_X12.1, nh_X12.2, pd_0, by decide⟩, (inB8 199 rfl rfl), (inP7 13 rfl), TX12, 59, rfl⟩
theorem cb_X12_streetIs : CBv M_X12_streetIs 12 2 := ⟨⟨(inB8 204 rfl rfl), in_X12, nh_X12.1, nh_X12.2, pd_8, by decide⟩, (inB8 203 rfl rfl), (inP7 14 rfl), TX12, 59, rfl⟩
theorem cb_X12_count : CBv M_X12_count 12 1 := ⟨⟨(inB8 196 rfl rfl), in_X12, nh_X12.1, nh_X12.2, pd_4, by decide⟩, (inB8 194 rfl rfl), (inB8 195 rfl rfl), TX12, 59, rfl⟩
theorem cb_J6_bitCount_0f7a4 : CBs M_J6_bitCount_0f7a4 1 := ⟨⟨(inB5 25 rfl rfl), in_J6, nh_J6.1, nh_J6.2, pd_4, by decide⟩, (inB5 24 rfl rfl)⟩
theorem wmax : Cond.static Lib.Math.max.name ∈ WS ∧ Cond.initialized "java/lang/Math" ∈ WS ∧ Cond.code Lib.Math.max.name Lib.Math.max.code 2 (some .int) ∈ WS := ⟨(inB3 112 rfl rfl), (inB1 14 rfl rfl), (inB3 113 rfl rfl)⟩
theorem wmin : Cond.static Lib.Math.min.name ∈ WS ∧ Cond.initialized "java/lang/Math" ∈ WS ∧ Cond.code Lib.Math.min.name Lib.Math.min.code 2 (some .int) ∈ WS := ⟨(inB2 200 rfl rfl), (inB1 14 rfl rfl), (inB2 201 rfl rfl)⟩
theorem wcopy : Cond.native arraycopyName ∈ WS ∧ Cond.static arraycopyName ∈ WS ∧ Cond.initialized "java/lang/System" ∈ WS := ⟨(inB3 214 rfl rfl), (inB3 213 rfl rfl), (inB1 20 rfl rfl)⟩
end
section
/-! by program: what each method's bytes are -/
set_option maxRecDepth 100000 in
theorem T_X0_isTold : Tab cX0_isTold [(0, .aload_n 0, 1), (1, .getfield 22, 3), (4, .ifCond .le 7, 3), (7, .iconst 1, 1), (8, .goto 4, 3), (11, .iconst 0, 1), (12, .ireturn, 1)] := Tab.of (by decide +kernel)
set_option maxRecDepth 100000 in
theorem T_X0_room : Tab cX0_room [(0, .aload_n 0, 1), (1, .getfield 22, 3), (4, .ireturn, 1)] := Tab.of (by decide +kernel)
set_option maxRecDepth 100000 in
theorem T_X0_tellRoom : Tab cX0_tellRoom [(0, .aload_n 0, 1), (1, .iload_n 1, 1), (2, .putfield 22, 3), (5, .return_, 1)] := Tab.of (by decide +kernel)
set_option maxRecDepth 100000 in
theorem T_X0_stops : Tab cX0_stops [(0, .aload_n 0, 1), (1, .getfield 26, 3), (4, .ireturn, 1)] := Tab.of (by decide +kernel)
set_option maxRecDepth 100000 in
theorem T_X0_streetOf : Tab cX0_streetOf [(0, .iload_n 1, 1), (1, .iconst 0, 1), (2, .aload_n 0, 1), (3, .getfield 26, 3), (6, .iconst 1, 1), (7, .isub, 1), (8, .invokestatic 29, 3), (11, .ifCond .eq 12, 3), (14, .aload_n 0, 1), (15, .getfield 9, 3), (18, .iload_n 1, 1), (19, .iaload, 1), (20, .goto 5, 3), (23, .bipush (-2), 2), (25, .ireturn, 1)] := Tab.of (by decide +kernel)
set_option maxRecDepth 100000 in
theorem T_X0_yardsOf : Tab cX0_yardsOf [(0, .iload_n 1, 1), (1, .iconst 0, 1), (2, .aload_n 0, 1), (3, .getfield 26, 3), (6, .iconst 1, 1), (7, .isub, 1), (8, .invokestatic 29, 3), (11, .ifCond .eq 12, 3), (14, .aload_n 0, 1), (15, .getfield 15, 3), (18, .iload_n 1, 1), (19, .iaload, 1), (20, .goto 4, 3), (23, .iconst 0, 1), (24, .ireturn, 1)] := Tab.of (by decide +kernel)
set_option maxRecDepth 100000 in
theorem T_X0_takesOnAt : Tab cX0_takesOnAt [(0, .iload_n 1, 1), (1, .iconst 0, 1), (2, .aload_n 0, 1), (3, .getfield 26, 3), (6, .iconst 1, 1), (7, .isub, 1), (8, .invokestatic 29, 3), (11, .ifCond .eq 16, 3), (14, .aload_n 0, 1), (15, .getfield 18, 3), (18, .iload_n 1, 1), (19, .baload, 1), (20, .ifCond .eq 7, 3), (23, .iconst 1, 1), (24, .goto 4, 3), (27, .iconst 0, 1), (28, .ireturn, 1)] := Tab.of (by decide +kernel)
set_option maxRecDepth 100000 in
theorem T_X0_readStops : Tab cX0_readStops [(0, .aload_n 0, 1), (1, .iconst 0, 1), (2, .putfield 26, 3), (5, .iconst 0, 1), (6, .istore_n 2, 1), (7, .iload_n 2, 1), (8, .bipush 16, 2), (10, .if_icmp .gt 37, 3), (13, .aload_n 1, 1), (14, .invokevirtual 33, 3), (17, .ifCond .eq 30, 3), (20, .aload_n 0, 1), (21, .aload_n 1, 1), (22, .invokevirtual 39, 3), (25, .aload_n 1, 1), (26, .invokevirtual 43, 3), (29, .ifCond .eq 6, 3), (32, .goto 15, 3), (35, .aload_n 1, 1), (36, .bipush 44, 2), (38, .invokevirtual 46, 3), (41, .iinc 2 1, 3), (44, .goto (-37), 3), (47, .aload_n 1, 1), (48, .invokevirtual 33, 3), (51, .ifCond .eq 10, 3), (54, .aload_n 0, 1), (55, .getfield 26, 3), (58, .goto 7, 3), (61, .aload_n 1, 1), (62, .invokevirtual 50, 3), (65, .ireturn, 1)] := Tab.of (by decide +kernel)
set_option maxRecDepth 100000 in
theorem T_X0_readStop : Tab cX0_readStop [(0, .aload_n 1, 1), (1, .bipush 43, 2), (3, .invokevirtual 54, 3), (6, .istore_n 2, 1), (7, .iload_n 2, 1), (8, .ifCond .eq 7, 3), (11, .iconst 0, 1), (12, .goto 10, 3), (15, .aload_n 1, 1), (16, .invokevirtual 58, 3), (19, .bipush 97, 2), (21, .isub, 1), (22, .istore_n 3, 1), (23, .iload_n 2, 1), (24, .ifCond .ne 18, 3), (27, .aload_n 1, 1), (28, .invokevirtual 61, 3), (31, .ifCond .ne 11, 3), (34, .aload_n 1, 1), (35, .iconst 1, 1), (36, .invokevirtual 64, 3), (39, .goto 17, 3), (42, .aload_n 0, 1), (43, .getfield 26, 3), (46, .bipush 16, 2), (48, .if_icmp .lt 8, 3), (51, .aload_n 1, 1), (52, .iconst 4, 1), (53, .invokevirtual 64, 3), (56, .aload_n 1, 1), (57, .invokevirtual 33, 3), (60, .ifCond .eq 18, 3), (63, .aload_n 1, 1), (64, .invokevirtual 67, 3), (67, .aload_n 0, 1), (68, .iload_n 2, 1), (69, .iload_n 3, 1), (70, .aload_n 1, 1), (71, .iconst 2, 1), (72, .invokevirtual 70, 3), (75, .invokevirtual 74, 3), (78, .return_, 1)] := Tab.of (by decide +kernel)
set_option maxRecDepth 100000 in
theorem T_X0_addStop : Tab cX0_addStop [(0, .aload_n 0, 1), (1, .getfield 26, 3), (4, .bipush 16, 2), (6, .if_icmp .ge 43, 3), (9, .aload_n 0, 1), (10, .getfield 18, 3), (13, .aload_n 0, 1), (14, .getfield 26, 3), (17, .iload_n 1, 1), (18, .bastore, 1), (19, .aload_n 0, 1), (20, .getfield 9, 3), (23, .aload_n 0, 1), (24, .getfield 26, 3), (27, .iload_n 2, 1), (28, .iastore, 1), (29, .aload_n 0, 1), (30, .getfield 15, 3), (33, .aload_n 0, 1), (34, .getfield 26, 3), (37, .iload_n 3, 1), (38, .iastore, 1), (39, .aload_n 0, 1), (40, .dup, 1), (41, .getfield 26, 3), (44, .iconst 1, 1), (45, .iadd, 1), (46, .putfield 26, 3), (49, .return_, 1)] := Tab.of (by decide +kernel)
set_option maxRecDepth 100000 in
theorem T_X0_planOneStop : Tab cX0_planOneStop [(0, .aload_n 0, 1), (1, .iconst 0, 1), (2, .putfield 26, 3), (5, .aload_n 0, 1), (6, .iconst 1, 1), (7, .iconst 0, 1), (8, .iload_n 1, 1), (9, .invokevirtual 74, 3), (12, .aload_n 0, 1), (13, .iconst 0, 1), (14, .iload_n 2, 1), (15, .iload_n 1, 1), (16, .invokevirtual 74, 3), (19, .return_, 1)] := Tab.of (by decide +kernel)
set_option maxRecDepth 100000 in
theorem T_X0_takeStopsOf : Tab cX0_takeStopsOf [(0, .aload_n 0, 1), (1, .iconst 0, 1), (2, .putfield 26, 3), (5, .iconst 0, 1), (6, .istore_n 2, 1), (7, .iload_n 2, 1), (8, .aload_n 1, 1), (9, .getfield 26, 3), (12, .if_icmp .ge 28, 3), (15, .aload_n 0, 1), (16, .aload_n 1, 1), (17, .iload_n 2, 1), (18, .invokevirtual 78, 3), (21, .aload_n 1, 1), (22, .iload_n 2, 1), (23, .invokevirtual 81, 3), (26, .aload_n 1, 1), (27, .iload_n 2, 1), (28, .invokevirtual 84, 3), (31, .invokevirtual 74, 3), (34, .iinc 2 1, 3), (37, .goto (-30), 3), (40, .return_, 1)] := Tab.of (by decide +kernel)
set_option maxRecDepth 100000 in
theorem T_X1_isTold : Tab cX1_isTold [(0, .iload_n 1, 1), (1, .ifCond .lt 25, 3), (4, .iload_n 1, 1), (5, .bipush 14, 2), (7, .if_icmp .ge 19, 3), (10, .aload_n 0, 1), (11, .getfield 27, 3), (14, .iload_n 1, 1), (15, .ishr, 1), (16, .iconst 1, 1), (17, .iand, 1), (18, .iconst 1, 1), (19, .if_icmp .ne 7, 3), (22, .iconst 1, 1), (23, .goto 4, 3), (26, .iconst 0, 1), (27, .ireturn, 1)] := Tab.of (by decide +kernel)
set_option maxRecDepth 100000 in
theorem T_X1_areTold : Tab cX1_areTold [(0, .iload_n 1, 1), (1, .aload_n 0, 1), (2, .getfield 27, 3), (5, .iconst (-1), 1), (6, .ixor, 1), (7, .iand, 1), (8, .ifCond .ne 19, 3), (11, .iload_n 1, 1), (12, .invokestatic 31, 3), (15, .iconst 1, 1), (16, .iload_n 2, 1), (17, .invokestatic 37, 3), (20, .ifCond .eq 7, 3), (23, .iconst 1, 1), (24, .goto 4, 3), (27, .iconst 0, 1), (28, .ireturn, 1)] := Tab.of (by decide +kernel)
set_option maxRecDepth 100000 in
theorem T_X1_toldStreets : Tab cX1_toldStreets [(0, .aload_n 0, 1), (1, .getfield 27, 3), (4, .ireturn, 1)] := Tab.of (by decide +kernel)
set_option maxRecDepth 100000 in
theorem T_X1_tell : Tab cX1_tell [(0, .iload_n 1, 1), (1, .iconst 0, 1), (2, .bipush 13, 2), (4, .invokestatic 37, 3), (7, .ifCond .eq 37, 3), (10, .aload_n 0, 1), (11, .getfield 9, 3), (14, .iload_n 1, 1), (15, .iload_n 2, 1), (16, .iastore, 1), (17, .aload_n 0, 1), (18, .getfield 15, 3), (21, .iload_n 1, 1), (22, .iload_n 3, 1), (23, .iastore, 1), (24, .aload_n 0, 1), (25, .getfield 18, 3), (28, .iload_n 1, 1), (29, .iload 4, 2), (31, .iastore, 1), (32, .aload_n 0, 1), (33, .dup, 1), (34, .getfield 27, 3), (37, .iconst 1, 1), (38, .iload_n 1, 1), (39, .ishl, 1), (40, .ior, 1), (41, .putfield 27, 3), (44, .return_, 1)] := Tab.of (by decide +kernel)
set_option maxRecDepth 100000 in
theorem T_X1_housesOf : Tab cX1_housesOf [(0, .iload_n 1, 1), (1, .ifCond .lt 18, 3), (4, .iload_n 1, 1), (5, .bipush 14, 2), (7, .if_icmp .ge 12, 3), (10, .aload_n 0, 1), (11, .getfield 9, 3), (14, .iload_n 1, 1), (15, .iaload, 1), (16, .goto 4, 3), (19, .iconst 0, 1), (20, .ireturn, 1)] := Tab.of (by decide +kernel)
set_option maxRecDepth 100000 in
theorem T_X1_lampsOf : Tab cX1_lampsOf [(0, .iload_n 1, 1), (1, .ifCond .lt 18, 3), (4, .iload_n 1, 1), (5, .bipush 14, 2), (7, .if_icmp .ge 12, 3), (10, .aload_n 0, 1), (11, .getfield 15, 3), (14, .iload_n 1, 1), (15, .iaload, 1), (16, .goto 4, 3), (19, .iconst 0, 1), (20, .ireturn, 1)] := Tab.of (by decide +kernel)
set_option maxRecDepth 100000 in
theorem T_X1_starsOf : Tab cX1_starsOf [(0, .iload_n 1, 1), (1, .ifCond .lt 18, 3), (4, .iload_n 1, 1), (5, .bipush 14, 2), (7, .if_icmp .ge 12, 3), (10, .aload_n 0, 1), (11, .getfield 18, 3), (14, .iload_n 1, 1), (15, .iaload, 1), (16, .goto 4, 3), (19, .iconst 0, 1), (20, .ireturn, 1)] := Tab.of (by decide +kernel)
set_option maxRecDepth 100000 in
theorem T_X1_depthOf : Tab cX1_depthOf [(0, .iload_n 1, 1), (1, .ifCond .lt 18, 3), (4, .iload_n 1, 1), (5, .bipush 14, 2), (7, .if_icmp .ge 12, 3), (10, .aload_n 0, 1), (11, .getfield 21, 3), (14, .iload_n 1, 1), (15, .iaload, 1), (16, .goto 4, 3), (19, .iconst 0, 1), (20, .ireturn, 1)] := Tab.of (by decide +kernel)
set_option maxRecDepth 100000 in
theorem T_X1_deepen : Tab cX1_deepen [(0, .aload_n 0, 1), (1, .iload_n 1, 1), (2, .invokevirtual 41, 3), (5, .ifCond .eq 23, 3), (8, .aload_n 0, 1), (9, .getfield 21, 3), (12, .iload_n 1, 1), (13, .sipush 999, 3), (16, .aload_n 0, 1), (17, .getfield 21, 3), (20, .iload_n 1, 1), (21, .iaload, 1), (22, .iload_n 2, 1), (23, .iadd, 1), (24, .invokestatic 45, 3), (27, .iastore, 1), (28, .aload_n 0, 1), (29, .iload_n 1, 1), (30, .invokevirtual 51, 3), (33, .ireturn, 1)] := Tab.of (by decide +kernel)
set_option maxRecDepth 100000 in
theorem T_X1_copyDepths : Tab cX1_copyDepths [(0, .aload_n 0, 1), (1, .getfield 21, 3), (4, .iconst 0, 1), (5, .aload_n 1, 1), (6, .iconst 0, 1), (7, .bipush 14, 2), (9, .aload_n 1, 1), (10, .arraylength, 1), (11, .invokestatic 45, 3), (14, .invokestatic 54, 3), (17, .return_, 1)] := Tab.of (by decide +kernel)
set_option maxRecDepth 100000 in
theorem T_X1_night : Tab cX1_night [(0, .aload_n 0, 1), (1, .getfield 60, 3), (4, .ireturn, 1)] := Tab.of (by decide +kernel)
set_option maxRecDepth 100000 in
theorem T_X1_slept : Tab cX1_slept [(0, .aload_n 0, 1), (1, .getfield 63, 3), (4, .ireturn, 1)] := Tab.of (by decide +kernel)
set_option maxRecDepth 100000 in
theorem T_X1_swept : Tab cX1_swept [(0, .aload_n 0, 1), (1, .getfield 66, 3), (4, .ireturn, 1)] := Tab.of (by decide +kernel)
set_option maxRecDepth 100000 in
theorem T_X1_endNight : Tab cX1_endNight [(0, .aload_n 0, 1), (1, .dup, 1), (2, .getfield 63, 3), (5, .iload_n 1, 1), (6, .iadd, 1), (7, .putfield 63, 3), (10, .aload_n 0, 1), (11, .dup, 1), (12, .getfield 66, 3), (15, .iload_n 2, 1), (16, .iadd, 1), (17, .putfield 66, 3), (20, .aload_n 0, 1), (21, .dup, 1), (22, .getfield 60, 3), (25, .iconst 1, 1), (26, .iadd, 1), (27, .putfield 60, 3), (30, .iconst 0, 1), (31, .istore_n 3, 1), (32, .iload_n 3, 1), (33, .bipush 14, 2), (35, .if_icmp .ge 16, 3), (38, .aload_n 0, 1), (39, .getfield 21, 3), (42, .iload_n 3, 1), (43, .iconst 0, 1), (44, .iastore, 1), (45, .iinc 3 1, 3), (48, .goto (-16), 3), (51, .return_, 1)] := Tab.of (by decide +kernel)
set_option maxRecDepth 100000 in
theorem T_X1_store : Tab cX1_store [(0, .aload_n 0, 1), (1, .aload_n 0, 1), (2, .getfield 24, 3), (5, .invokevirtual 69, 3), (8, .aload_n 0, 1), (9, .iconst 1, 1), (10, .putfield 73, 3), (13, .aload_n 0, 1), (14, .aload_n 0, 1), (15, .getfield 60, 3), (18, .putfield 77, 3), (21, .aload_n 0, 1), (22, .aload_n 0, 1), (23, .getfield 63, 3), (26, .putfield 80, 3), (29, .aload_n 0, 1), (30, .aload_n 0, 1), (31, .getfield 66, 3), (34, .putfield 83, 3), (37, .iconst 0, 1), (38, .istore_n 1, 1), (39, .iconst 0, 1), (40, .istore_n 2, 1), (41, .iload_n 2, 1), (42, .bipush 14, 2), (44, .if_icmp .ge 18, 3), (47, .iload_n 1, 1), (48, .aload_n 0, 1), (49, .getfield 21, 3), (52, .iload_n 2, 1), (53, .iaload, 1), (54, .iadd, 1), (55, .istore_n 1, 1), (56, .iinc 2 1, 3), (59, .goto (-18), 3), (62, .iload_n 1, 1), (63, .ireturn, 1)] := Tab.of (by decide +kernel)
set_option maxRecDepth 100000 in
theorem T_X1_restore : Tab cX1_restore [(0, .aload_n 0, 1), (1, .getfield 73, 3), (4, .ifCond .eq 42, 3), (7, .aload_n 0, 1), (8, .getfield 24, 3), (11, .iconst 0, 1), (12, .aload_n 0, 1), (13, .getfield 21, 3), (16, .iconst 0, 1), (17, .bipush 14, 2), (19, .invokestatic 54, 3), (22, .aload_n 0, 1), (23, .aload_n 0, 1), (24, .getfield 77, 3), (27, .putfield 60, 3), (30, .aload_n 0, 1), (31, .aload_n 0, 1), (32, .getfield 80, 3), (35, .putfield 63, 3), (38, .aload_n 0, 1), (39, .aload_n 0, 1), (40, .getfield 83, 3), (43, .putfield 66, 3), (46, .aload_n 0, 1), (47, .getfield 73, 3), (50, .ireturn, 1)] := Tab.of (by decide +kernel)
set_option maxRecDepth 100000 in
theorem T_X2_clauses : Tab cX2_clauses [(0, .aload_n 0, 1), (1, .getfield 36, 3), (4, .ireturn, 1)] := Tab.of (by decide +kernel)
set_option maxRecDepth 100000 in
theorem T_X2_length : Tab cX2_length [(0, .aload_n 0, 1), (1, .getfield 40, 3), (4, .ireturn, 1)] := Tab.of (by decide +kernel)
set_option maxRecDepth 100000 in
theorem T_X2_clear : Tab cX2_clear [(0, .aload_n 0, 1), (1, .iconst 0, 1), (2, .putfield 36, 3), (5, .aload_n 0, 1), (6, .iconst 0, 1), (7, .putfield 40, 3), (10, .return_, 1)] := Tab.of (by decide +kernel)
set_option maxRecDepth 100000 in
theorem T_X2_addClause : Tab cX2_addClause [(0, .aload_n 0, 1), (1, .getfield 36, 3), (4, .bipush 16, 2), (6, .if_icmp .ge 56, 3), (9, .aload_n 0, 1), (10, .getfield 9, 3), (13, .aload_n 0, 1), (14, .getfield 36, 3), (17, .iload_n 1, 1), (18, .iastore, 1), (19, .aload_n 0, 1), (20, .getfield 15, 3), (23, .aload_n 0, 1), (24, .getfield 36, 3), (27, .iload_n 2, 1), (28, .iastore, 1), (29, .aload_n 0, 1), (30, .getfield 18, 3), (33, .aload_n 0, 1), (34, .getfield 36, 3), (37, .iload_n 3, 1), (38, .iastore, 1), (39, .aload_n 0, 1), (40, .getfield 21, 3), (43, .aload_n 0, 1), (44, .getfield 36, 3), (47, .aload_n 0, 1), (48, .getfield 40, 3), (51, .iastore, 1), (52, .aload_n 0, 1), (53, .dup, 1), (54, .getfield 36, 3), (57, .iconst 1, 1), (58, .iadd, 1), (59, .putfield 36, 3), (62, .return_, 1)] := Tab.of (by decide +kernel)
set_option maxRecDepth 100000 in
theorem T_X2_addSign : Tab cX2_addSign [(0, .aload_n 0, 1), (1, .getfield 40, 3), (4, .sipush 240, 3), (7, .if_icmp .ge 33, 3), (10, .aload_n 0, 1), (11, .getfield 24, 3), (14, .aload_n 0, 1), (15, .getfield 40, 3), (18, .iload_n 1, 1), (19, .iastore, 1), (20, .aload_n 0, 1), (21, .getfield 27, 3), (24, .aload_n 0, 1), (25, .getfield 40, 3), (28, .iload_n 2, 1), (29, .iastore, 1), (30, .aload_n 0, 1), (31, .dup, 1), (32, .getfield 40, 3), (35, .iconst 1, 1), (36, .iadd, 1), (37, .putfield 40, 3), (40, .return_, 1)] := Tab.of (by decide +kernel)
set_option maxRecDepth 100000 in
theorem T_X2_leadToEnd : Tab cX2_leadToEnd [(0, .iload_n 1, 1), (1, .iconst 0, 1), (2, .aload_n 0, 1), (3, .getfield 40, 3), (6, .iconst 1, 1), (7, .isub, 1), (8, .invokestatic 43, 3), (11, .ifCond .eq 13, 3), (14, .aload_n 0, 1), (15, .getfield 27, 3), (18, .iload_n 1, 1), (19, .aload_n 0, 1), (20, .getfield 40, 3), (23, .iastore, 1), (24, .return_, 1)] := Tab.of (by decide +kernel)
set_option maxRecDepth 100000 in
theorem T_X2_takeOver : Tab cX2_takeOver [(0, .aload_n 0, 1), (1, .aload_n 1, 1), (2, .getfield 36, 3), (5, .putfield 36, 3), (8, .aload_n 0, 1), (9, .aload_n 1, 1), (10, .getfield 40, 3), (13, .putfield 40, 3), (16, .aload_n 1, 1), (17, .getfield 9, 3), (20, .iconst 0, 1), (21, .aload_n 0, 1), (22, .getfield 9, 3), (25, .iconst 0, 1), (26, .bipush 16, 2), (28, .invokestatic 47, 3), (31, .aload_n 1, 1), (32, .getfield 15, 3), (35, .iconst 0, 1), (36, .aload_n 0, 1), (37, .getfield 15, 3), (40, .iconst 0, 1), (41, .bipush 16, 2), (43, .invokestatic 47, 3), (46, .aload_n 1, 1), (47, .getfield 18, 3), (50, .iconst 0, 1), (51, .aload_n 0, 1), (52, .getfield 18, 3), (55, .iconst 0, 1), (56, .bipush 16, 2), (58, .invokestatic 47, 3), (61, .aload_n 1, 1), (62, .getfield 21, 3), (65, .iconst 0, 1), (66, .aload_n 0, 1), (67, .getfield 21, 3), (70, .iconst 0, 1), (71, .bipush 16, 2), (73, .invokestatic 47, 3), (76, .aload_n 1, 1), (77, .getfield 24, 3), (80, .iconst 0, 1), (81, .aload_n 0, 1), (82, .getfield 24, 3), (85, .iconst 0, 1), (86, .sipush 240, 3), (89, .invokestatic 47, 3), (92, .aload_n 1, 1), (93, .getfield 27, 3), (96, .iconst 0, 1), (97, .aload_n 0, 1), (98, .getfield 27, 3), (101, .iconst 0, 1), (102, .sipush 240, 3), (105, .invokestatic 47, 3), (108, .return_, 1)] := Tab.of (by decide +kernel)
set_option maxRecDepth 100000 in
theorem T_X2_regardStreet : Tab cX2_regardStreet [(0, .aload_n 0, 1), (1, .getfield 30, 3), (4, .iconst 0, 1), (5, .iload_n 2, 1), (6, .iastore, 1), (7, .aload_n 0, 1), (8, .getfield 30, 3), (11, .iconst 1, 1), (12, .aload_n 1, 1), (13, .iload_n 2, 1), (14, .invokevirtual 53, 3), (17, .iastore, 1), (18, .aload_n 0, 1), (19, .getfield 30, 3), (22, .iconst 2, 1), (23, .iload_n 3, 1), (24, .iastore, 1), (25, .aload_n 0, 1), (26, .getfield 30, 3), (29, .iconst 3, 1), (30, .iload 4, 2), (32, .iastore, 1), (33, .aload_n 0, 1), (34, .getfield 30, 3), (37, .iconst 4, 1), (38, .aload_n 1, 1), (39, .iload_n 2, 1), (40, .invokevirtual 59, 3), (43, .iastore, 1), (44, .return_, 1)] := Tab.of (by decide +kernel)
set_option maxRecDepth 100000 in
theorem T_X2_regardTime : Tab cX2_regardTime [(0, .aload_n 0, 1), (1, .getfield 30, 3), (4, .iconst 5, 1), (5, .iload_n 1, 1), (6, .iastore, 1), (7, .aload_n 0, 1), (8, .getfield 30, 3), (11, .bipush 6, 2), (13, .iload_n 2, 1), (14, .iastore, 1), (15, .aload_n 0, 1), (16, .getfield 30, 3), (19, .bipush 7, 2), (21, .iload_n 3, 1), (22, .iastore, 1), (23, .return_, 1)] := Tab.of (by decide +kernel)
set_option maxRecDepth 100000 in
theorem T_X2_ask : Tab cX2_ask [(0, .iconst 0, 1), (1, .istore_n 2, 1), (2, .iload_n 2, 1), (3, .aload_n 0, 1), (4, .getfield 36, 3), (7, .if_icmp .ge 84, 3), (10, .iload_n 2, 1), (11, .bipush 16, 2), (13, .if_icmp .ge 78, 3), (16, .aload_n 0, 1), (17, .getfield 9, 3), (20, .iload_n 2, 1), (21, .iaload, 1), (22, .iload_n 1, 1), (23, .if_icmp .ne 62, 3), (26, .aload_n 0, 1), (27, .aload_n 0, 1), (28, .getfield 18, 3), (31, .iload_n 2, 1), (32, .iaload, 1), (33, .aload_n 0, 1), (34, .getfield 21, 3), (37, .iload_n 2, 1), (38, .iaload, 1), (39, .invokevirtual 62, 3), (42, .ifCond .eq 43, 3), (45, .iload_n 1, 1), (46, .bipush 117, 2), (48, .if_icmp .ne 8, 3), (51, .bipush 9, 2), (53, .goto 6, 3), (56, .sipush 999, 3), (59, .istore_n 3, 1), (60, .iconst 0, 1), (61, .iload_n 3, 1), (62, .aload_n 0, 1), (63, .aload_n 0, 1), (64, .getfield 15, 3), (67, .iload_n 2, 1), (68, .iaload, 1), (69, .aload_n 0, 1), (70, .getfield 18, 3), (73, .iload_n 2, 1), (74, .iaload, 1), (75, .invokevirtual 62, 3), (78, .invokestatic 66, 3), (81, .invokestatic 71, 3), (84, .ireturn, 1), (85, .iinc 2 1, 3), (88, .goto (-86), 3), (91, .iconst 0, 1), (92, .ireturn, 1)] := Tab.of (by decide +kernel)
set_option maxRecDepth 100000 in
theorem T_X2_reckon : Tab cX2_reckon [(0, .aload_n 0, 1), (1, .iconst 0, 1), (2, .putfield 74, 3), (5, .aload_n 0, 1), (6, .iconst 0, 1), (7, .putfield 77, 3), (10, .iload_n 1, 1), (11, .istore_n 3, 1), (12, .iload_n 3, 1), (13, .ifCond .lt 189, 3), (16, .iload_n 3, 1), (17, .iload_n 2, 1), (18, .if_icmp .ge 184, 3), (21, .iload_n 3, 1), (22, .sipush 240, 3), (25, .if_icmp .ge 177, 3), (28, .aload_n 0, 1), (29, .getfield 77, 3), (32, .ifCond .ne 170, 3), (35, .aload_n 0, 1), (36, .getfield 24, 3), (39, .iload_n 3, 1), (40, .iaload, 1), (41, .istore 4, 2), (43, .iload 4, 2), (45, .bipush 48, 2), (47, .if_icmp .ne 16, 3), (50, .aload_n 0, 1), (51, .aload_n 0, 1), (52, .getfield 27, 3), (55, .iload_n 3, 1), (56, .iaload, 1), (57, .invokevirtual 81, 3), (60, .goto 136, 3), (63, .iload 4, 2), (65, .bipush 97, 2), (67, .if_icmp .ne 20, 3), (70, .aload_n 0, 1), (71, .aload_n 0, 1), (72, .aload_n 0, 1), (73, .getfield 27, 3), (76, .iload_n 3, 1), (77, .iaload, 1), (78, .invokevirtual 85, 3), (81, .invokevirtual 81, 3), (84, .goto 112, 3), (87, .iload 4, 2), (89, .bipush 33, 2), (91, .if_icmp .ne 16, 3), (94, .aload_n 0, 1), (95, .iconst 1, 1), (96, .aload_n 0, 1), (97, .invokevirtual 88, 3), (100, .isub, 1), (101, .invokevirtual 81, 3), (104, .goto 92, 3), (107, .iload 4, 2), (109, .bipush 38, 2), (111, .if_icmp .eq 10, 3), (114, .iload 4, 2), (116, .bipush 124, 2), (118, .if_icmp .ne 56, 3), (121, .aload_n 0, 1), (122, .invokevirtual 88, 3), (125, .istore 5, 2), (127, .iload 5, 2), (129, .ifCond .ne 7, 3), (132, .iconst 1, 1), (133, .goto 4, 3), (136, .iconst 0, 1), (137, .iload 4, 2), (139, .bipush 38, 2), (141, .if_icmp .ne 7, 3), (144, .iconst 1, 1), (145, .goto 4, 3), (148, .iconst 0, 1), (149, .if_icmp .ne 22, 3), (152, .aload_n 0, 1), (153, .iload 5, 2), (155, .invokevirtual 81, 3), (158, .iload_n 3, 1), (159, .aload_n 0, 1), (160, .getfield 27, 3), (163, .iload_n 3, 1), (164, .iaload, 1), (165, .iconst 1, 1), (166, .isub, 1), (167, .invokestatic 71, 3), (170, .istore_n 3, 1), (171, .goto 25, 3), (174, .aload_n 0, 1), (175, .invokevirtual 88, 3), (178, .istore 5, 2), (180, .aload_n 0, 1), (181, .aload_n 0, 1), (182, .aload_n 0, 1), (183, .invokevirtual 88, 3), (186, .iload 4, 2), (188, .iload 5, 2), (190, .invokevirtual 92, 3), (193, .invokevirtual 81, 3), (196, .iinc 3 1, 3), (199, .goto (-187), 3), (202, .aload_n 0, 1), (203, .getfield 77, 3), (206, .ifCond .eq 7, 3), (209, .iconst 0, 1), (210, .goto 7, 3), (213, .aload_n 0, 1), (214, .invokevirtual 88, 3), (217, .ireturn, 1)] := Tab.of (by decide +kernel)
set_option maxRecDepth 100000 in
theorem T_X2_join : Tab cX2_join [(0, .iload_n 2, 1), (1, .lookupswitch 104 #[(42, 67), (43, 59), (45, 63), (60, 71), (61, 93), (62, 82)], 59), (60, .iload_n 1, 1), (61, .iload_n 3, 1), (62, .iadd, 1), (63, .ireturn, 1), (64, .iload_n 1, 1), (65, .iload_n 3, 1), (66, .isub, 1), (67, .ireturn, 1), (68, .iload_n 1, 1), (69, .iload_n 3, 1), (70, .imul, 1), (71, .ireturn, 1), (72, .iload_n 1, 1), (73, .iload_n 3, 1), (74, .if_icmp .ge 7, 3), (77, .iconst 1, 1), (78, .goto 4, 3), (81, .iconst 0, 1), (82, .ireturn, 1), (83, .iload_n 1, 1), (84, .iload_n 3, 1), (85, .if_icmp .le 7, 3), (88, .iconst 1, 1), (89, .goto 4, 3), (92, .iconst 0, 1), (93, .ireturn, 1), (94, .iload_n 1, 1), (95, .iload_n 3, 1), (96, .if_icmp .ne 7, 3), (99, .iconst 1, 1), (100, .goto 4, 3), (103, .iconst 0, 1), (104, .ireturn, 1), (105, .iload_n 3, 1), (106, .ifCond .ne 10, 3), (109, .aload_n 0, 1), (110, .iconst 1, 1), (111, .putfield 77, 3), (114, .iconst 0, 1), (115, .ireturn, 1), (116, .iload_n 2, 1), (117, .bipush 47, 2), (119, .if_icmp .ne 9, 3), (122, .iload_n 1, 1), (123, .iload_n 3, 1), (124, .idiv, 1), (125, .goto 6, 3), (128, .iload_n 1, 1), (129, .iload_n 3, 1), (130, .irem, 1), (131, .ireturn, 1)] := Tab.of (by decide +kernel)
set_option maxRecDepth 100000 in
theorem T_X2_factAt : Tab cX2_factAt [(0, .iload_n 1, 1), (1, .ifCond .lt 21, 3), (4, .iload_n 1, 1), (5, .aload_n 0, 1), (6, .getfield 30, 3), (9, .arraylength, 1), (10, .if_icmp .ge 12, 3), (13, .aload_n 0, 1), (14, .getfield 30, 3), (17, .iload_n 1, 1), (18, .iaload, 1), (19, .goto 4, 3), (22, .iconst 0, 1), (23, .ireturn, 1)] := Tab.of (by decide +kernel)
set_option maxRecDepth 100000 in
theorem T_X2_push : Tab cX2_push [(0, .aload_n 0, 1), (1, .getfield 74, 3), (4, .ifCond .lt 32, 3), (7, .aload_n 0, 1), (8, .getfield 74, 3), (11, .bipush 64, 2), (13, .if_icmp .ge 23, 3), (16, .aload_n 0, 1), (17, .getfield 33, 3), (20, .aload_n 0, 1), (21, .getfield 74, 3), (24, .iload_n 1, 1), (25, .iastore, 1), (26, .aload_n 0, 1), (27, .dup, 1), (28, .getfield 74, 3), (31, .iconst 1, 1), (32, .iadd, 1), (33, .putfield 74, 3), (36, .return_, 1)] := Tab.of (by decide +kernel)
set_option maxRecDepth 100000 in
theorem T_X2_pop : Tab cX2_pop [(0, .aload_n 0, 1), (1, .getfield 74, 3), (4, .iconst 1, 1), (5, .if_icmp .lt 12, 3), (8, .aload_n 0, 1), (9, .getfield 74, 3), (12, .bipush 64, 2), (14, .if_icmp .le 5, 3), (17, .iconst 0, 1), (18, .ireturn, 1), (19, .aload_n 0, 1), (20, .dup, 1), (21, .getfield 74, 3), (24, .iconst 1, 1), (25, .isub, 1), (26, .putfield 74, 3), (29, .aload_n 0, 1), (30, .getfield 33, 3), (33, .aload_n 0, 1), (34, .getfield 74, 3), (37, .iaload, 1), (38, .ireturn, 1)] := Tab.of (by decide +kernel)
set_option maxRecDepth 100000 in
theorem T_X3_fresh : Tab cX3_fresh [(0, .aload_n 0, 1), (1, .getfield 12, 3), (4, .areturn, 1)] := Tab.of (by decide +kernel)
set_option maxRecDepth 100000 in
theorem T_X3_read : Tab cX3_read [(0, .aload_n 0, 1), (1, .getfield 12, 3), (4, .invokevirtual 18, 3), (7, .iconst 0, 1), (8, .istore_n 2, 1), (9, .iload_n 2, 1), (10, .bipush 16, 2), (12, .if_icmp .gt 37, 3), (15, .aload_n 1, 1), (16, .invokevirtual 21, 3), (19, .ifCond .eq 30, 3), (22, .aload_n 0, 1), (23, .aload_n 1, 1), (24, .invokevirtual 27, 3), (27, .aload_n 1, 1), (28, .invokevirtual 31, 3), (31, .ifCond .eq 6, 3), (34, .goto 15, 3), (37, .aload_n 1, 1), (38, .bipush 59, 2), (40, .invokevirtual 34, 3), (43, .iinc 2 1, 3), (46, .goto (-37), 3), (49, .aload_n 1, 1), (50, .invokevirtual 21, 3), (53, .ifCond .eq 13, 3), (56, .aload_n 0, 1), (57, .getfield 12, 3), (60, .invokevirtual 38, 3), (63, .goto 7, 3), (66, .aload_n 1, 1), (67, .invokevirtual 42, 3), (70, .ireturn, 1)] := Tab.of (by decide +kernel)
set_option maxRecDepth 100000 in
theorem T_X3_readClause : Tab cX3_readClause [(0, .aload_n 1, 1), (1, .invokevirtual 45, 3), (4, .istore_n 2, 1), (5, .iload_n 2, 1), (6, .bipush 119, 2), (8, .if_icmp .eq 29, 3), (11, .iload_n 2, 1), (12, .bipush 99, 2), (14, .if_icmp .eq 23, 3), (17, .iload_n 2, 1), (18, .bipush 115, 2), (20, .if_icmp .eq 17, 3), (23, .iload_n 2, 1), (24, .bipush 117, 2), (26, .if_icmp .eq 11, 3), (29, .aload_n 1, 1), (30, .iconst 1, 1), (31, .invokevirtual 48, 3), (34, .goto 20, 3), (37, .aload_n 0, 1), (38, .getfield 12, 3), (41, .invokevirtual 38, 3), (44, .bipush 16, 2), (46, .if_icmp .lt 8, 3), (49, .aload_n 1, 1), (50, .iconst 4, 1), (51, .invokevirtual 48, 3), (54, .aload_n 1, 1), (55, .invokevirtual 21, 3), (58, .ifCond .ne 4, 3), (61, .return_, 1), (62, .aload_n 1, 1), (63, .invokevirtual 51, 3), (66, .aload_n 0, 1), (67, .getfield 12, 3), (70, .invokevirtual 54, 3), (73, .istore_n 3, 1), (74, .aload_n 0, 1), (75, .aload_n 1, 1), (76, .iconst 0, 1), (77, .invokevirtual 57, 3), (80, .aload_n 0, 1), (81, .getfield 12, 3), (84, .invokevirtual 54, 3), (87, .istore 4, 2), (89, .aload_n 1, 1), (90, .bipush 40, 2), (92, .invokevirtual 34, 3), (95, .aload_n 0, 1), (96, .aload_n 1, 1), (97, .iconst 1, 1), (98, .invokevirtual 61, 3), (101, .aload_n 1, 1), (102, .bipush 41, 2), (104, .invokevirtual 34, 3), (107, .aload_n 0, 1), (108, .getfield 12, 3), (111, .iload_n 2, 1), (112, .iload_n 3, 1), (113, .iload 4, 2), (115, .invokevirtual 64, 3), (118, .return_, 1)] := Tab.of (by decide +kernel)
set_option maxRecDepth 100000 in
theorem T_X3_readSum : Tab cX3_readSum [(0, .aload_n 0, 1), (1, .aload_n 1, 1), (2, .iload_n 2, 1), (3, .invokevirtual 68, 3), (6, .iconst 0, 1), (7, .istore_n 3, 1), (8, .iload_n 3, 1), (9, .sipush 240, 3), (12, .if_icmp .ge 53, 3), (15, .aload_n 1, 1), (16, .bipush 43, 2), (18, .invokevirtual 71, 3), (21, .ifCond .ne 12, 3), (24, .aload_n 1, 1), (25, .bipush 45, 2), (27, .invokevirtual 71, 3), (30, .ifCond .eq 35, 3), (33, .aload_n 1, 1), (34, .invokevirtual 45, 3), (37, .istore 4, 2), (39, .aload_n 1, 1), (40, .invokevirtual 51, 3), (43, .aload_n 0, 1), (44, .aload_n 1, 1), (45, .iload_n 2, 1), (46, .invokevirtual 68, 3), (49, .aload_n 0, 1), (50, .getfield 12, 3), (53, .iload 4, 2), (55, .iconst 0, 1), (56, .invokevirtual 75, 3), (59, .iinc 3 1, 3), (62, .goto (-54), 3), (65, .return_, 1)] := Tab.of (by decide +kernel)
set_option maxRecDepth 100000 in
theorem T_X3_readProduct : Tab cX3_readProduct [(0, .aload_n 0, 1), (1, .aload_n 1, 1), (2, .iload_n 2, 1), (3, .invokevirtual 79, 3), (6, .iconst 0, 1), (7, .istore_n 3, 1), (8, .iload_n 3, 1), (9, .sipush 240, 3), (12, .if_icmp .ge 42, 3), (15, .aload_n 1, 1), (16, .invokestatic 82, 3), (19, .ifCond .eq 35, 3), (22, .aload_n 1, 1), (23, .invokevirtual 45, 3), (26, .istore 4, 2), (28, .aload_n 1, 1), (29, .invokevirtual 51, 3), (32, .aload_n 0, 1), (33, .aload_n 1, 1), (34, .iload_n 2, 1), (35, .invokevirtual 79, 3), (38, .aload_n 0, 1), (39, .getfield 12, 3), (42, .iload 4, 2), (44, .iconst 0, 1), (45, .invokevirtual 75, 3), (48, .iinc 3 1, 3), (51, .goto (-43), 3), (54, .return_, 1)] := Tab.of (by decide +kernel)
set_option maxRecDepth 100000 in
theorem T_X3_seesProductSign : Tab cX3_seesProductSign [(0, .aload_n 0, 1), (1, .bipush 42, 2), (3, .invokevirtual 71, 3), (6, .ifCond .ne 21, 3), (9, .aload_n 0, 1), (10, .bipush 47, 2), (12, .invokevirtual 71, 3), (15, .ifCond .ne 12, 3), (18, .aload_n 0, 1), (19, .bipush 37, 2), (21, .invokevirtual 71, 3), (24, .ifCond .eq 7, 3), (27, .iconst 1, 1), (28, .goto 4, 3), (31, .iconst 0, 1), (32, .ireturn, 1)] := Tab.of (by decide +kernel)
set_option maxRecDepth 100000 in
theorem T_X3_readFactor : Tab cX3_readFactor [(0, .aload_n 1, 1), (1, .bipush 91, 2), (3, .invokevirtual 71, 3), (6, .ifCond .eq 29, 3), (9, .aload_n 0, 1), (10, .aload_n 1, 1), (11, .iload_n 2, 1), (12, .invokevirtual 86, 3), (15, .ifCond .eq 61, 3), (18, .aload_n 0, 1), (19, .aload_n 1, 1), (20, .iload_n 2, 1), (21, .iconst 1, 1), (22, .iadd, 1), (23, .invokevirtual 57, 3), (26, .aload_n 1, 1), (27, .bipush 93, 2), (29, .invokevirtual 34, 3), (32, .goto 44, 3), (35, .aload_n 1, 1), (36, .invokevirtual 90, 3), (39, .ifCond .eq 32, 3), (42, .aload_n 0, 1), (43, .getfield 12, 3), (46, .bipush 48, 2), (48, .aload_n 1, 1), (49, .iconst 5, 1), (50, .invokevirtual 93, 3), (53, .invokevirtual 75, 3), (56, .aload_n 1, 1), (57, .invokevirtual 90, 3), (60, .ifCond .eq 16, 3), (63, .aload_n 1, 1), (64, .iconst 2, 1), (65, .invokevirtual 48, 3), (68, .goto 8, 3), (71, .aload_n 0, 1), (72, .aload_n 1, 1), (73, .invokevirtual 97, 3), (76, .return_, 1)] := Tab.of (by decide +kernel)
set_option maxRecDepth 100000 in
theorem T_X3_readFact : Tab cX3_readFact [(0, .aload_n 1, 1), (1, .invokevirtual 31, 3), (4, .ifCond .eq 7, 3), (7, .iconst (-1), 1), (8, .goto 13, 3), (11, .ldc 100, 2), (13, .aload_n 1, 1), (14, .invokevirtual 45, 3), (17, .i2c, 1), (18, .invokevirtual 102, 3), (21, .istore_n 2, 1), (22, .iload_n 2, 1), (23, .ifCond .ge 11, 3), (26, .aload_n 1, 1), (27, .iconst 1, 1), (28, .invokevirtual 48, 3), (31, .goto 17, 3), (34, .aload_n 0, 1), (35, .getfield 12, 3), (38, .bipush 97, 2), (40, .iload_n 2, 1), (41, .invokevirtual 75, 3), (44, .aload_n 1, 1), (45, .invokevirtual 51, 3), (48, .return_, 1)] := Tab.of (by decide +kernel)
set_option maxRecDepth 100000 in
theorem T_X3_opens : Tab cX3_opens [(0, .iload_n 2, 1), (1, .bipush 6, 2), (3, .if_icmp .lt 10, 3), (6, .aload_n 1, 1), (7, .iconst 5, 1), (8, .invokevirtual 48, 3), (11, .iconst 0, 1), (12, .ireturn, 1), (13, .aload_n 1, 1), (14, .invokevirtual 51, 3), (17, .iconst 1, 1), (18, .ireturn, 1)] := Tab.of (by decide +kernel)
set_option maxRecDepth 100000 in
theorem T_X3_readChoice : Tab cX3_readChoice [(0, .aload_n 0, 1), (1, .aload_n 1, 1), (2, .iload_n 2, 1), (3, .invokevirtual 107, 3), (6, .iconst 0, 1), (7, .istore_n 3, 1), (8, .iload_n 3, 1), (9, .sipush 240, 3), (12, .if_icmp .ge 56, 3), (15, .aload_n 1, 1), (16, .bipush 124, 2), (18, .invokevirtual 71, 3), (21, .ifCond .eq 47, 3), (24, .aload_n 0, 1), (25, .getfield 12, 3), (28, .invokevirtual 54, 3), (31, .istore 4, 2), (33, .aload_n 0, 1), (34, .getfield 12, 3), (37, .bipush 124, 2), (39, .iconst 0, 1), (40, .invokevirtual 75, 3), (43, .aload_n 1, 1), (44, .invokevirtual 51, 3), (47, .aload_n 0, 1), (48, .aload_n 1, 1), (49, .iload_n 2, 1), (50, .invokevirtual 107, 3), (53, .aload_n 0, 1), (54, .getfield 12, 3), (57, .iload 4, 2), (59, .invokevirtual 110, 3), (62, .iinc 3 1, 3), (65, .goto (-57), 3), (68, .return_, 1)] := Tab.of (by decide +kernel)
set_option maxRecDepth 100000 in
theorem T_X3_readPart : Tab cX3_readPart [(0, .aload_n 0, 1), (1, .aload_n 1, 1), (2, .iload_n 2, 1), (3, .invokevirtual 113, 3), (6, .iconst 0, 1), (7, .istore_n 3, 1), (8, .iload_n 3, 1), (9, .sipush 240, 3), (12, .if_icmp .ge 56, 3), (15, .aload_n 1, 1), (16, .bipush 38, 2), (18, .invokevirtual 71, 3), (21, .ifCond .eq 47, 3), (24, .aload_n 0, 1), (25, .getfield 12, 3), (28, .invokevirtual 54, 3), (31, .istore 4, 2), (33, .aload_n 0, 1), (34, .getfield 12, 3), (37, .bipush 38, 2), (39, .iconst 0, 1), (40, .invokevirtual 75, 3), (43, .aload_n 1, 1), (44, .invokevirtual 51, 3), (47, .aload_n 0, 1), (48, .aload_n 1, 1), (49, .iload_n 2, 1), (50, .invokevirtual 113, 3), (53, .aload_n 0, 1), (54, .getfield 12, 3), (57, .iload 4, 2), (59, .invokevirtual 110, 3), (62, .iinc 3 1, 3), (65, .goto (-57), 3), (68, .return_, 1)] := Tab.of (by decide +kernel)
set_option maxRecDepth 100000 in
theorem T_X3_readTest : Tab cX3_readTest [(0, .aload_n 1, 1), (1, .bipush 33, 2), (3, .invokevirtual 71, 3), (6, .ifCond .eq 12, 3), (9, .aload_n 0, 1), (10, .aload_n 1, 1), (11, .iload_n 2, 1), (12, .invokevirtual 116, 3), (15, .goto 44, 3), (18, .aload_n 1, 1), (19, .bipush 40, 2), (21, .invokevirtual 71, 3), (24, .ifCond .eq 29, 3), (27, .aload_n 0, 1), (28, .aload_n 1, 1), (29, .iload_n 2, 1), (30, .invokevirtual 86, 3), (33, .ifCond .eq 26, 3), (36, .aload_n 0, 1), (37, .aload_n 1, 1), (38, .iload_n 2, 1), (39, .iconst 1, 1), (40, .iadd, 1), (41, .invokevirtual 61, 3), (44, .aload_n 1, 1), (45, .bipush 41, 2), (47, .invokevirtual 34, 3), (50, .goto 9, 3), (53, .aload_n 0, 1), (54, .aload_n 1, 1), (55, .iload_n 2, 1), (56, .invokevirtual 119, 3), (59, .return_, 1)] := Tab.of (by decide +kernel)
set_option maxRecDepth 100000 in
theorem T_X3_readNegation : Tab cX3_readNegation [(0, .aload_n 0, 1), (1, .aload_n 1, 1), (2, .iload_n 2, 1), (3, .invokevirtual 86, 3), (6, .ifCond .eq 21, 3), (9, .aload_n 0, 1), (10, .aload_n 1, 1), (11, .iload_n 2, 1), (12, .iconst 1, 1), (13, .iadd, 1), (14, .invokevirtual 113, 3), (17, .aload_n 0, 1), (18, .getfield 12, 3), (21, .bipush 33, 2), (23, .iconst 0, 1), (24, .invokevirtual 75, 3), (27, .return_, 1)] := Tab.of (by decide +kernel)
set_option maxRecDepth 100000 in
theorem T_X3_readComparison : Tab cX3_readComparison [(0, .aload_n 0, 1), (1, .aload_n 1, 1), (2, .iload_n 2, 1), (3, .invokevirtual 57, 3), (6, .aload_n 1, 1), (7, .bipush 60, 2), (9, .invokevirtual 71, 3), (12, .ifCond .ne 27, 3), (15, .aload_n 1, 1), (16, .bipush 62, 2), (18, .invokevirtual 71, 3), (21, .ifCond .ne 18, 3), (24, .aload_n 1, 1), (25, .bipush 61, 2), (27, .invokevirtual 71, 3), (30, .ifCond .ne 9, 3), (33, .aload_n 1, 1), (34, .iconst 1, 1), (35, .invokevirtual 48, 3), (38, .return_, 1), (39, .aload_n 1, 1), (40, .invokevirtual 45, 3), (43, .istore_n 3, 1), (44, .aload_n 1, 1), (45, .invokevirtual 51, 3), (48, .aload_n 0, 1), (49, .aload_n 1, 1), (50, .iload_n 2, 1), (51, .invokevirtual 57, 3), (54, .aload_n 0, 1), (55, .getfield 12, 3), (58, .iload_n 3, 1), (59, .iconst 0, 1), (60, .invokevirtual 75, 3), (63, .return_, 1)] := Tab.of (by decide +kernel)
set_option maxRecDepth 100000 in
theorem T_X4_missing : Tab cX4_missing [(0, .aload_n 0, 1), (1, .getfield 24, 3), (4, .ireturn, 1)] := Tab.of (by decide +kernel)
set_option maxRecDepth 100000 in
theorem T_X4_placeFor : Tab cX4_placeFor [(0, .iload_n 1, 1), (1, .iconst 0, 1), (2, .iconst 5, 1), (3, .invokestatic 28, 3), (6, .ifCond .eq 12, 3), (9, .aload_n 0, 1), (10, .getfield 21, 3), (13, .iload_n 1, 1), (14, .iaload, 1), (15, .goto 4, 3), (18, .iconst 0, 1), (19, .ireturn, 1)] := Tab.of (by decide +kernel)
set_option maxRecDepth 100000 in
theorem T_X4_find : Tab cX4_find [(0, .aload_n 0, 1), (1, .iload_n 2, 1), (2, .bipush 6, 2), (4, .invokestatic 32, 3), (7, .putfield 38, 3), (10, .iconst 0, 1), (11, .istore 4, 2), (13, .iload 4, 2), (15, .aload_n 0, 1), (16, .getfield 38, 3), (19, .if_icmp .ge 44, 3), (22, .aload_n 0, 1), (23, .getfield 9, 3), (26, .iload 4, 2), (28, .aload_n 1, 1), (29, .iload 4, 2), (31, .invokevirtual 41, 3), (34, .iastore, 1), (35, .aload_n 0, 1), (36, .getfield 15, 3), (39, .iload 4, 2), (41, .aload_n 3, 1), (42, .aload_n 1, 1), (43, .aload_n 0, 1), (44, .getfield 38, 3), (47, .iload 4, 2), (49, .iadd, 1), (50, .invokevirtual 41, 3), (53, .invokevirtual 47, 3), (56, .iastore, 1), (57, .iinc 4 1, 3), (60, .goto (-47), 3), (63, .aload_n 0, 1), (64, .ldc 54, 2), (66, .putfield 24, 3), (69, .aload_n 0, 1), (70, .iconst 0, 1), (71, .iconst 0, 1), (72, .iconst 0, 1), (73, .invokevirtual 55, 3), (76, .return_, 1)] := Tab.of (by decide +kernel)
set_option maxRecDepth 100000 in
theorem T_X4_match : Tab cX4_match [(0, .iload_n 3, 1), (1, .aload_n 0, 1), (2, .getfield 24, 3), (5, .if_icmp .lt 4, 3), (8, .return_, 1), (9, .iload_n 1, 1), (10, .aload_n 0, 1), (11, .getfield 38, 3), (14, .if_icmp .lt 24, 3), (17, .aload_n 0, 1), (18, .iload_n 3, 1), (19, .putfield 24, 3), (22, .aload_n 0, 1), (23, .getfield 18, 3), (26, .iconst 0, 1), (27, .aload_n 0, 1), (28, .getfield 21, 3), (31, .iconst 0, 1), (32, .bipush 6, 2), (34, .invokestatic 59, 3), (37, .return_, 1), (38, .iconst 0, 1), (39, .istore 4, 2), (41, .iload 4, 2), (43, .aload_n 0, 1), (44, .getfield 38, 3), (47, .if_icmp .ge 27, 3), (50, .iload_n 2, 1), (51, .iload 4, 2), (53, .invokestatic 65, 3), (56, .ifCond .ne 12, 3), (59, .aload_n 0, 1), (60, .iload 4, 2), (62, .iload_n 1, 1), (63, .iload_n 2, 1), (64, .iload_n 3, 1), (65, .invokevirtual 69, 3), (68, .iinc 4 1, 3), (71, .goto (-30), 3), (74, .return_, 1)] := Tab.of (by decide +kernel)
set_option maxRecDepth 100000 in
theorem T_X4_matchWith : Tab cX4_matchWith [(0, .aload_n 0, 1), (1, .getfield 18, 3), (4, .iload_n 2, 1), (5, .iload_n 1, 1), (6, .iastore, 1), (7, .aload_n 0, 1), (8, .iload_n 2, 1), (9, .iconst 1, 1), (10, .iadd, 1), (11, .iload_n 3, 1), (12, .iconst 1, 1), (13, .iload_n 1, 1), (14, .ishl, 1), (15, .ior, 1), (16, .iload 4, 2), (18, .iconst 0, 1), (19, .aload_n 0, 1), (20, .getfield 9, 3), (23, .iload_n 2, 1), (24, .iaload, 1), (25, .aload_n 0, 1), (26, .getfield 15, 3), (29, .iload_n 1, 1), (30, .iaload, 1), (31, .isub, 1), (32, .invokestatic 73, 3), (35, .iadd, 1), (36, .invokevirtual 55, 3), (39, .return_, 1)] := Tab.of (by decide +kernel)
set_option maxRecDepth 100000 in
theorem T_X5_slept : Tab cX5_slept [(0, .aload_n 0, 1), (1, .getfield 50, 3), (4, .ireturn, 1)] := Tab.of (by decide +kernel)
set_option maxRecDepth 100000 in
theorem T_X5_swept : Tab cX5_swept [(0, .aload_n 0, 1), (1, .getfield 54, 3), (4, .ireturn, 1)] := Tab.of (by decide +kernel)
set_option maxRecDepth 100000 in
theorem T_X5_total : Tab cX5_total [(0, .iload_n 1, 1), (1, .tableswitch 69 0 5 #[39, 44, 49, 54, 59, 64], 39), (40, .aload_n 0, 1), (41, .getfield 50, 3), (44, .ireturn, 1), (45, .aload_n 0, 1), (46, .getfield 54, 3), (49, .ireturn, 1), (50, .aload_n 0, 1), (51, .getfield 57, 3), (54, .ireturn, 1), (55, .aload_n 0, 1), (56, .getfield 60, 3), (59, .ireturn, 1), (60, .aload_n 0, 1), (61, .getfield 63, 3), (64, .ireturn, 1), (65, .aload_n 0, 1), (66, .getfield 66, 3), (69, .ireturn, 1), (70, .iconst (-1), 1), (71, .ireturn, 1)] := Tab.of (by decide +kernel)
set_option maxRecDepth 100000 in
theorem T_X5_depthOf : Tab cX5_depthOf [(0, .iload_n 1, 1), (1, .ifCond .lt 18, 3), (4, .iload_n 1, 1), (5, .bipush 14, 2), (7, .if_icmp .ge 12, 3), (10, .aload_n 0, 1), (11, .getfield 11, 3), (14, .iload_n 1, 1), (15, .iaload, 1), (16, .goto 4, 3), (19, .iconst 0, 1), (20, .ireturn, 1)] := Tab.of (by decide +kernel)
set_option maxRecDepth 100000 in
theorem T_X5_loadOf : Tab cX5_loadOf [(0, .iload_n 1, 1), (1, .iconst 0, 1), (2, .iconst 4, 1), (3, .invokestatic 69, 3), (6, .ifCond .eq 12, 3), (9, .aload_n 0, 1), (10, .getfield 32, 3), (13, .iload_n 1, 1), (14, .iaload, 1), (15, .goto 4, 3), (18, .iconst 0, 1), (19, .ireturn, 1)] := Tab.of (by decide +kernel)
set_option maxRecDepth 100000 in
theorem T_X5_lastMinuteOf : Tab cX5_lastMinuteOf [(0, .iload_n 1, 1), (1, .iconst 0, 1), (2, .iconst 4, 1), (3, .invokestatic 69, 3), (6, .ifCond .eq 23, 3), (9, .aload_n 0, 1), (10, .getfield 29, 3), (13, .iload_n 1, 1), (14, .iaload, 1), (15, .ldc 73, 2), (17, .if_icmp .ne 12, 3), (20, .aload_n 0, 1), (21, .getfield 35, 3), (24, .iload_n 1, 1), (25, .iaload, 1), (26, .goto 5, 3), (29, .bipush (-2), 2), (31, .ireturn, 1)] := Tab.of (by decide +kernel)
set_option maxRecDepth 100000 in
theorem T_X5_prepare : Tab cX5_prepare [(0, .aload_n 0, 1), (1, .getfield 38, 3), (4, .aload_n 0, 1), (5, .getfield 11, 3), (8, .invokevirtual 74, 3), (11, .iconst 0, 1), (12, .istore_n 1, 1), (13, .iload_n 1, 1), (14, .iconst 5, 1), (15, .if_icmp .ge 39, 3), (18, .aload_n 0, 1), (19, .getfield 19, 3), (22, .iload_n 1, 1), (23, .aconst_null, 1), (24, .aastore, 1), (25, .aload_n 0, 1), (26, .getfield 29, 3), (29, .iload_n 1, 1), (30, .ldc 73, 2), (32, .iastore, 1), (33, .aload_n 0, 1), (34, .getfield 32, 3), (37, .iload_n 1, 1), (38, .iconst 0, 1), (39, .iastore, 1), (40, .aload_n 0, 1), (41, .getfield 35, 3), (44, .iload_n 1, 1), (45, .bipush (-2), 2), (47, .iastore, 1), (48, .iinc 1 1, 3), (51, .goto (-38), 3), (54, .aload_n 0, 1), (55, .iconst 0, 1), (56, .putfield 50, 3), (59, .aload_n 0, 1), (60, .iconst 0, 1), (61, .putfield 54, 3), (64, .aload_n 0, 1), (65, .iconst 0, 1), (66, .putfield 57, 3), (69, .aload_n 0, 1), (70, .iconst 0, 1), (71, .putfield 60, 3), (74, .aload_n 0, 1), (75, .iconst 0, 1), (76, .putfield 63, 3), (79, .aload_n 0, 1), (80, .iconst 0, 1), (81, .putfield 66, 3), (84, .return_, 1)] := Tab.of (by decide +kernel)
set_option maxRecDepth 100000 in
theorem T_X5_send : Tab cX5_send [(0, .iload_n 1, 1), (1, .iconst 0, 1), (2, .iconst 4, 1), (3, .invokestatic 69, 3), (6, .ifCond .eq 24, 3), (9, .aload_n 0, 1), (10, .getfield 19, 3), (13, .iload_n 1, 1), (14, .aload_n 2, 1), (15, .aastore, 1), (16, .aload_n 0, 1), (17, .getfield 26, 3), (20, .iload_n 1, 1), (21, .iconst 0, 1), (22, .iastore, 1), (23, .aload_n 0, 1), (24, .iload_n 1, 1), (25, .iconst 0, 1), (26, .iload_n 3, 1), (27, .invokevirtual 80, 3), (30, .return_, 1)] := Tab.of (by decide +kernel)
set_option maxRecDepth 100000 in
theorem T_X5_goThrough : Tab cX5_goThrough [(0, .iconst 0, 1), (1, .istore_n 1, 1), (2, .iload_n 1, 1), (3, .bipush 10, 2), (5, .if_icmp .ge 77, 3), (8, .aload_n 0, 1), (9, .invokevirtual 84, 3), (12, .ifCond .ne 70, 3), (15, .aload_n 0, 1), (16, .iload_n 1, 1), (17, .iconst 1, 1), (18, .iadd, 1), (19, .bipush 60, 2), (21, .imul, 1), (22, .invokevirtual 88, 3), (25, .iconst 0, 1), (26, .istore_n 2, 1), (27, .iload_n 2, 1), (28, .bipush 14, 2), (30, .if_icmp .ge 46, 3), (33, .aload_n 0, 1), (34, .getfield 38, 3), (37, .iload_n 2, 1), (38, .invokevirtual 92, 3), (41, .ifCond .eq 29, 3), (44, .aload_n 0, 1), (45, .iload_n 1, 1), (46, .iload_n 2, 1), (47, .invokevirtual 96, 3), (50, .ifCond .eq 20, 3), (53, .aload_n 0, 1), (54, .dup, 1), (55, .getfield 50, 3), (58, .aload_n 0, 1), (59, .getfield 38, 3), (62, .iload_n 2, 1), (63, .invokevirtual 100, 3), (66, .iadd, 1), (67, .putfield 50, 3), (70, .iinc 2 1, 3), (73, .goto (-46), 3), (76, .iinc 1 1, 3), (79, .goto (-77), 3), (82, .iconst 0, 1), (83, .istore_n 1, 1), (84, .iload_n 1, 1), (85, .bipush 14, 2), (87, .if_icmp .ge 24, 3), (90, .aload_n 0, 1), (91, .dup, 1), (92, .getfield 54, 3), (95, .aload_n 0, 1), (96, .getfield 11, 3), (99, .iload_n 1, 1), (100, .iaload, 1), (101, .iadd, 1), (102, .putfield 54, 3), (105, .iinc 1 1, 3), (108, .goto (-24), 3), (111, .return_, 1)] := Tab.of (by decide +kernel)
set_option maxRecDepth 100000 in
theorem T_X5_isIdle : Tab cX5_isIdle [(0, .iconst 0, 1), (1, .istore_n 1, 1), (2, .iload_n 1, 1), (3, .bipush 14, 2), (5, .if_icmp .ge 20, 3), (8, .aload_n 0, 1), (9, .getfield 11, 3), (12, .iload_n 1, 1), (13, .iaload, 1), (14, .ifCond .le 5, 3), (17, .iconst 0, 1), (18, .ireturn, 1), (19, .iinc 1 1, 3), (22, .goto (-20), 3), (25, .aload_n 0, 1), (26, .getfield 29, 3), (29, .aload_n 0, 1), (30, .invokevirtual 104, 3), (33, .iaload, 1), (34, .sipush 600, 3), (37, .if_icmp .lt 7, 3), (40, .iconst 1, 1), (41, .goto 4, 3), (44, .iconst 0, 1), (45, .ireturn, 1)] := Tab.of (by decide +kernel)
set_option maxRecDepth 100000 in
theorem T_X5_sleepsThrough : Tab cX5_sleepsThrough [(0, .iload_n 1, 1), (1, .iconst 0, 1), (2, .bipush 13, 2), (4, .invokestatic 69, 3), (7, .istore_n 3, 1), (8, .iload_n 3, 1), (9, .ifCond .eq 10, 3), (12, .aload_n 0, 1), (13, .getfield 11, 3), (16, .iload_n 1, 1), (17, .iload_n 2, 1), (18, .iastore, 1), (19, .iconst 0, 1), (20, .istore 4, 2), (22, .iload 4, 2), (24, .bipush 10, 2), (26, .if_icmp .ge 21, 3), (29, .iload_n 3, 1), (30, .ifCond .eq 17, 3), (33, .aload_n 0, 1), (34, .iload 4, 2), (36, .iload_n 1, 1), (37, .invokevirtual 96, 3), (40, .istore_n 3, 1), (41, .iinc 4 1, 3), (44, .goto (-22), 3), (47, .iload_n 3, 1), (48, .ireturn, 1)] := Tab.of (by decide +kernel)
set_option maxRecDepth 100000 in
theorem T_X5_sleepsAfter : Tab cX5_sleepsAfter [(0, .aload_n 0, 1), (1, .iload_n 2, 1), (2, .invokevirtual 108, 3), (5, .ifCond .ne 5, 3), (8, .iconst 0, 1), (9, .ireturn, 1), (10, .aload_n 0, 1), (11, .getfield 46, 3), (14, .iload_n 1, 1), (15, .aload_n 0, 1), (16, .getfield 38, 3), (19, .invokevirtual 111, 3), (22, .iconst 0, 1), (23, .invokevirtual 114, 3), (26, .aload_n 0, 1), (27, .dup, 1), (28, .getfield 57, 3), (31, .aload_n 0, 1), (32, .bipush 119, 2), (34, .iload_n 2, 1), (35, .invokevirtual 119, 3), (38, .iadd, 1), (39, .putfield 57, 3), (42, .aload_n 0, 1), (43, .dup, 1), (44, .getfield 60, 3), (47, .aload_n 0, 1), (48, .bipush 99, 2), (50, .iload_n 2, 1), (51, .invokevirtual 119, 3), (54, .iadd, 1), (55, .putfield 60, 3), (58, .aload_n 0, 1), (59, .iload_n 2, 1), (60, .invokevirtual 108, 3), (63, .ifCond .le 22, 3), (66, .aload_n 0, 1), (67, .iload_n 2, 1), (68, .invokevirtual 108, 3), (71, .aload_n 0, 1), (72, .bipush 115, 2), (74, .iload_n 2, 1), (75, .invokevirtual 123, 3), (78, .if_icmp .lt 7, 3), (81, .iconst 1, 1), (82, .goto 4, 3), (85, .iconst 0, 1), (86, .ireturn, 1)] := Tab.of (by decide +kernel)
set_option maxRecDepth 100000 in
theorem T_X5_lose : Tab cX5_lose [(0, .aload_n 0, 1), (1, .iload_n 2, 1), (2, .invokevirtual 108, 3), (5, .aload_n 0, 1), (6, .iload_n 1, 1), (7, .iload_n 2, 1), (8, .invokevirtual 123, 3), (11, .invokestatic 126, 3), (14, .istore_n 3, 1), (15, .iload_n 2, 1), (16, .iconst 0, 1), (17, .bipush 13, 2), (19, .invokestatic 69, 3), (22, .ifCond .eq 13, 3), (25, .aload_n 0, 1), (26, .getfield 11, 3), (29, .iload_n 2, 1), (30, .dup2, 1), (31, .iaload, 1), (32, .iload_n 3, 1), (33, .isub, 1), (34, .iastore, 1), (35, .iload_n 3, 1), (36, .ireturn, 1)] := Tab.of (by decide +kernel)
set_option maxRecDepth 100000 in
theorem T_X5_askOf : Tab cX5_askOf [(0, .aload_n 0, 1), (1, .getfield 46, 3), (4, .aload_n 0, 1), (5, .getfield 38, 3), (8, .iload_n 2, 1), (9, .aload_n 0, 1), (10, .getfield 38, 3), (13, .iload_n 2, 1), (14, .invokevirtual 131, 3), (17, .aload_n 0, 1), (18, .iload_n 2, 1), (19, .invokevirtual 108, 3), (22, .invokevirtual 134, 3), (25, .aload_n 0, 1), (26, .getfield 46, 3), (29, .iload_n 1, 1), (30, .invokevirtual 138, 3), (33, .ireturn, 1)] := Tab.of (by decide +kernel)
set_option maxRecDepth 100000 in
theorem T_X5_serveBefore : Tab cX5_serveBefore [(0, .iconst 0, 1), (1, .istore_n 2, 1), (2, .iload_n 2, 1), (3, .bipush 80, 2), (5, .if_icmp .ge 30, 3), (8, .aload_n 0, 1), (9, .invokevirtual 104, 3), (12, .istore_n 3, 1), (13, .aload_n 0, 1), (14, .getfield 29, 3), (17, .iload_n 3, 1), (18, .iaload, 1), (19, .iload_n 1, 1), (20, .if_icmp .lt 4, 3), (23, .return_, 1), (24, .aload_n 0, 1), (25, .iload_n 3, 1), (26, .invokevirtual 141, 3), (29, .iinc 2 1, 3), (32, .goto (-30), 3), (35, .return_, 1)] := Tab.of (by decide +kernel)
set_option maxRecDepth 100000 in
theorem T_X5_earliestCart : Tab cX5_earliestCart [(0, .iconst 0, 1), (1, .istore_n 1, 1), (2, .iconst 1, 1), (3, .istore_n 2, 1), (4, .iload_n 2, 1), (5, .iconst 5, 1), (6, .if_icmp .ge 26, 3), (9, .aload_n 0, 1), (10, .getfield 29, 3), (13, .iload_n 2, 1), (14, .iaload, 1), (15, .aload_n 0, 1), (16, .getfield 29, 3), (19, .iload_n 1, 1), (20, .iaload, 1), (21, .if_icmp .ge 5, 3), (24, .iload_n 2, 1), (25, .istore_n 1, 1), (26, .iinc 2 1, 3), (29, .goto (-25), 3), (32, .iload_n 1, 1), (33, .ireturn, 1)] := Tab.of (by decide +kernel)
set_option maxRecDepth 100000 in
theorem T_X5_serve : Tab cX5_serve [(0, .iload_n 1, 1), (1, .iconst 0, 1), (2, .iconst 4, 1), (3, .invokestatic 69, 3), (6, .ifCond .eq 12, 3), (9, .aload_n 0, 1), (10, .getfield 19, 3), (13, .iload_n 1, 1), (14, .aaload, 1), (15, .goto 4, 3), (18, .aconst_null, 1), (19, .astore_n 2, 1), (20, .aload_n 2, 1), (21, .ifnonnull 4, 3), (24, .return_, 1), (25, .aload_n 0, 1), (26, .getfield 29, 3), (29, .iload_n 1, 1), (30, .iaload, 1), (31, .istore_n 3, 1), (32, .aload_n 0, 1), (33, .getfield 23, 3), (36, .iload_n 1, 1), (37, .iaload, 1), (38, .istore 4, 2), (40, .aload_n 2, 1), (41, .iload 4, 2), (43, .invokevirtual 144, 3), (46, .istore 5, 2), (48, .aload_n 0, 1), (49, .dup, 1), (50, .getfield 66, 3), (53, .iconst 1, 1), (54, .iadd, 1), (55, .putfield 66, 3), (58, .aload_n 0, 1), (59, .getfield 35, 3), (62, .iload_n 1, 1), (63, .iload_n 3, 1), (64, .iastore, 1), (65, .aload_n 0, 1), (66, .getfield 26, 3), (69, .iload_n 1, 1), (70, .iload 5, 2), (72, .iastore, 1), (73, .aload_n 0, 1), (74, .getfield 46, 3), (77, .iload_n 3, 1), (78, .bipush 60, 2), (80, .idiv, 1), (81, .aload_n 0, 1), (82, .getfield 38, 3), (85, .invokevirtual 111, 3), (88, .iload_n 1, 1), (89, .invokevirtual 114, 3), (92, .aload_n 0, 1), (93, .bipush 117, 2), (95, .iload 5, 2), (97, .invokevirtual 123, 3), (100, .istore 6, 2), (102, .aload_n 2, 1), (103, .iload 4, 2), (105, .invokevirtual 147, 3), (108, .ifCond .eq 31, 3), (111, .aload_n 0, 1), (112, .iload_n 1, 1), (113, .aload_n 2, 1), (114, .iload 4, 2), (116, .invokevirtual 150, 3), (119, .aload_n 2, 1), (120, .invokevirtual 153, 3), (123, .aload_n 0, 1), (124, .getfield 32, 3), (127, .iload_n 1, 1), (128, .iaload, 1), (129, .isub, 1), (130, .invokestatic 126, 3), (133, .invokevirtual 156, 3), (136, .goto 25, 3), (139, .aload_n 0, 1), (140, .iload_n 1, 1), (141, .iload 5, 2), (143, .aload_n 2, 1), (144, .iload 4, 2), (146, .invokevirtual 150, 3), (149, .aload_n 0, 1), (150, .getfield 32, 3), (153, .iload_n 1, 1), (154, .iaload, 1), (155, .invokestatic 126, 3), (158, .invokevirtual 159, 3), (161, .istore 7, 2), (163, .aload_n 0, 1), (164, .iload_n 1, 1), (165, .iload 4, 2), (167, .iconst 1, 1), (168, .iadd, 1), (169, .iload_n 3, 1), (170, .iload 6, 2), (172, .iload 7, 2), (174, .imul, 1), (175, .iadd, 1), (176, .invokevirtual 80, 3), (179, .return_, 1)] := Tab.of (by decide +kernel)
set_option maxRecDepth 100000 in
theorem T_X5_takeOn : Tab cX5_takeOn [(0, .aload_n 0, 1), (1, .getfield 32, 3), (4, .iload_n 1, 1), (5, .dup2, 1), (6, .iaload, 1), (7, .iload_n 2, 1), (8, .iadd, 1), (9, .iastore, 1), (10, .iload_n 2, 1), (11, .ireturn, 1)] := Tab.of (by decide +kernel)
set_option maxRecDepth 100000 in
theorem T_X5_leave : Tab cX5_leave [(0, .aload_n 0, 1), (1, .getfield 32, 3), (4, .iload_n 1, 1), (5, .dup2, 1), (6, .iaload, 1), (7, .iload_n 3, 1), (8, .isub, 1), (9, .iastore, 1), (10, .aload_n 0, 1), (11, .dup, 1), (12, .getfield 63, 3), (15, .iload_n 3, 1), (16, .iadd, 1), (17, .putfield 63, 3), (20, .iload_n 2, 1), (21, .iconst 0, 1), (22, .bipush 13, 2), (24, .invokestatic 69, 3), (27, .ifCond .eq 23, 3), (30, .aload_n 0, 1), (31, .getfield 11, 3), (34, .iload_n 2, 1), (35, .sipush 999, 3), (38, .aload_n 0, 1), (39, .getfield 11, 3), (42, .iload_n 2, 1), (43, .iaload, 1), (44, .iload_n 3, 1), (45, .iadd, 1), (46, .invokestatic 126, 3), (49, .iastore, 1), (50, .iload_n 3, 1), (51, .ireturn, 1)] := Tab.of (by decide +kernel)
set_option maxRecDepth 100000 in
theorem T_X5_goOn : Tab cX5_goOn [(0, .aload_n 0, 1), (1, .getfield 19, 3), (4, .iload_n 1, 1), (5, .aaload, 1), (6, .astore 4, 2), (8, .aload_n 0, 1), (9, .getfield 29, 3), (12, .iload_n 1, 1), (13, .ldc 73, 2), (15, .iastore, 1), (16, .aload 4, 2), (18, .ifnull 14, 3), (21, .aload_n 0, 1), (22, .getfield 38, 3), (25, .iconst 0, 1), (26, .invokevirtual 92, 3), (29, .ifCond .ne 4, 3), (32, .return_, 1), (33, .iload_n 2, 1), (34, .istore 5, 2), (36, .iload 5, 2), (38, .aload 4, 2), (40, .invokevirtual 163, 3), (43, .if_icmp .ge 72, 3), (46, .aload_n 0, 1), (47, .getfield 42, 3), (50, .aload_n 0, 1), (51, .getfield 26, 3), (54, .iload_n 1, 1), (55, .iaload, 1), (56, .aload 4, 2), (58, .iload 5, 2), (60, .invokevirtual 144, 3), (63, .invokevirtual 165, 3), (66, .istore 6, 2), (68, .iload 6, 2), (70, .ifCond .lt 39, 3), (73, .aload_n 0, 1), (74, .getfield 38, 3), (77, .aload 4, 2), (79, .iload 5, 2), (81, .invokevirtual 144, 3), (84, .invokevirtual 92, 3), (87, .ifCond .eq 22, 3), (90, .aload_n 0, 1), (91, .getfield 23, 3), (94, .iload_n 1, 1), (95, .iload 5, 2), (97, .iastore, 1), (98, .aload_n 0, 1), (99, .getfield 29, 3), (102, .iload_n 1, 1), (103, .iload_n 3, 1), (104, .iload 6, 2), (106, .iadd, 1), (107, .iastore, 1), (108, .return_, 1), (109, .iinc 5 1, 3), (112, .goto (-76), 3), (115, .return_, 1)] := Tab.of (by decide +kernel)
set_option maxRecDepth 100000 in
theorem T_X6_longest : Tab cX6_longest [(0, .aload_n 0, 1), (1, .getfield 24, 3), (4, .ireturn, 1)] := Tab.of (by decide +kernel)
set_option maxRecDepth 100000 in
theorem T_X6_cartOf : Tab cX6_cartOf [(0, .iload_n 1, 1), (1, .iconst 0, 1), (2, .bipush 7, 2), (4, .invokestatic 28, 3), (7, .ifCond .eq 12, 3), (10, .aload_n 0, 1), (11, .getfield 18, 3), (14, .iload_n 1, 1), (15, .iaload, 1), (16, .goto 4, 3), (19, .iconst (-1), 1), (20, .ireturn, 1)] := Tab.of (by decide +kernel)
set_option maxRecDepth 100000 in
theorem T_X6_find : Tab cX6_find [(0, .aload_n 0, 1), (1, .iload_n 2, 1), (2, .bipush 8, 2), (4, .invokestatic 32, 3), (7, .putfield 38, 3), (10, .aload_n 0, 1), (11, .iload_n 3, 1), (12, .iconst 3, 1), (13, .invokestatic 32, 3), (16, .putfield 41, 3), (19, .iconst 0, 1), (20, .istore 4, 2), (22, .iload 4, 2), (24, .aload_n 0, 1), (25, .getfield 38, 3), (28, .if_icmp .ge 22, 3), (31, .aload_n 0, 1), (32, .getfield 9, 3), (35, .iload 4, 2), (37, .aload_n 1, 1), (38, .iload 4, 2), (40, .invokevirtual 44, 3), (43, .iastore, 1), (44, .iinc 4 1, 3), (47, .goto (-25), 3), (50, .iconst 0, 1), (51, .istore 4, 2), (53, .iload 4, 2), (55, .aload_n 0, 1), (56, .getfield 41, 3), (59, .if_icmp .ge 17, 3), (62, .aload_n 0, 1), (63, .getfield 21, 3), (66, .iload 4, 2), (68, .iconst 0, 1), (69, .iastore, 1), (70, .iinc 4 1, 3), (73, .goto (-20), 3), (76, .aload_n 0, 1), (77, .ldc 52, 2), (79, .putfield 24, 3), (82, .aload_n 0, 1), (83, .iconst 0, 1), (84, .invokevirtual 53, 3), (87, .return_, 1)] := Tab.of (by decide +kernel)
set_option maxRecDepth 100000 in
theorem T_X6_give : Tab cX6_give [(0, .iload_n 1, 1), (1, .aload_n 0, 1), (2, .getfield 38, 3), (5, .if_icmp .lt 8, 3), (8, .aload_n 0, 1), (9, .invokevirtual 57, 3), (12, .return_, 1), (13, .iconst 0, 1), (14, .istore_n 2, 1), (15, .iload_n 2, 1), (16, .aload_n 0, 1), (17, .getfield 41, 3), (20, .if_icmp .ge 15, 3), (23, .aload_n 0, 1), (24, .iload_n 2, 1), (25, .iload_n 1, 1), (26, .invokevirtual 60, 3), (29, .iinc 2 1, 3), (32, .goto (-17), 3), (35, .return_, 1)] := Tab.of (by decide +kernel)
set_option maxRecDepth 100000 in
theorem T_X6_giveTo : Tab cX6_giveTo [(0, .aload_n 0, 1), (1, .getfield 15, 3), (4, .iload_n 2, 1), (5, .iload_n 1, 1), (6, .iastore, 1), (7, .aload_n 0, 1), (8, .getfield 21, 3), (11, .iload_n 1, 1), (12, .dup2, 1), (13, .iaload, 1), (14, .aload_n 0, 1), (15, .getfield 9, 3), (18, .iload_n 2, 1), (19, .iaload, 1), (20, .iadd, 1), (21, .iastore, 1), (22, .aload_n 0, 1), (23, .getfield 21, 3), (26, .iload_n 1, 1), (27, .iaload, 1), (28, .aload_n 0, 1), (29, .getfield 24, 3), (32, .if_icmp .ge 10, 3), (35, .aload_n 0, 1), (36, .iload_n 2, 1), (37, .iconst 1, 1), (38, .iadd, 1), (39, .invokevirtual 53, 3), (42, .aload_n 0, 1), (43, .getfield 21, 3), (46, .iload_n 1, 1), (47, .dup2, 1), (48, .iaload, 1), (49, .aload_n 0, 1), (50, .getfield 9, 3), (53, .iload_n 2, 1), (54, .iaload, 1), (55, .isub, 1), (56, .iastore, 1), (57, .return_, 1)] := Tab.of (by decide +kernel)
set_option maxRecDepth 100000 in
theorem T_X6_keepRow : Tab cX6_keepRow [(0, .iconst 0, 1), (1, .istore_n 1, 1), (2, .iconst 0, 1), (3, .istore_n 2, 1), (4, .iload_n 2, 1), (5, .aload_n 0, 1), (6, .getfield 41, 3), (9, .if_icmp .ge 20, 3), (12, .iload_n 1, 1), (13, .aload_n 0, 1), (14, .getfield 21, 3), (17, .iload_n 2, 1), (18, .iaload, 1), (19, .invokestatic 64, 3), (22, .istore_n 1, 1), (23, .iinc 2 1, 3), (26, .goto (-22), 3), (29, .iload_n 1, 1), (30, .aload_n 0, 1), (31, .getfield 24, 3), (34, .if_icmp .ge 23, 3), (37, .aload_n 0, 1), (38, .iload_n 1, 1), (39, .putfield 24, 3), (42, .aload_n 0, 1), (43, .getfield 15, 3), (46, .iconst 0, 1), (47, .aload_n 0, 1), (48, .getfield 18, 3), (51, .iconst 0, 1), (52, .bipush 8, 2), (54, .invokestatic 67, 3), (57, .return_, 1)] := Tab.of (by decide +kernel)
set_option maxRecDepth 100000 in
theorem T_X7_howMany : Tab cX7_howMany [(0, .aload_n 0, 1), (1, .getfield 21, 3), (4, .ireturn, 1)] := Tab.of (by decide +kernel)
set_option maxRecDepth 100000 in
theorem T_X7_read : Tab cX7_read [(0, .iconst 0, 1), (1, .istore_n 3, 1), (2, .iload_n 3, 1), (3, .sipush 196, 3), (6, .if_icmp .ge 16, 3), (9, .aload_n 0, 1), (10, .getfield 15, 3), (13, .iload_n 3, 1), (14, .iconst 0, 1), (15, .iastore, 1), (16, .iinc 3 1, 3), (19, .goto (-17), 3), (22, .iconst 0, 1), (23, .istore_n 3, 1), (24, .iconst 0, 1), (25, .istore 4, 2), (27, .iload 4, 2), (29, .bipush 40, 2), (31, .if_icmp .gt 43, 3), (34, .aload_n 1, 1), (35, .invokevirtual 25, 3), (38, .ifCond .eq 36, 3), (41, .aload_n 0, 1), (42, .aload_n 1, 1), (43, .aload_n 2, 1), (44, .iload 4, 2), (46, .invokevirtual 31, 3), (49, .iinc 3 1, 3), (52, .aload_n 1, 1), (53, .invokevirtual 35, 3), (56, .ifCond .eq 6, 3), (59, .goto 15, 3), (62, .aload_n 1, 1), (63, .bipush 59, 2), (65, .invokevirtual 38, 3), (68, .iinc 4 1, 3), (71, .goto (-44), 3), (74, .aload_n 1, 1), (75, .invokevirtual 25, 3), (78, .ifCond .ne 8, 3), (81, .aload_n 1, 1), (82, .invokevirtual 42, 3), (85, .ireturn, 1), (86, .aload_n 0, 1), (87, .getfield 15, 3), (90, .iconst 0, 1), (91, .aload_n 0, 1), (92, .getfield 11, 3), (95, .iconst 0, 1), (96, .sipush 196, 3), (99, .invokestatic 46, 3), (102, .aload_n 0, 1), (103, .invokevirtual 52, 3), (106, .iload_n 3, 1), (107, .ireturn, 1)] := Tab.of (by decide +kernel)
set_option maxRecDepth 100000 in
theorem T_X7_readLine : Tab cX7_readLine [(0, .aload_n 1, 1), (1, .invokevirtual 55, 3), (4, .bipush 97, 2), (6, .isub, 1), (7, .istore 4, 2), (9, .aload_n 1, 1), (10, .invokevirtual 58, 3), (13, .ifCond .eq 14, 3), (16, .iload_n 3, 1), (17, .bipush 40, 2), (19, .if_icmp .ne 8, 3), (22, .aload_n 1, 1), (23, .iconst 4, 1), (24, .invokevirtual 61, 3), (27, .aload_n 0, 1), (28, .aload_n 1, 1), (29, .aload_n 2, 1), (30, .invokevirtual 64, 3), (33, .aload_n 1, 1), (34, .invokevirtual 55, 3), (37, .bipush 97, 2), (39, .isub, 1), (40, .istore 5, 2), (42, .aload_n 1, 1), (43, .invokevirtual 58, 3), (46, .ifCond .eq 25, 3), (49, .aload_n 2, 1), (50, .iload 5, 2), (52, .invokevirtual 68, 3), (55, .ifCond .eq 16, 3), (58, .iload 5, 2), (60, .iload 4, 2), (62, .if_icmp .ne 9, 3), (65, .aload_n 1, 1), (66, .bipush 6, 2), (68, .invokevirtual 61, 3), (71, .aload_n 0, 1), (72, .aload_n 1, 1), (73, .aload_n 2, 1), (74, .invokevirtual 64, 3), (77, .aload_n 1, 1), (78, .invokevirtual 74, 3), (81, .istore 6, 2), (83, .aload_n 1, 1), (84, .iconst 2, 1), (85, .invokevirtual 77, 3), (88, .istore 7, 2), (90, .aload_n 1, 1), (91, .invokevirtual 25, 3), (94, .ifCond .eq 15, 3), (97, .iload 7, 2), (99, .ifCond .ne 10, 3), (102, .aload_n 1, 1), (103, .iconst 3, 1), (104, .iload 6, 2), (106, .invokevirtual 81, 3), (109, .aload_n 1, 1), (110, .invokevirtual 25, 3), (113, .ifCond .eq 51, 3), (116, .aload_n 2, 1), (117, .iload 4, 2), (119, .invokevirtual 68, 3), (122, .ifCond .eq 42, 3), (125, .aload_n 2, 1), (126, .iload 5, 2), (128, .invokevirtual 68, 3), (131, .ifCond .eq 33, 3), (134, .aload_n 0, 1), (135, .getfield 15, 3), (138, .iload 4, 2), (140, .bipush 14, 2), (142, .imul, 1), (143, .iload 5, 2), (145, .iadd, 1), (146, .iload 7, 2), (148, .iastore, 1), (149, .aload_n 0, 1), (150, .getfield 15, 3), (153, .iload 5, 2), (155, .bipush 14, 2), (157, .imul, 1), (158, .iload 4, 2), (160, .iadd, 1), (161, .iload 7, 2), (163, .iastore, 1), (164, .return_, 1)] := Tab.of (by decide +kernel)
set_option maxRecDepth 100000 in
theorem T_X7_readStreet : Tab cX7_readStreet [(0, .aload_n 1, 1), (1, .invokevirtual 58, 3), (4, .ifCond .ne 11, 3), (7, .aload_n 1, 1), (8, .iconst 1, 1), (9, .invokevirtual 61, 3), (12, .goto 30, 3), (15, .aload_n 2, 1), (16, .aload_n 1, 1), (17, .invokevirtual 55, 3), (20, .bipush 97, 2), (22, .isub, 1), (23, .invokevirtual 68, 3), (26, .ifCond .ne 12, 3), (29, .aload_n 1, 1), (30, .bipush 7, 2), (32, .invokevirtual 61, 3), (35, .goto 7, 3), (38, .aload_n 1, 1), (39, .invokevirtual 85, 3), (42, .return_, 1)] := Tab.of (by decide +kernel)
set_option maxRecDepth 100000 in
theorem T_X7_findWays : Tab cX7_findWays [(0, .aload_n 0, 1), (1, .iconst 0, 1), (2, .putfield 21, 3), (5, .iconst 0, 1), (6, .istore_n 1, 1), (7, .iload_n 1, 1), (8, .sipush 196, 3), (11, .if_icmp .ge 75, 3), (14, .iload_n 1, 1), (15, .bipush 15, 2), (17, .irem, 1), (18, .ifCond .ne 13, 3), (21, .aload_n 0, 1), (22, .getfield 18, 3), (25, .iload_n 1, 1), (26, .iconst 0, 1), (27, .iastore, 1), (28, .goto 52, 3), (31, .aload_n 0, 1), (32, .getfield 18, 3), (35, .iload_n 1, 1), (36, .aload_n 0, 1), (37, .getfield 11, 3), (40, .iload_n 1, 1), (41, .iaload, 1), (42, .ifCond .le 12, 3), (45, .aload_n 0, 1), (46, .getfield 11, 3), (49, .iload_n 1, 1), (50, .iaload, 1), (51, .goto 5, 3), (54, .bipush (-2), 2), (56, .iastore, 1), (57, .aload_n 0, 1), (58, .dup, 1), (59, .getfield 21, 3), (62, .aload_n 0, 1), (63, .getfield 11, 3), (66, .iload_n 1, 1), (67, .iaload, 1), (68, .ifCond .le 7, 3), (71, .iconst 1, 1), (72, .goto 4, 3), (75, .iconst 0, 1), (76, .iadd, 1), (77, .putfield 21, 3), (80, .iinc 1 1, 3), (83, .goto (-76), 3), (86, .aload_n 0, 1), (87, .dup, 1), (88, .getfield 21, 3), (91, .iconst 2, 1), (92, .idiv, 1), (93, .putfield 21, 3), (96, .iconst 0, 1), (97, .istore_n 1, 1), (98, .iload_n 1, 1), (99, .bipush 14, 2), (101, .if_icmp .ge 43, 3), (104, .iconst 0, 1), (105, .istore_n 2, 1), (106, .iload_n 2, 1), (107, .bipush 14, 2), (109, .if_icmp .ge 29, 3), (112, .aload_n 0, 1), (113, .getfield 18, 3), (116, .iload_n 2, 1), (117, .bipush 14, 2), (119, .imul, 1), (120, .iload_n 1, 1), (121, .iadd, 1), (122, .iaload, 1), (123, .ifCond .le 9, 3), (126, .aload_n 0, 1), (127, .iload_n 2, 1), (128, .iload_n 1, 1), (129, .invokevirtual 88, 3), (132, .iinc 2 1, 3), (135, .goto (-29), 3), (138, .iinc 1 1, 3), (141, .goto (-43), 3), (144, .return_, 1)] := Tab.of (by decide +kernel)
set_option maxRecDepth 100000 in
theorem T_X7_shortenFrom : Tab cX7_shortenFrom [(0, .aload_n 0, 1), (1, .getfield 18, 3), (4, .iload_n 1, 1), (5, .bipush 14, 2), (7, .imul, 1), (8, .iload_n 2, 1), (9, .iadd, 1), (10, .iaload, 1), (11, .istore_n 3, 1), (12, .iconst 0, 1), (13, .istore 4, 2), (15, .iload 4, 2), (17, .bipush 14, 2), (19, .if_icmp .ge 72, 3), (22, .aload_n 0, 1), (23, .getfield 18, 3), (26, .iload_n 2, 1), (27, .bipush 14, 2), (29, .imul, 1), (30, .iload 4, 2), (32, .iadd, 1), (33, .iaload, 1), (34, .istore 5, 2), (36, .aload_n 0, 1), (37, .getfield 18, 3), (40, .iload_n 1, 1), (41, .bipush 14, 2), (43, .imul, 1), (44, .iload 4, 2), (46, .iadd, 1), (47, .iaload, 1), (48, .istore 6, 2), (50, .iload 5, 2), (52, .ifCond .lt 33, 3), (55, .iload 6, 2), (57, .ifCond .lt 12, 3), (60, .iload_n 3, 1), (61, .iload 5, 2), (63, .iadd, 1), (64, .iload 6, 2), (66, .if_icmp .ge 19, 3), (69, .aload_n 0, 1), (70, .getfield 18, 3), (73, .iload_n 1, 1), (74, .bipush 14, 2), (76, .imul, 1), (77, .iload 4, 2), (79, .iadd, 1), (80, .iload_n 3, 1), (81, .iload 5, 2), (83, .iadd, 1), (84, .iastore, 1), (85, .iinc 4 1, 3), (88, .goto (-73), 3), (91, .return_, 1)] := Tab.of (by decide +kernel)
set_option maxRecDepth 100000 in
theorem T_X7_between : Tab cX7_between [(0, .iload_n 1, 1), (1, .ifCond .lt 23, 3), (4, .iload_n 1, 1), (5, .bipush 14, 2), (7, .if_icmp .ge 17, 3), (10, .iload_n 2, 1), (11, .ifCond .lt 13, 3), (14, .iload_n 2, 1), (15, .bipush 14, 2), (17, .if_icmp .ge 7, 3), (20, .iconst 1, 1), (21, .goto 4, 3), (24, .iconst 0, 1), (25, .istore_n 3, 1), (26, .iload_n 3, 1), (27, .ifCond .eq 17, 3), (30, .aload_n 0, 1), (31, .getfield 18, 3), (34, .iload_n 1, 1), (35, .bipush 14, 2), (37, .imul, 1), (38, .iload_n 2, 1), (39, .iadd, 1), (40, .iaload, 1), (41, .goto 5, 3), (44, .bipush (-2), 2), (46, .ireturn, 1)] := Tab.of (by decide +kernel)
set_option maxRecDepth 100000 in
theorem T_X7_reachedFrom : Tab cX7_reachedFrom [(0, .iconst 0, 1), (1, .istore_n 2, 1), (2, .iconst 0, 1), (3, .istore_n 3, 1), (4, .iload_n 3, 1), (5, .bipush 14, 2), (7, .if_icmp .ge 26, 3), (10, .iload_n 2, 1), (11, .aload_n 0, 1), (12, .iload_n 1, 1), (13, .iload_n 3, 1), (14, .invokevirtual 91, 3), (17, .ifCond .le 7, 3), (20, .iconst 1, 1), (21, .goto 4, 3), (24, .iconst 0, 1), (25, .iadd, 1), (26, .istore_n 2, 1), (27, .iinc 3 1, 3), (30, .goto (-26), 3), (33, .iload_n 2, 1), (34, .ireturn, 1)] := Tab.of (by decide +kernel)
set_option maxRecDepth 100000 in
theorem T_X7_farthestFrom : Tab cX7_farthestFrom [(0, .iconst 0, 1), (1, .istore_n 2, 1), (2, .iconst 0, 1), (3, .istore_n 3, 1), (4, .iload_n 3, 1), (5, .bipush 14, 2), (7, .if_icmp .ge 20, 3), (10, .iload_n 2, 1), (11, .aload_n 0, 1), (12, .iload_n 1, 1), (13, .iload_n 3, 1), (14, .invokevirtual 91, 3), (17, .invokestatic 95, 3), (20, .istore_n 2, 1), (21, .iinc 3 1, 3), (24, .goto (-20), 3), (27, .iload_n 2, 1), (28, .ireturn, 1)] := Tab.of (by decide +kernel)
set_option maxRecDepth 100000 in
theorem T_X7_sumFrom : Tab cX7_sumFrom [(0, .iconst 0, 1), (1, .istore_n 2, 1), (2, .iconst 0, 1), (3, .istore_n 3, 1), (4, .iload_n 3, 1), (5, .bipush 14, 2), (7, .if_icmp .ge 22, 3), (10, .iload_n 2, 1), (11, .iconst 0, 1), (12, .aload_n 0, 1), (13, .iload_n 1, 1), (14, .iload_n 3, 1), (15, .invokevirtual 91, 3), (18, .invokestatic 95, 3), (21, .iadd, 1), (22, .istore_n 2, 1), (23, .iinc 3 1, 3), (26, .goto (-22), 3), (29, .iload_n 2, 1), (30, .ireturn, 1)] := Tab.of (by decide +kernel)
set_option maxRecDepth 100000 in
theorem T_X7_bestPit : Tab cX7_bestPit [(0, .bipush (-2), 2), (2, .istore_n 3, 1), (3, .bipush (-2), 2), (5, .istore 4, 2), (7, .iconst 0, 1), (8, .istore 5, 2), (10, .iconst 0, 1), (11, .istore 6, 2), (13, .iload 6, 2), (15, .bipush 14, 2), (17, .if_icmp .ge 79, 3), (20, .aload_n 1, 1), (21, .iload 6, 2), (23, .invokevirtual 68, 3), (26, .ifCond .eq 64, 3), (29, .aload_n 0, 1), (30, .iload 6, 2), (32, .invokevirtual 100, 3), (35, .istore 7, 2), (37, .iload_n 2, 1), (38, .ifCond .eq 12, 3), (41, .aload_n 0, 1), (42, .iload 6, 2), (44, .invokevirtual 103, 3), (47, .goto 9, 3), (50, .aload_n 0, 1), (51, .iload 6, 2), (53, .invokevirtual 106, 3), (56, .istore 8, 2), (58, .iload 7, 2), (60, .iload 4, 2), (62, .if_icmp .gt 17, 3), (65, .iload 7, 2), (67, .iload 4, 2), (69, .if_icmp .ne 21, 3), (72, .iload 8, 2), (74, .iload 5, 2), (76, .if_icmp .ge 14, 3), (79, .iload 6, 2), (81, .istore_n 3, 1), (82, .iload 7, 2), (84, .istore 4, 2), (86, .iload 8, 2), (88, .istore 5, 2), (90, .iinc 6 1, 3), (93, .goto (-80), 3), (96, .iload_n 3, 1), (97, .ireturn, 1)] := Tab.of (by decide +kernel)
set_option maxRecDepth 100000 in
theorem T_X7_countCuts : Tab cX7_countCuts [(0, .iconst 0, 1), (1, .istore_n 1, 1), (2, .iconst 0, 1), (3, .istore_n 2, 1), (4, .iload_n 2, 1), (5, .sipush 196, 3), (8, .if_icmp .ge 25, 3), (11, .iload_n 1, 1), (12, .aload_n 0, 1), (13, .iload_n 2, 1), (14, .invokevirtual 109, 3), (17, .ifCond .eq 7, 3), (20, .iconst 1, 1), (21, .goto 4, 3), (24, .iconst 0, 1), (25, .iadd, 1), (26, .istore_n 1, 1), (27, .iinc 2 1, 3), (30, .goto (-26), 3), (33, .iload_n 1, 1), (34, .ireturn, 1)] := Tab.of (by decide +kernel)
set_option maxRecDepth 100000 in
theorem T_X7_firstCut : Tab cX7_firstCut [(0, .iconst 0, 1), (1, .istore_n 1, 1), (2, .iload_n 1, 1), (3, .sipush 196, 3), (6, .if_icmp .ge 19, 3), (9, .aload_n 0, 1), (10, .iload_n 1, 1), (11, .invokevirtual 109, 3), (14, .ifCond .eq 5, 3), (17, .iload_n 1, 1), (18, .ireturn, 1), (19, .iinc 1 1, 3), (22, .goto (-20), 3), (25, .bipush (-2), 2), (27, .ireturn, 1)] := Tab.of (by decide +kernel)
set_option maxRecDepth 100000 in
theorem T_X7_isCut : Tab cX7_isCut [(0, .iload_n 1, 1), (1, .bipush 14, 2), (3, .idiv, 1), (4, .istore_n 2, 1), (5, .iload_n 1, 1), (6, .bipush 14, 2), (8, .irem, 1), (9, .istore_n 3, 1), (10, .iload_n 2, 1), (11, .iload_n 3, 1), (12, .if_icmp .ge 23, 3), (15, .iload_n 1, 1), (16, .iconst 0, 1), (17, .sipush 195, 3), (20, .invokestatic 112, 3), (23, .ifCond .eq 12, 3), (26, .aload_n 0, 1), (27, .getfield 11, 3), (30, .iload_n 1, 1), (31, .iaload, 1), (32, .ifCond .ne 5, 3), (35, .iconst 0, 1), (36, .ireturn, 1), (37, .iconst 1, 1), (38, .iload_n 2, 1), (39, .ishl, 1), (40, .istore 4, 2), (42, .iconst 0, 1), (43, .istore 5, 2), (45, .iload 5, 2), (47, .bipush 14, 2), (49, .if_icmp .ge 48, 3), (52, .iconst 0, 1), (53, .istore 6, 2), (55, .iload 6, 2), (57, .bipush 14, 2), (59, .if_icmp .ge 32, 3), (62, .iload 4, 2), (64, .iload 6, 2), (66, .invokestatic 116, 3), (69, .ifCond .eq 16, 3), (72, .iload 4, 2), (74, .aload_n 0, 1), (75, .iload 6, 2), (77, .iload_n 2, 1), (78, .iload_n 3, 1), (79, .invokevirtual 120, 3), (82, .ior, 1), (83, .istore 4, 2), (85, .iinc 6 1, 3), (88, .goto (-33), 3), (91, .iinc 5 1, 3), (94, .goto (-49), 3), (97, .iload 4, 2), (99, .iload_n 3, 1), (100, .invokestatic 116, 3), (103, .ifCond .ne 7, 3), (106, .iconst 1, 1), (107, .goto 4, 3), (110, .iconst 0, 1), (111, .ireturn, 1)] := Tab.of (by decide +kernel)
set_option maxRecDepth 100000 in
theorem T_X7_neighboursOf : Tab cX7_neighboursOf [(0, .iconst 0, 1), (1, .istore 4, 2), (3, .iconst 0, 1), (4, .istore 5, 2), (6, .iload 5, 2), (8, .bipush 14, 2), (10, .if_icmp .ge 65, 3), (13, .iload_n 1, 1), (14, .iload 5, 2), (16, .invokestatic 124, 3), (19, .iload_n 2, 1), (20, .if_icmp .ne 17, 3), (23, .iload_n 1, 1), (24, .iload 5, 2), (26, .invokestatic 95, 3), (29, .iload_n 3, 1), (30, .if_icmp .ne 7, 3), (33, .iconst 1, 1), (34, .goto 4, 3), (37, .iconst 0, 1), (38, .istore 6, 2), (40, .iload 6, 2), (42, .ifCond .ne 27, 3), (45, .aload_n 0, 1), (46, .getfield 11, 3), (49, .iload_n 1, 1), (50, .bipush 14, 2), (52, .imul, 1), (53, .iload 5, 2), (55, .iadd, 1), (56, .iaload, 1), (57, .ifCond .le 12, 3), (60, .iload 4, 2), (62, .iconst 1, 1), (63, .iload 5, 2), (65, .ishl, 1), (66, .ior, 1), (67, .istore 4, 2), (69, .iinc 5 1, 3), (72, .goto (-66), 3), (75, .iload 4, 2), (77, .ireturn, 1)] := Tab.of (by decide +kernel)
set_option maxRecDepth 100000 in
theorem T_X8_find : Tab cX8_find [(0, .aload_n 0, 1), (1, .iconst 0, 1), (2, .putfield 25, 3), (5, .aload_n 0, 1), (6, .getfield 11, 3), (9, .bipush 7, 2), (11, .iload_n 1, 1), (12, .iastore, 1), (13, .iconst 0, 1), (14, .istore_n 3, 1), (15, .iload_n 3, 1), (16, .bipush 14, 2), (18, .if_icmp .ge 60, 3), (21, .aload_n 0, 1), (22, .getfield 25, 3), (25, .bipush 7, 2), (27, .if_icmp .ge 51, 3), (30, .iload_n 2, 1), (31, .iload_n 3, 1), (32, .invokestatic 29, 3), (35, .ifCond .eq 37, 3), (38, .aload_n 0, 1), (39, .getfield 21, 3), (42, .iload_n 1, 1), (43, .iload_n 3, 1), (44, .invokevirtual 33, 3), (47, .ifCond .ge 5, 3), (50, .iconst 0, 1), (51, .ireturn, 1), (52, .aload_n 0, 1), (53, .getfield 11, 3), (56, .aload_n 0, 1), (57, .getfield 25, 3), (60, .iload_n 3, 1), (61, .iastore, 1), (62, .aload_n 0, 1), (63, .dup, 1), (64, .getfield 25, 3), (67, .iconst 1, 1), (68, .iadd, 1), (69, .putfield 25, 3), (72, .iinc 3 1, 3), (75, .goto (-60), 3), (78, .iconst 0, 1), (79, .istore_n 3, 1), (80, .iload_n 3, 1), (81, .iconst 1, 1), (82, .aload_n 0, 1), (83, .getfield 25, 3), (86, .ishl, 1), (87, .if_icmp .ge 46, 3), (90, .iconst 0, 1), (91, .istore 4, 2), (93, .iload 4, 2), (95, .aload_n 0, 1), (96, .getfield 25, 3), (99, .if_icmp .ge 28, 3), (102, .aload_n 0, 1), (103, .getfield 15, 3), (106, .iload_n 3, 1), (107, .bipush 8, 2), (109, .imul, 1), (110, .iload 4, 2), (112, .iadd, 1), (113, .aload_n 0, 1), (114, .iload 4, 2), (116, .iload_n 3, 1), (117, .invokevirtual 39, 3), (120, .iastore, 1), (121, .iinc 4 1, 3), (124, .goto (-31), 3), (127, .iinc 3 1, 3), (130, .goto (-50), 3), (133, .aload_n 0, 1), (134, .getfield 15, 3), (137, .iconst 1, 1), (138, .aload_n 0, 1), (139, .getfield 25, 3), (142, .ishl, 1), (143, .iconst 1, 1), (144, .isub, 1), (145, .bipush 8, 2), (147, .imul, 1), (148, .bipush 7, 2), (150, .iadd, 1), (151, .aload_n 0, 1), (152, .bipush 7, 2), (154, .iconst 1, 1), (155, .aload_n 0, 1), (156, .getfield 25, 3), (159, .ishl, 1), (160, .iconst 1, 1), (161, .isub, 1), (162, .invokevirtual 39, 3), (165, .iastore, 1), (166, .aload_n 0, 1), (167, .invokevirtual 42, 3), (170, .iconst 1, 1), (171, .ireturn, 1)] := Tab.of (by decide +kernel)
set_option maxRecDepth 100000 in
theorem T_X8_minutes : Tab cX8_minutes [(0, .aload_n 0, 1), (1, .getfield 15, 3), (4, .iconst 1, 1), (5, .aload_n 0, 1), (6, .getfield 25, 3), (9, .ishl, 1), (10, .iconst 1, 1), (11, .isub, 1), (12, .bipush 8, 2), (14, .imul, 1), (15, .bipush 7, 2), (17, .iadd, 1), (18, .iaload, 1), (19, .ireturn, 1)] := Tab.of (by decide +kernel)
set_option maxRecDepth 100000 in
theorem T_X8_streetAt : Tab cX8_streetAt [(0, .iload_n 1, 1), (1, .iconst 0, 1), (2, .aload_n 0, 1), (3, .getfield 25, 3), (6, .iconst 1, 1), (7, .isub, 1), (8, .invokestatic 45, 3), (11, .ifCond .eq 17, 3), (14, .aload_n 0, 1), (15, .getfield 11, 3), (18, .aload_n 0, 1), (19, .getfield 18, 3), (22, .iload_n 1, 1), (23, .iaload, 1), (24, .iaload, 1), (25, .goto 4, 3), (28, .iconst (-1), 1), (29, .ireturn, 1)] := Tab.of (by decide +kernel)
set_option maxRecDepth 100000 in
theorem T_X8_leastFrom : Tab cX8_leastFrom [(0, .iload_n 2, 1), (1, .ifCond .ne 11, 3), (4, .aload_n 0, 1), (5, .iload_n 1, 1), (6, .bipush 7, 2), (8, .invokevirtual 49, 3), (11, .ireturn, 1), (12, .ldc 54, 2), (14, .istore_n 3, 1), (15, .iconst 0, 1), (16, .istore 4, 2), (18, .iload 4, 2), (20, .aload_n 0, 1), (21, .getfield 25, 3), (24, .if_icmp .ge 31, 3), (27, .iload_n 2, 1), (28, .iload 4, 2), (30, .invokestatic 29, 3), (33, .ifCond .eq 16, 3), (36, .iload_n 3, 1), (37, .aload_n 0, 1), (38, .iload_n 1, 1), (39, .iload 4, 2), (41, .iload_n 2, 1), (42, .invokevirtual 55, 3), (45, .invokestatic 59, 3), (48, .istore_n 3, 1), (49, .iinc 4 1, 3), (52, .goto (-34), 3), (55, .iload_n 3, 1), (56, .ireturn, 1)] := Tab.of (by decide +kernel)
set_option maxRecDepth 100000 in
theorem T_X8_minutesOver : Tab cX8_minutesOver [(0, .aload_n 0, 1), (1, .iload_n 1, 1), (2, .iload_n 2, 1), (3, .invokevirtual 49, 3), (6, .aload_n 0, 1), (7, .getfield 15, 3), (10, .iload_n 3, 1), (11, .iconst 1, 1), (12, .iload_n 2, 1), (13, .ishl, 1), (14, .iconst (-1), 1), (15, .ixor, 1), (16, .iand, 1), (17, .bipush 8, 2), (19, .imul, 1), (20, .iload_n 2, 1), (21, .iadd, 1), (22, .iaload, 1), (23, .iadd, 1), (24, .ireturn, 1)] := Tab.of (by decide +kernel)
set_option maxRecDepth 100000 in
theorem T_X8_minutesBetween : Tab cX8_minutesBetween [(0, .aload_n 0, 1), (1, .getfield 21, 3), (4, .aload_n 0, 1), (5, .getfield 11, 3), (8, .iload_n 1, 1), (9, .iaload, 1), (10, .aload_n 0, 1), (11, .getfield 11, 3), (14, .iload_n 2, 1), (15, .iaload, 1), (16, .invokevirtual 33, 3), (19, .ireturn, 1)] := Tab.of (by decide +kernel)
set_option maxRecDepth 100000 in
theorem T_X8_writeRow : Tab cX8_writeRow [(0, .iconst 1, 1), (1, .aload_n 0, 1), (2, .getfield 25, 3), (5, .ishl, 1), (6, .iconst 1, 1), (7, .isub, 1), (8, .istore_n 1, 1), (9, .bipush 7, 2), (11, .istore_n 2, 1), (12, .iconst 0, 1), (13, .istore_n 3, 1), (14, .iload_n 3, 1), (15, .aload_n 0, 1), (16, .getfield 25, 3), (19, .if_icmp .ge 47, 3), (22, .aload_n 0, 1), (23, .iload_n 2, 1), (24, .iload_n 1, 1), (25, .invokevirtual 39, 3), (28, .istore 4, 2), (30, .aload_n 0, 1), (31, .iload_n 2, 1), (32, .iload_n 1, 1), (33, .iload 4, 2), (35, .invokevirtual 64, 3), (38, .istore 5, 2), (40, .aload_n 0, 1), (41, .getfield 18, 3), (44, .iload_n 3, 1), (45, .iload 5, 2), (47, .iastore, 1), (48, .iload_n 1, 1), (49, .iconst 1, 1), (50, .iload 5, 2), (52, .ishl, 1), (53, .iconst (-1), 1), (54, .ixor, 1), (55, .iand, 1), (56, .istore_n 1, 1), (57, .iload 5, 2), (59, .istore_n 2, 1), (60, .iinc 3 1, 3), (63, .goto (-49), 3), (66, .return_, 1)] := Tab.of (by decide +kernel)
set_option maxRecDepth 100000 in
theorem T_X8_firstThatMeets : Tab cX8_firstThatMeets [(0, .iconst 0, 1), (1, .istore 4, 2), (3, .iload 4, 2), (5, .aload_n 0, 1), (6, .getfield 25, 3), (9, .if_icmp .ge 33, 3), (12, .iload_n 2, 1), (13, .iload 4, 2), (15, .invokestatic 29, 3), (18, .ifCond .eq 18, 3), (21, .aload_n 0, 1), (22, .iload_n 1, 1), (23, .iload 4, 2), (25, .iload_n 2, 1), (26, .invokevirtual 55, 3), (29, .iload_n 3, 1), (30, .if_icmp .ne 6, 3), (33, .iload 4, 2), (35, .ireturn, 1), (36, .iinc 4 1, 3), (39, .goto (-36), 3), (42, .iconst 0, 1), (43, .ireturn, 1)] := Tab.of (by decide +kernel)
set_option maxRecDepth 100000 in
theorem T_X9_choose : Tab cX9_choose [(0, .aload_n 0, 1), (1, .iconst 0, 1), (2, .putfield 25, 3), (5, .iconst 0, 1), (6, .istore_n 2, 1), (7, .iload_n 2, 1), (8, .bipush 14, 2), (10, .if_icmp .ge 46, 3), (13, .aload_n 0, 1), (14, .getfield 25, 3), (17, .bipush 8, 2), (19, .if_icmp .ge 37, 3), (22, .iload_n 1, 1), (23, .iload_n 2, 1), (24, .invokestatic 29, 3), (27, .ifCond .eq 23, 3), (30, .aload_n 0, 1), (31, .getfield 9, 3), (34, .aload_n 0, 1), (35, .getfield 25, 3), (38, .iload_n 2, 1), (39, .iastore, 1), (40, .aload_n 0, 1), (41, .dup, 1), (42, .getfield 25, 3), (45, .iconst 1, 1), (46, .iadd, 1), (47, .putfield 25, 3), (50, .iinc 2 1, 3), (53, .goto (-46), 3), (56, .return_, 1)] := Tab.of (by decide +kernel)
set_option maxRecDepth 100000 in
theorem T_X9_least : Tab cX9_least [(0, .aload_n 0, 1), (1, .getfield 33, 3), (4, .ireturn, 1)] := Tab.of (by decide +kernel)
set_option maxRecDepth 100000 in
theorem T_X9_yardsFor : Tab cX9_yardsFor [(0, .iconst 0, 1), (1, .istore_n 2, 1), (2, .iload_n 2, 1), (3, .aload_n 0, 1), (4, .getfield 25, 3), (7, .if_icmp .ge 26, 3), (10, .aload_n 0, 1), (11, .getfield 9, 3), (14, .iload_n 2, 1), (15, .iaload, 1), (16, .iload_n 1, 1), (17, .if_icmp .ne 10, 3), (20, .aload_n 0, 1), (21, .getfield 15, 3), (24, .iload_n 2, 1), (25, .iaload, 1), (26, .ireturn, 1), (27, .iinc 2 1, 3), (30, .goto (-28), 3), (33, .iconst (-1), 1), (34, .ireturn, 1)] := Tab.of (by decide +kernel)
set_option maxRecDepth 100000 in
theorem T_X9_spread : Tab cX9_spread [(0, .aload_n 0, 1), (1, .sipush 999, 3), (4, .invokevirtual 36, 3), (7, .iload_n 1, 1), (8, .if_icmp .ge 5, 3), (11, .iconst 0, 1), (12, .ireturn, 1), (13, .aload_n 0, 1), (14, .aload_n 0, 1), (15, .iload_n 1, 1), (16, .invokevirtual 40, 3), (19, .putfield 33, 3), (22, .iload_n 1, 1), (23, .aload_n 0, 1), (24, .aload_n 0, 1), (25, .getfield 33, 3), (28, .invokevirtual 36, 3), (31, .isub, 1), (32, .istore_n 2, 1), (33, .aload_n 0, 1), (34, .getfield 25, 3), (37, .iconst 1, 1), (38, .isub, 1), (39, .istore_n 3, 1), (40, .iload_n 3, 1), (41, .ifCond .lt 68, 3), (44, .aload_n 0, 1), (45, .getfield 21, 3), (48, .aload_n 0, 1), (49, .getfield 9, 3), (52, .iload_n 3, 1), (53, .iaload, 1), (54, .invokevirtual 43, 3), (57, .istore 4, 2), (59, .iconst 0, 1), (60, .aload_n 0, 1), (61, .getfield 33, 3), (64, .iload 4, 2), (66, .isub, 1), (67, .invokestatic 48, 3), (70, .istore 5, 2), (72, .iload_n 2, 1), (73, .sipush 999, 3), (76, .iload 4, 2), (78, .isub, 1), (79, .iload 5, 2), (81, .isub, 1), (82, .invokestatic 54, 3), (85, .istore 6, 2), (87, .aload_n 0, 1), (88, .getfield 15, 3), (91, .iload_n 3, 1), (92, .iload 5, 2), (94, .iload 6, 2), (96, .iadd, 1), (97, .iastore, 1), (98, .iload_n 2, 1), (99, .iload 6, 2), (101, .isub, 1), (102, .istore_n 2, 1), (103, .iinc 3 (-1), 3), (106, .goto (-66), 3), (109, .iconst 1, 1), (110, .ireturn, 1)] := Tab.of (by decide +kernel)
set_option maxRecDepth 100000 in
theorem T_X9_neededFor : Tab cX9_neededFor [(0, .iconst 0, 1), (1, .istore_n 2, 1), (2, .iconst 0, 1), (3, .istore_n 3, 1), (4, .iload_n 3, 1), (5, .aload_n 0, 1), (6, .getfield 25, 3), (9, .if_icmp .ge 31, 3), (12, .iload_n 2, 1), (13, .iconst 0, 1), (14, .iload_n 1, 1), (15, .aload_n 0, 1), (16, .getfield 21, 3), (19, .aload_n 0, 1), (20, .getfield 9, 3), (23, .iload_n 3, 1), (24, .iaload, 1), (25, .invokevirtual 43, 3), (28, .isub, 1), (29, .invokestatic 48, 3), (32, .iadd, 1), (33, .istore_n 2, 1), (34, .iinc 3 1, 3), (37, .goto (-33), 3), (40, .iload_n 2, 1), (41, .ireturn, 1)] := Tab.of (by decide +kernel)
set_option maxRecDepth 100000 in
theorem T_X9_greatestLevel : Tab cX9_greatestLevel [(0, .iconst 0, 1), (1, .istore_n 2, 1), (2, .sipush 999, 3), (5, .istore_n 3, 1), (6, .iconst 0, 1), (7, .istore 4, 2), (9, .iload 4, 2), (11, .bipush 10, 2), (13, .if_icmp .ge 39, 3), (16, .iload_n 2, 1), (17, .iload_n 3, 1), (18, .iadd, 1), (19, .iconst 1, 1), (20, .iadd, 1), (21, .iconst 2, 1), (22, .idiv, 1), (23, .istore 5, 2), (25, .aload_n 0, 1), (26, .iload 5, 2), (28, .invokevirtual 36, 3), (31, .iload_n 1, 1), (32, .if_icmp .gt 9, 3), (35, .iload 5, 2), (37, .istore_n 2, 1), (38, .goto 8, 3), (41, .iload 5, 2), (43, .iconst 1, 1), (44, .isub, 1), (45, .istore_n 3, 1), (46, .iinc 4 1, 3), (49, .goto (-40), 3), (52, .iload_n 2, 1), (53, .ireturn, 1)] := Tab.of (by decide +kernel)
set_option maxRecDepth 100000 in
theorem T_X9_houses : Tab cX9_houses [(0, .aload_n 0, 1), (1, .getfield 57, 3), (4, .ireturn, 1)] := Tab.of (by decide +kernel)
set_option maxRecDepth 100000 in
theorem T_X9_spent : Tab cX9_spent [(0, .aload_n 0, 1), (1, .getfield 60, 3), (4, .ireturn, 1)] := Tab.of (by decide +kernel)
set_option maxRecDepth 100000 in
theorem T_X9_sleepingStreets : Tab cX9_sleepingStreets [(0, .iconst 0, 1), (1, .istore_n 1, 1), (2, .iconst 0, 1), (3, .istore_n 2, 1), (4, .iload_n 2, 1), (5, .aload_n 0, 1), (6, .getfield 25, 3), (9, .if_icmp .ge 31, 3), (12, .aload_n 0, 1), (13, .getfield 63, 3), (16, .iload_n 2, 1), (17, .invokestatic 29, 3), (20, .ifCond .eq 14, 3), (23, .iload_n 1, 1), (24, .iconst 1, 1), (25, .aload_n 0, 1), (26, .getfield 9, 3), (29, .iload_n 2, 1), (30, .iaload, 1), (31, .ishl, 1), (32, .ior, 1), (33, .istore_n 1, 1), (34, .iinc 2 1, 3), (37, .goto (-33), 3), (40, .iload_n 1, 1), (41, .ireturn, 1)] := Tab.of (by decide +kernel)
set_option maxRecDepth 100000 in
theorem T_X9_findSleepful : Tab cX9_findSleepful [(0, .iconst 0, 1), (1, .istore_n 3, 1), (2, .iconst 0, 1), (3, .istore 4, 2), (5, .iload 4, 2), (7, .aload_n 0, 1), (8, .getfield 25, 3), (11, .if_icmp .ge 45, 3), (14, .aload_n 0, 1), (15, .getfield 15, 3), (18, .iload 4, 2), (20, .aload_n 0, 1), (21, .aload_n 0, 1), (22, .getfield 9, 3), (25, .iload 4, 2), (27, .iaload, 1), (28, .aload_n 2, 1), (29, .invokevirtual 66, 3), (32, .iastore, 1), (33, .aload_n 0, 1), (34, .getfield 15, 3), (37, .iload 4, 2), (39, .iaload, 1), (40, .ifCond .ne 10, 3), (43, .iload_n 3, 1), (44, .iconst 1, 1), (45, .iload 4, 2), (47, .ishl, 1), (48, .ior, 1), (49, .istore_n 3, 1), (50, .iinc 4 1, 3), (53, .goto (-48), 3), (56, .aload_n 0, 1), (57, .iconst (-1), 1), (58, .putfield 57, 3), (61, .iconst 0, 1), (62, .istore 4, 2), (64, .iload 4, 2), (66, .iconst 1, 1), (67, .aload_n 0, 1), (68, .getfield 25, 3), (71, .ishl, 1), (72, .if_icmp .ge 24, 3), (75, .iload 4, 2), (77, .iload_n 3, 1), (78, .iand, 1), (79, .iload_n 3, 1), (80, .if_icmp .ne 10, 3), (83, .aload_n 0, 1), (84, .iload 4, 2), (86, .iload_n 1, 1), (87, .invokevirtual 70, 3), (90, .iinc 4 1, 3), (93, .goto (-29), 3), (96, .return_, 1)] := Tab.of (by decide +kernel)
set_option maxRecDepth 100000 in
theorem T_X9_missingToSleep : Tab cX9_missingToSleep [(0, .aload_n 0, 1), (1, .getfield 21, 3), (4, .iload_n 1, 1), (5, .invokevirtual 43, 3), (8, .istore_n 3, 1), (9, .aload_n 2, 1), (10, .iconst 0, 1), (11, .aload_n 0, 1), (12, .getfield 21, 3), (15, .invokevirtual 74, 3), (18, .iconst 0, 1), (19, .invokevirtual 78, 3), (22, .aload_n 2, 1), (23, .aload_n 0, 1), (24, .getfield 21, 3), (27, .iload_n 1, 1), (28, .aload_n 0, 1), (29, .getfield 21, 3), (32, .iload_n 1, 1), (33, .invokevirtual 84, 3), (36, .iload_n 3, 1), (37, .invokevirtual 87, 3), (40, .iconst 0, 1), (41, .iconst 1, 1), (42, .aload_n 2, 1), (43, .bipush 115, 2), (45, .invokevirtual 91, 3), (48, .invokestatic 48, 3), (51, .iload_n 3, 1), (52, .isub, 1), (53, .invokestatic 48, 3), (56, .ireturn, 1)] := Tab.of (by decide +kernel)
set_option maxRecDepth 100000 in
theorem T_X9_weigh : Tab cX9_weigh [(0, .iconst 0, 1), (1, .istore_n 3, 1), (2, .iconst 0, 1), (3, .istore 4, 2), (5, .iconst 0, 1), (6, .istore 5, 2), (8, .iload 5, 2), (10, .aload_n 0, 1), (11, .getfield 25, 3), (14, .if_icmp .ge 47, 3), (17, .iload_n 1, 1), (18, .iload 5, 2), (20, .invokestatic 29, 3), (23, .ifCond .eq 32, 3), (26, .iload_n 3, 1), (27, .aload_n 0, 1), (28, .getfield 15, 3), (31, .iload 5, 2), (33, .iaload, 1), (34, .iadd, 1), (35, .istore_n 3, 1), (36, .iload 4, 2), (38, .aload_n 0, 1), (39, .getfield 21, 3), (42, .aload_n 0, 1), (43, .getfield 9, 3), (46, .iload 5, 2), (48, .iaload, 1), (49, .invokevirtual 94, 3), (52, .iadd, 1), (53, .istore 4, 2), (55, .iinc 5 1, 3), (58, .goto (-50), 3), (61, .iload_n 3, 1), (62, .iload_n 2, 1), (63, .if_icmp .gt 45, 3), (66, .iload 4, 2), (68, .aload_n 0, 1), (69, .getfield 57, 3), (72, .if_icmp .gt 20, 3), (75, .iload 4, 2), (77, .aload_n 0, 1), (78, .getfield 57, 3), (81, .if_icmp .ne 27, 3), (84, .iload_n 3, 1), (85, .aload_n 0, 1), (86, .getfield 60, 3), (89, .if_icmp .ge 19, 3), (92, .aload_n 0, 1), (93, .iload_n 1, 1), (94, .putfield 63, 3), (97, .aload_n 0, 1), (98, .iload 4, 2), (100, .putfield 57, 3), (103, .aload_n 0, 1), (104, .iload_n 3, 1), (105, .putfield 60, 3), (108, .return_, 1)] := Tab.of (by decide +kernel)
set_option maxRecDepth 100000 in
theorem T_X9_reckonGains : Tab cX9_reckonGains [(0, .iconst 0, 1), (1, .istore_n 2, 1), (2, .iload_n 2, 1), (3, .bipush 14, 2), (5, .if_icmp .ge 48, 3), (8, .aload_n 0, 1), (9, .getfield 21, 3), (12, .iload_n 2, 1), (13, .invokevirtual 97, 3), (16, .ifCond .eq 31, 3), (19, .aload_n 0, 1), (20, .getfield 18, 3), (23, .iload_n 2, 1), (24, .aload_n 0, 1), (25, .aload_n 0, 1), (26, .getfield 21, 3), (29, .iload_n 2, 1), (30, .invokevirtual 84, 3), (33, .iload_n 2, 1), (34, .aload_n 1, 1), (35, .invokevirtual 101, 3), (38, .aload_n 0, 1), (39, .iconst 0, 1), (40, .iload_n 2, 1), (41, .aload_n 1, 1), (42, .invokevirtual 101, 3), (45, .isub, 1), (46, .iastore, 1), (47, .iinc 2 1, 3), (50, .goto (-48), 3), (53, .return_, 1)] := Tab.of (by decide +kernel)
set_option maxRecDepth 100000 in
theorem T_X9_wastedBy : Tab cX9_wastedBy [(0, .iconst 0, 1), (1, .istore 4, 2), (3, .aload_n 3, 1), (4, .aload_n 0, 1), (5, .getfield 21, 3), (8, .iload_n 2, 1), (9, .iload_n 1, 1), (10, .aload_n 0, 1), (11, .getfield 21, 3), (14, .iload_n 2, 1), (15, .invokevirtual 43, 3), (18, .invokevirtual 87, 3), (21, .iconst 0, 1), (22, .istore 5, 2), (24, .iload 5, 2), (26, .bipush 10, 2), (28, .if_icmp .ge 34, 3), (31, .aload_n 3, 1), (32, .iload 5, 2), (34, .aload_n 0, 1), (35, .getfield 21, 3), (38, .invokevirtual 74, 3), (41, .iconst 0, 1), (42, .invokevirtual 78, 3), (45, .iload 4, 2), (47, .aload_n 3, 1), (48, .bipush 119, 2), (50, .invokevirtual 91, 3), (53, .iadd, 1), (54, .istore 4, 2), (56, .iinc 5 1, 3), (59, .goto (-35), 3), (62, .iload 4, 2), (64, .ireturn, 1)] := Tab.of (by decide +kernel)
set_option maxRecDepth 100000 in
theorem T_X9_gainOf : Tab cX9_gainOf [(0, .iload_n 1, 1), (1, .iconst 0, 1), (2, .bipush 13, 2), (4, .invokestatic 105, 3), (7, .ifCond .eq 12, 3), (10, .aload_n 0, 1), (11, .getfield 18, 3), (14, .iload_n 1, 1), (15, .iaload, 1), (16, .goto 4, 3), (19, .iconst 0, 1), (20, .ireturn, 1)] := Tab.of (by decide +kernel)
set_option maxRecDepth 100000 in
theorem T_X9_bestGainBeside : Tab cX9_bestGainBeside [(0, .iconst (-1), 1), (1, .istore_n 2, 1), (2, .iconst 0, 1), (3, .istore_n 3, 1), (4, .iload_n 3, 1), (5, .bipush 14, 2), (7, .if_icmp .ge 49, 3), (10, .aload_n 0, 1), (11, .getfield 21, 3), (14, .iload_n 3, 1), (15, .invokevirtual 97, 3), (18, .ifCond .eq 32, 3), (21, .iload_n 1, 1), (22, .iload_n 3, 1), (23, .invokestatic 29, 3), (26, .ifCond .ne 24, 3), (29, .iload_n 2, 1), (30, .ifCond .lt 18, 3), (33, .aload_n 0, 1), (34, .getfield 18, 3), (37, .iload_n 3, 1), (38, .iaload, 1), (39, .aload_n 0, 1), (40, .getfield 18, 3), (43, .iload_n 2, 1), (44, .iaload, 1), (45, .if_icmp .le 5, 3), (48, .iload_n 3, 1), (49, .istore_n 2, 1), (50, .iinc 3 1, 3), (53, .goto (-49), 3), (56, .iconst 0, 1), (57, .iload_n 2, 1), (58, .invokestatic 48, 3), (61, .ireturn, 1)] := Tab.of (by decide +kernel)
set_option maxRecDepth 100000 in
theorem T_X10_hasRoomFor : Tab cX10_hasRoomFor [(0, .aload_n 0, 1), (1, .getfield 15, 3), (4, .iload_n 1, 1), (5, .iadd, 1), (6, .sipush 260, 3), (9, .if_icmp .gt 7, 3), (12, .iconst 1, 1), (13, .goto 4, 3), (16, .iconst 0, 1), (17, .ireturn, 1)] := Tab.of (by decide +kernel)
set_option maxRecDepth 100000 in
theorem T_X10_holds : Tab cX10_holds [(0, .iload_n 1, 1), (1, .aload_n 0, 1), (2, .getfield 15, 3), (5, .if_icmp .gt 7, 3), (8, .iconst 1, 1), (9, .goto 4, 3), (12, .iconst 0, 1), (13, .ireturn, 1)] := Tab.of (by decide +kernel)
set_option maxRecDepth 100000 in
theorem T_X10_length : Tab cX10_length [(0, .aload_n 0, 1), (1, .getfield 15, 3), (4, .ireturn, 1)] := Tab.of (by decide +kernel)
set_option maxRecDepth 100000 in
theorem T_X10_clear : Tab cX10_clear [(0, .aload_n 0, 1), (1, .iconst 0, 1), (2, .putfield 15, 3), (5, .return_, 1)] := Tab.of (by decide +kernel)
set_option maxRecDepth 100000 in
theorem T_X10_addWord : Tab cX10_addWord [(0, .bipush 24, 2), (2, .istore_n 2, 1), (3, .iload_n 2, 1), (4, .ifCond .lt 45, 3), (7, .aload_n 0, 1), (8, .getfield 15, 3), (11, .sipush 260, 3), (14, .if_icmp .ge 29, 3), (17, .aload_n 0, 1), (18, .getfield 9, 3), (21, .aload_n 0, 1), (22, .getfield 15, 3), (25, .iload_n 1, 1), (26, .iload_n 2, 1), (27, .iushr, 1), (28, .sipush 255, 3), (31, .iand, 1), (32, .iastore, 1), (33, .aload_n 0, 1), (34, .dup, 1), (35, .getfield 15, 3), (38, .iconst 1, 1), (39, .iadd, 1), (40, .putfield 15, 3), (43, .iinc 2 (-8), 3), (46, .goto (-43), 3), (49, .return_, 1)] := Tab.of (by decide +kernel)
set_option maxRecDepth 100000 in
theorem T_X10_at : Tab cX10_at [(0, .iload_n 1, 1), (1, .ifCond .lt 20, 3), (4, .iload_n 1, 1), (5, .aload_n 0, 1), (6, .getfield 15, 3), (9, .if_icmp .ge 12, 3), (12, .aload_n 0, 1), (13, .getfield 9, 3), (16, .iload_n 1, 1), (17, .iaload, 1), (18, .goto 4, 3), (21, .iconst (-1), 1), (22, .ireturn, 1)] := Tab.of (by decide +kernel)
set_option maxRecDepth 100000 in
theorem T_X10_pairAt : Tab cX10_pairAt [(0, .aload_n 0, 1), (1, .iload_n 1, 1), (2, .invokevirtual 19, 3), (5, .sipush 256, 3), (8, .imul, 1), (9, .aload_n 0, 1), (10, .iload_n 1, 1), (11, .iconst 1, 1), (12, .iadd, 1), (13, .invokevirtual 19, 3), (16, .iadd, 1), (17, .ireturn, 1)] := Tab.of (by decide +kernel)
set_option maxRecDepth 100000 in
theorem T_X10_sumOf : Tab cX10_sumOf [(0, .iconst 0, 1), (1, .istore 5, 2), (3, .iconst 0, 1), (4, .istore 6, 2), (6, .iload 6, 2), (8, .iload 4, 2), (10, .if_icmp .ge 33, 3), (13, .iload_n 1, 1), (14, .iload 6, 2), (16, .invokestatic 23, 3), (19, .ifCond .eq 18, 3), (22, .iload 5, 2), (24, .aload_n 0, 1), (25, .iload_n 2, 1), (26, .iload 6, 2), (28, .iload_n 3, 1), (29, .imul, 1), (30, .iadd, 1), (31, .invokevirtual 19, 3), (34, .iadd, 1), (35, .istore 5, 2), (37, .iinc 6 1, 3), (40, .goto (-34), 3), (43, .iload 5, 2), (45, .ireturn, 1)] := Tab.of (by decide +kernel)
set_option maxRecDepth 100000 in
theorem T_X10_open : Tab cX10_open [(0, .aload_n 0, 1), (1, .iconst 0, 1), (2, .putfield 27, 3), (5, .aload_n 0, 1), (6, .iload_n 1, 1), (7, .putfield 30, 3), (10, .aload_n 0, 1), (11, .iconst 0, 1), (12, .putfield 33, 3), (15, .aload_n 0, 1), (16, .aload_n 0, 1), (17, .getfield 30, 3), (20, .ifCond .le 11, 3), (23, .aload_n 0, 1), (24, .iconst 0, 1), (25, .invokevirtual 19, 3), (28, .goto 4, 3), (31, .iconst (-1), 1), (32, .putfield 36, 3), (35, .return_, 1)] := Tab.of (by decide +kernel)
set_option maxRecDepth 100000 in
theorem T_X10_place : Tab cX10_place [(0, .aload_n 0, 1), (1, .getfield 27, 3), (4, .ireturn, 1)] := Tab.of (by decide +kernel)
set_option maxRecDepth 100000 in
theorem T_X10_sign : Tab cX10_sign [(0, .aload_n 0, 1), (1, .getfield 36, 3), (4, .ireturn, 1)] := Tab.of (by decide +kernel)
set_option maxRecDepth 100000 in
theorem T_X10_isAtEnd : Tab cX10_isAtEnd [(0, .aload_n 0, 1), (1, .getfield 27, 3), (4, .aload_n 0, 1), (5, .getfield 30, 3), (8, .if_icmp .lt 7, 3), (11, .iconst 1, 1), (12, .goto 4, 3), (15, .iconst 0, 1), (16, .ireturn, 1)] := Tab.of (by decide +kernel)
set_option maxRecDepth 100000 in
theorem T_X10_isSound : Tab cX10_isSound [(0, .aload_n 0, 1), (1, .getfield 33, 3), (4, .ifCond .ne 7, 3), (7, .iconst 1, 1), (8, .goto 4, 3), (11, .iconst 0, 1), (12, .ireturn, 1)] := Tab.of (by decide +kernel)
set_option maxRecDepth 100000 in
theorem T_X10_fault : Tab cX10_fault [(0, .aload_n 0, 1), (1, .getfield 33, 3), (4, .ireturn, 1)] := Tab.of (by decide +kernel)
set_option maxRecDepth 100000 in
theorem T_X10_step : Tab cX10_step [(0, .aload_n 0, 1), (1, .dup, 1), (2, .getfield 27, 3), (5, .iconst 1, 1), (6, .iadd, 1), (7, .putfield 27, 3), (10, .aload_n 0, 1), (11, .aload_n 0, 1), (12, .getfield 27, 3), (15, .ifCond .lt 37, 3), (18, .aload_n 0, 1), (19, .getfield 27, 3), (22, .aload_n 0, 1), (23, .getfield 30, 3), (26, .if_icmp .ge 26, 3), (29, .aload_n 0, 1), (30, .getfield 27, 3), (33, .aload_n 0, 1), (34, .getfield 15, 3), (37, .if_icmp .ge 15, 3), (40, .aload_n 0, 1), (41, .getfield 9, 3), (44, .aload_n 0, 1), (45, .getfield 27, 3), (48, .iaload, 1), (49, .goto 4, 3), (52, .iconst (-1), 1), (53, .putfield 36, 3), (56, .return_, 1)] := Tab.of (by decide +kernel)
set_option maxRecDepth 100000 in
theorem T_X10_failAt : Tab cX10_failAt [(0, .aload_n 0, 1), (1, .getfield 33, 3), (4, .ifCond .ne 14, 3), (7, .aload_n 0, 1), (8, .sipush (-1000), 3), (11, .iload_n 1, 1), (12, .imul, 1), (13, .iload_n 2, 1), (14, .isub, 1), (15, .putfield 33, 3), (18, .return_, 1)] := Tab.of (by decide +kernel)
set_option maxRecDepth 100000 in
theorem T_X10_fail : Tab cX10_fail [(0, .aload_n 0, 1), (1, .getfield 33, 3), (4, .ifCond .ne 17, 3), (7, .aload_n 0, 1), (8, .sipush (-1000), 3), (11, .iload_n 1, 1), (12, .imul, 1), (13, .aload_n 0, 1), (14, .getfield 27, 3), (17, .isub, 1), (18, .putfield 33, 3), (21, .return_, 1)] := Tab.of (by decide +kernel)
set_option maxRecDepth 100000 in
theorem T_X10_sees : Tab cX10_sees [(0, .aload_n 0, 1), (1, .getfield 33, 3), (4, .ifCond .ne 15, 3), (7, .aload_n 0, 1), (8, .getfield 36, 3), (11, .iload_n 1, 1), (12, .if_icmp .ne 7, 3), (15, .iconst 1, 1), (16, .goto 4, 3), (19, .iconst 0, 1), (20, .ireturn, 1)] := Tab.of (by decide +kernel)
set_option maxRecDepth 100000 in
theorem T_X10_seesDigit : Tab cX10_seesDigit [(0, .aload_n 0, 1), (1, .getfield 33, 3), (4, .ifCond .ne 25, 3), (7, .aload_n 0, 1), (8, .getfield 36, 3), (11, .bipush 48, 2), (13, .if_icmp .lt 16, 3), (16, .aload_n 0, 1), (17, .getfield 36, 3), (20, .bipush 57, 2), (22, .if_icmp .gt 7, 3), (25, .iconst 1, 1), (26, .goto 4, 3), (29, .iconst 0, 1), (30, .ireturn, 1)] := Tab.of (by decide +kernel)
set_option maxRecDepth 100000 in
theorem T_X10_seesStreet : Tab cX10_seesStreet [(0, .aload_n 0, 1), (1, .getfield 33, 3), (4, .ifCond .ne 25, 3), (7, .aload_n 0, 1), (8, .getfield 36, 3), (11, .bipush 97, 2), (13, .if_icmp .lt 16, 3), (16, .aload_n 0, 1), (17, .getfield 36, 3), (20, .bipush 110, 2), (22, .if_icmp .gt 7, 3), (25, .iconst 1, 1), (26, .goto 4, 3), (29, .iconst 0, 1), (30, .ireturn, 1)] := Tab.of (by decide +kernel)
set_option maxRecDepth 100000 in
theorem T_X10_need : Tab cX10_need [(0, .aload_n 0, 1), (1, .iload_n 1, 1), (2, .invokevirtual 39, 3), (5, .ifCond .eq 10, 3), (8, .aload_n 0, 1), (9, .invokevirtual 43, 3), (12, .goto 8, 3), (15, .aload_n 0, 1), (16, .iconst 1, 1), (17, .invokevirtual 46, 3), (20, .return_, 1)] := Tab.of (by decide +kernel)
set_option maxRecDepth 100000 in
theorem T_X10_readNumber : Tab cX10_readNumber [(0, .aload_n 0, 1), (1, .invokevirtual 50, 3), (4, .ifCond .ne 8, 3), (7, .aload_n 0, 1), (8, .iconst 1, 1), (9, .invokevirtual 46, 3), (12, .iconst 0, 1), (13, .istore_n 2, 1), (14, .iconst 0, 1), (15, .istore_n 3, 1), (16, .iload_n 3, 1), (17, .iload_n 1, 1), (18, .if_icmp .ge 33, 3), (21, .aload_n 0, 1), (22, .invokevirtual 50, 3), (25, .ifCond .eq 26, 3), (28, .iload_n 2, 1), (29, .bipush 10, 2), (31, .imul, 1), (32, .aload_n 0, 1), (33, .getfield 36, 3), (36, .iadd, 1), (37, .bipush 48, 2), (39, .isub, 1), (40, .istore_n 2, 1), (41, .aload_n 0, 1), (42, .invokevirtual 43, 3), (45, .iinc 3 1, 3), (48, .goto (-32), 3), (51, .iload_n 2, 1), (52, .ireturn, 1)] := Tab.of (by decide +kernel)
set_option maxRecDepth 100000 in
theorem T_X11_street : Tab cX11_street [(0, .iload_n 1, 1), (1, .iconst 0, 1), (2, .bipush 13, 2), (4, .invokestatic 96, 3), (7, .ifCond .eq 34, 3), (10, .iload_n 2, 1), (11, .iconst 0, 1), (12, .bipush 99, 2), (14, .invokestatic 96, 3), (17, .ifCond .eq 24, 3), (20, .iload_n 3, 1), (21, .iconst 0, 1), (22, .bipush 9, 2), (24, .invokestatic 96, 3), (27, .ifCond .eq 14, 3), (30, .iload 4, 2), (32, .iconst 0, 1), (33, .bipush 99, 2), (35, .invokestatic 96, 3), (38, .ifCond .ne 5, 3), (41, .iconst 0, 1), (42, .ireturn, 1), (43, .aload_n 0, 1), (44, .getfield 28, 3), (47, .iload_n 1, 1), (48, .iload_n 2, 1), (49, .iload_n 3, 1), (50, .iload 4, 2), (52, .invokevirtual 100, 3), (55, .iconst 1, 1), (56, .ireturn, 1)] := Tab.of (by decide +kernel)
set_option maxRecDepth 100000 in
theorem T_X11_cart : Tab cX11_cart [(0, .aload_n 0, 1), (1, .iload_n 1, 1), (2, .invokevirtual 104, 3), (5, .astore_n 3, 1), (6, .aload_n 3, 1), (7, .ifnull 13, 3), (10, .iload_n 2, 1), (11, .iconst 1, 1), (12, .bipush 99, 2), (14, .invokestatic 96, 3), (17, .ifCond .ne 5, 3), (20, .iconst 0, 1), (21, .ireturn, 1), (22, .aload_n 3, 1), (23, .iload_n 2, 1), (24, .invokevirtual 108, 3), (27, .iconst 1, 1), (28, .ireturn, 1)] := Tab.of (by decide +kernel)
set_option maxRecDepth 100000 in
theorem T_X11_pour : Tab cX11_pour [(0, .aload_n 0, 1), (1, .getfield 28, 3), (4, .iload_n 1, 1), (5, .invokevirtual 112, 3), (8, .ifCond .eq 14, 3), (11, .iload_n 2, 1), (12, .iconst 0, 1), (13, .sipush 999, 3), (16, .invokestatic 96, 3), (19, .ifCond .ne 5, 3), (22, .iconst (-1), 1), (23, .ireturn, 1), (24, .aload_n 0, 1), (25, .getfield 28, 3), (28, .iload_n 1, 1), (29, .iload_n 2, 1), (30, .invokevirtual 116, 3), (33, .ireturn, 1)] := Tab.of (by decide +kernel)
set_option maxRecDepth 100000 in
theorem T_X11_feed : Tab cX11_feed [(0, .aload_n 0, 1), (1, .getfield 24, 3), (4, .bipush 20, 2), (6, .invokevirtual 120, 3), (9, .ifCond .ne 5, 3), (12, .iconst (-1), 1), (13, .ireturn, 1), (14, .aload_n 0, 1), (15, .getfield 24, 3), (18, .iload_n 1, 1), (19, .invokevirtual 123, 3), (22, .aload_n 0, 1), (23, .getfield 24, 3), (26, .iload_n 2, 1), (27, .invokevirtual 123, 3), (30, .aload_n 0, 1), (31, .getfield 24, 3), (34, .iload_n 3, 1), (35, .invokevirtual 123, 3), (38, .aload_n 0, 1), (39, .getfield 24, 3), (42, .iload 4, 2), (44, .invokevirtual 123, 3), (47, .aload_n 0, 1), (48, .getfield 24, 3), (51, .iload 5, 2), (53, .invokevirtual 123, 3), (56, .aload_n 0, 1), (57, .getfield 24, 3), (60, .invokevirtual 126, 3), (63, .ireturn, 1)] := Tab.of (by decide +kernel)
set_option maxRecDepth 100000 in
theorem T_X11_law : Tab cX11_law [(0, .iload_n 1, 1), (1, .iconst 1, 1), (2, .sipush 240, 3), (5, .invokestatic 96, 3), (8, .ifCond .eq 14, 3), (11, .aload_n 0, 1), (12, .getfield 24, 3), (15, .iload_n 1, 1), (16, .invokevirtual 130, 3), (19, .ifCond .ne 5, 3), (22, .iconst (-1), 1), (23, .ireturn, 1), (24, .aload_n 0, 1), (25, .getfield 24, 3), (28, .iload_n 1, 1), (29, .invokevirtual 133, 3), (32, .aload_n 0, 1), (33, .getfield 43, 3), (36, .aload_n 0, 1), (37, .getfield 24, 3), (40, .invokevirtual 136, 3), (43, .istore_n 2, 1), (44, .aload_n 0, 1), (45, .getfield 24, 3), (48, .invokevirtual 140, 3), (51, .ifCond .eq 17, 3), (54, .aload_n 0, 1), (55, .getfield 36, 3), (58, .aload_n 0, 1), (59, .getfield 43, 3), (62, .invokevirtual 144, 3), (65, .invokevirtual 148, 3), (68, .aload_n 0, 1), (69, .getfield 24, 3), (72, .invokevirtual 152, 3), (75, .iload_n 2, 1), (76, .ireturn, 1)] := Tab.of (by decide +kernel)
set_option maxRecDepth 100000 in
theorem T_X11_roads : Tab cX11_roads [(0, .iload_n 1, 1), (1, .iconst 1, 1), (2, .sipush 200, 3), (5, .invokestatic 96, 3), (8, .ifCond .eq 14, 3), (11, .aload_n 0, 1), (12, .getfield 24, 3), (15, .iload_n 1, 1), (16, .invokevirtual 130, 3), (19, .ifCond .ne 5, 3), (22, .iconst (-1), 1), (23, .ireturn, 1), (24, .aload_n 0, 1), (25, .getfield 24, 3), (28, .iload_n 1, 1), (29, .invokevirtual 133, 3), (32, .aload_n 0, 1), (33, .getfield 32, 3), (36, .aload_n 0, 1), (37, .getfield 24, 3), (40, .aload_n 0, 1), (41, .getfield 28, 3), (44, .invokevirtual 155, 3), (47, .istore_n 2, 1), (48, .aload_n 0, 1), (49, .getfield 24, 3), (52, .invokevirtual 152, 3), (55, .iload_n 2, 1), (56, .ireturn, 1)] := Tab.of (by decide +kernel)
set_option maxRecDepth 100000 in
theorem T_X11_plan : Tab cX11_plan [(0, .aload_n 0, 1), (1, .iload_n 1, 1), (2, .invokevirtual 104, 3), (5, .astore_n 3, 1), (6, .aload_n 3, 1), (7, .ifnull 24, 3), (10, .iload_n 2, 1), (11, .iconst 1, 1), (12, .bipush 80, 2), (14, .invokestatic 96, 3), (17, .ifCond .eq 14, 3), (20, .aload_n 0, 1), (21, .getfield 24, 3), (24, .iload_n 2, 1), (25, .invokevirtual 130, 3), (28, .ifCond .ne 5, 3), (31, .iconst (-1), 1), (32, .ireturn, 1), (33, .aload_n 0, 1), (34, .getfield 24, 3), (37, .iload_n 2, 1), (38, .invokevirtual 133, 3), (41, .aload_n 0, 1), (42, .getfield 51, 3), (45, .aload_n 0, 1), (46, .getfield 24, 3), (49, .invokevirtual 158, 3), (52, .istore 4, 2), (54, .aload_n 0, 1), (55, .getfield 24, 3), (58, .invokevirtual 140, 3), (61, .ifCond .eq 11, 3), (64, .aload_n 3, 1), (65, .aload_n 0, 1), (66, .getfield 51, 3), (69, .invokevirtual 161, 3), (72, .aload_n 0, 1), (73, .getfield 24, 3), (76, .invokevirtual 152, 3), (79, .iload 4, 2), (81, .ireturn, 1)] := Tab.of (by decide +kernel)
set_option maxRecDepth 100000 in
theorem T_X11_nights : Tab cX11_nights [(0, .iload_n 1, 1), (1, .iconst 1, 1), (2, .bipush 20, 2), (4, .invokestatic 96, 3), (7, .ifCond .ne 5, 3), (10, .iconst (-1), 1), (11, .ireturn, 1), (12, .iconst 0, 1), (13, .istore_n 2, 1), (14, .iconst 0, 1), (15, .istore_n 3, 1), (16, .iload_n 3, 1), (17, .iload_n 1, 1), (18, .if_icmp .ge 65, 3), (21, .aload_n 0, 1), (22, .getfield 28, 3), (25, .invokevirtual 165, 3), (28, .sipush 9999, 3), (31, .if_icmp .ge 52, 3), (34, .aload_n 0, 1), (35, .iconst 0, 1), (36, .invokevirtual 167, 3), (39, .aload_n 0, 1), (40, .getfield 60, 3), (43, .invokevirtual 170, 3), (46, .iload_n 2, 1), (47, .aload_n 0, 1), (48, .getfield 60, 3), (51, .invokevirtual 173, 3), (54, .iadd, 1), (55, .istore_n 2, 1), (56, .aload_n 0, 1), (57, .getfield 28, 3), (60, .aload_n 0, 1), (61, .getfield 60, 3), (64, .invokevirtual 173, 3), (67, .aload_n 0, 1), (68, .getfield 60, 3), (71, .invokevirtual 176, 3), (74, .invokevirtual 179, 3), (77, .iinc 3 1, 3), (80, .goto (-64), 3), (83, .iload_n 2, 1), (84, .ireturn, 1)] := Tab.of (by decide +kernel)
set_option maxRecDepth 100000 in
theorem T_X11_tried : Tab cX11_tried [(0, .aload_n 0, 1), (1, .getfield 28, 3), (4, .invokevirtual 165, 3), (7, .sipush 9999, 3), (10, .if_icmp .ge 11, 3), (13, .aload_n 0, 1), (14, .iload_n 1, 1), (15, .invokevirtual 183, 3), (18, .ifCond .ne 5, 3), (21, .iconst (-1), 1), (22, .ireturn, 1), (23, .aload_n 0, 1), (24, .iconst 0, 1), (25, .invokevirtual 167, 3), (28, .aload_n 0, 1), (29, .getfield 60, 3), (32, .invokevirtual 170, 3), (35, .iload_n 1, 1), (36, .bipush 10, 2), (38, .if_icmp .ge 12, 3), (41, .aload_n 0, 1), (42, .getfield 60, 3), (45, .iload_n 1, 1), (46, .invokevirtual 186, 3), (49, .ireturn, 1), (50, .iload_n 1, 1), (51, .bipush 30, 2), (53, .if_icmp .ge 15, 3), (56, .aload_n 0, 1), (57, .getfield 60, 3), (60, .iload_n 1, 1), (61, .bipush 10, 2), (63, .isub, 1), (64, .invokevirtual 190, 3), (67, .ireturn, 1), (68, .iload_n 1, 1), (69, .bipush 40, 2), (71, .if_icmp .ge 15, 3), (74, .aload_n 0, 1), (75, .getfield 60, 3), (78, .iload_n 1, 1), (79, .bipush 30, 2), (81, .isub, 1), (82, .invokevirtual 193, 3), (85, .ireturn, 1), (86, .aload_n 0, 1), (87, .getfield 60, 3), (90, .iload_n 1, 1), (91, .bipush 40, 2), (93, .isub, 1), (94, .invokevirtual 196, 3), (97, .ireturn, 1)] := Tab.of (by decide +kernel)
set_option maxRecDepth 100000 in
theorem T_X11_way : Tab cX11_way [(0, .aload_n 0, 1), (1, .getfield 28, 3), (4, .iload_n 1, 1), (5, .invokevirtual 112, 3), (8, .ifCond .eq 14, 3), (11, .aload_n 0, 1), (12, .getfield 28, 3), (15, .iload_n 2, 1), (16, .invokevirtual 112, 3), (19, .ifCond .ne 5, 3), (22, .iconst (-1), 1), (23, .ireturn, 1), (24, .aload_n 0, 1), (25, .getfield 32, 3), (28, .iload_n 1, 1), (29, .iload_n 2, 1), (30, .invokevirtual 199, 3), (33, .ireturn, 1)] := Tab.of (by decide +kernel)
set_option maxRecDepth 100000 in
theorem T_X11_round : Tab cX11_round [(0, .aload_n 0, 1), (1, .getfield 28, 3), (4, .iload_n 1, 1), (5, .invokevirtual 112, 3), (8, .ifCond .eq 24, 3), (11, .aload_n 0, 1), (12, .getfield 28, 3), (15, .iload_n 2, 1), (16, .bipush 7, 2), (18, .invokevirtual 202, 3), (21, .ifCond .eq 11, 3), (24, .iload_n 2, 1), (25, .iload_n 1, 1), (26, .invokestatic 206, 3), (29, .ifCond .eq 5, 3), (32, .iconst (-1), 1), (33, .ireturn, 1), (34, .iload_n 3, 1), (35, .bipush 20, 2), (37, .if_icmp .eq 19, 3), (40, .iload_n 3, 1), (41, .iconst 0, 1), (42, .iload_n 2, 1), (43, .invokestatic 209, 3), (46, .iconst 1, 1), (47, .isub, 1), (48, .invokestatic 96, 3), (51, .ifCond .ne 5, 3), (54, .iconst (-1), 1), (55, .ireturn, 1), (56, .aload_n 0, 1), (57, .getfield 69, 3), (60, .iload_n 1, 1), (61, .iload_n 2, 1), (62, .invokevirtual 214, 3), (65, .ifCond .ne 6, 3), (68, .bipush (-2), 2), (70, .ireturn, 1), (71, .iload_n 3, 1), (72, .bipush 20, 2), (74, .if_icmp .ne 13, 3), (77, .aload_n 0, 1), (78, .getfield 69, 3), (81, .invokevirtual 217, 3), (84, .goto 11, 3), (87, .aload_n 0, 1), (88, .getfield 69, 3), (91, .iload_n 3, 1), (92, .invokevirtual 220, 3), (95, .ireturn, 1)] := Tab.of (by decide +kernel)
set_option maxRecDepth 100000 in
theorem T_X11_share : Tab cX11_share [(0, .iload_n 1, 1), (1, .iconst 0, 1), (2, .sipush 600, 3), (5, .invokestatic 96, 3), (8, .ifCond .eq 16, 3), (11, .aload_n 0, 1), (12, .getfield 28, 3), (15, .iload_n 2, 1), (16, .bipush 6, 2), (18, .invokevirtual 202, 3), (21, .ifCond .ne 5, 3), (24, .iconst (-1), 1), (25, .ireturn, 1), (26, .iload_n 3, 1), (27, .bipush 20, 2), (29, .if_icmp .eq 24, 3), (32, .aload_n 0, 1), (33, .getfield 28, 3), (36, .iload_n 3, 1), (37, .invokevirtual 112, 3), (40, .ifCond .eq 11, 3), (43, .iload_n 2, 1), (44, .iload_n 3, 1), (45, .invokestatic 206, 3), (48, .ifCond .ne 5, 3), (51, .iconst (-1), 1), (52, .ireturn, 1), (53, .aload_n 0, 1), (54, .getfield 78, 3), (57, .iload_n 2, 1), (58, .invokevirtual 223, 3), (61, .aload_n 0, 1), (62, .getfield 78, 3), (65, .iload_n 1, 1), (66, .invokevirtual 226, 3), (69, .ifCond .ne 6, 3), (72, .bipush (-2), 2), (74, .ireturn, 1), (75, .iload_n 3, 1), (76, .bipush 20, 2), (78, .if_icmp .ne 13, 3), (81, .aload_n 0, 1), (82, .getfield 78, 3), (85, .invokevirtual 229, 3), (88, .goto 11, 3), (91, .aload_n 0, 1), (92, .getfield 78, 3), (95, .iload_n 3, 1), (96, .invokevirtual 232, 3), (99, .ireturn, 1)] := Tab.of (by decide +kernel)
set_option maxRecDepth 100000 in
theorem T_X11_sleepful : Tab cX11_sleepful [(0, .iload_n 1, 1), (1, .iconst 0, 1), (2, .sipush 300, 3), (5, .invokestatic 96, 3), (8, .ifCond .eq 25, 3), (11, .aload_n 0, 1), (12, .getfield 28, 3), (15, .iload_n 2, 1), (16, .bipush 8, 2), (18, .invokevirtual 202, 3), (21, .ifCond .eq 12, 3), (24, .iload_n 3, 1), (25, .iconst 0, 1), (26, .iconst 2, 1), (27, .invokestatic 96, 3), (30, .ifCond .ne 5, 3), (33, .iconst (-1), 1), (34, .ireturn, 1), (35, .aload_n 0, 1), (36, .getfield 78, 3), (39, .iload_n 2, 1), (40, .invokevirtual 223, 3), (43, .aload_n 0, 1), (44, .getfield 78, 3), (47, .iload_n 1, 1), (48, .aload_n 0, 1), (49, .getfield 36, 3), (52, .invokevirtual 235, 3), (55, .iload_n 3, 1), (56, .ifCond .ne 11, 3), (59, .aload_n 0, 1), (60, .getfield 78, 3), (63, .invokevirtual 239, 3), (66, .ireturn, 1), (67, .iload_n 3, 1), (68, .iconst 1, 1), (69, .if_icmp .ne 13, 3), (72, .aload_n 0, 1), (73, .getfield 78, 3), (76, .invokevirtual 242, 3), (79, .goto 10, 3), (82, .aload_n 0, 1), (83, .getfield 78, 3), (86, .invokevirtual 245, 3), (89, .ireturn, 1)] := Tab.of (by decide +kernel)
set_option maxRecDepth 100000 in
theorem T_X11_pitAt : Tab cX11_pitAt [(0, .iload_n 1, 1), (1, .iconst 0, 1), (2, .iconst 3, 1), (3, .invokestatic 96, 3), (6, .ifCond .ne 5, 3), (9, .iconst (-1), 1), (10, .ireturn, 1), (11, .aload_n 0, 1), (12, .getfield 28, 3), (15, .invokevirtual 248, 3), (18, .ifCond .ne 6, 3), (21, .bipush (-2), 2), (23, .ireturn, 1), (24, .aload_n 0, 1), (25, .getfield 32, 3), (28, .aload_n 0, 1), (29, .getfield 28, 3), (32, .iload_n 1, 1), (33, .iconst 2, 1), (34, .if_icmp .ge 7, 3), (37, .iconst 1, 1), (38, .goto 4, 3), (41, .iconst 0, 1), (42, .invokevirtual 251, 3), (45, .istore_n 2, 1), (46, .iload_n 1, 1), (47, .ifCond .eq 8, 3), (50, .iload_n 1, 1), (51, .iconst 2, 1), (52, .if_icmp .ne 5, 3), (55, .iload_n 2, 1), (56, .ireturn, 1), (57, .iload_n 1, 1), (58, .iconst 1, 1), (59, .if_icmp .ne 14, 3), (62, .aload_n 0, 1), (63, .getfield 32, 3), (66, .iload_n 2, 1), (67, .invokevirtual 255, 3), (70, .goto 11, 3), (73, .aload_n 0, 1), (74, .getfield 32, 3), (77, .iload_n 2, 1), (78, .invokevirtual 258, 3), (81, .ireturn, 1)] := Tab.of (by decide +kernel)
set_option maxRecDepth 100000 in
theorem T_X11_cut : Tab cX11_cut [(0, .iload_n 1, 1), (1, .iconst 0, 1), (2, .iconst 2, 1), (3, .invokestatic 96, 3), (6, .ifCond .ne 5, 3), (9, .iconst (-1), 1), (10, .ireturn, 1), (11, .iload_n 1, 1), (12, .ifCond .ne 11, 3), (15, .aload_n 0, 1), (16, .getfield 32, 3), (19, .invokevirtual 261, 3), (22, .ireturn, 1), (23, .aload_n 0, 1), (24, .getfield 32, 3), (27, .invokevirtual 264, 3), (30, .istore_n 2, 1), (31, .iload_n 2, 1), (32, .ifCond .ge 6, 3), (35, .bipush (-2), 2), (37, .ireturn, 1), (38, .iload_n 1, 1), (39, .iconst 1, 1), (40, .if_icmp .ne 10, 3), (43, .iload_n 2, 1), (44, .bipush 14, 2), (46, .idiv, 1), (47, .goto 7, 3), (50, .iload_n 2, 1), (51, .bipush 14, 2), (53, .irem, 1), (54, .ireturn, 1)] := Tab.of (by decide +kernel)
set_option maxRecDepth 100000 in
theorem T_X11_strike : Tab cX11_strike [(0, .aload_n 0, 1), (1, .getfield 28, 3), (4, .invokevirtual 165, 3), (7, .sipush 9999, 3), (10, .if_icmp .ge 14, 3), (13, .iload_n 1, 1), (14, .iconst 0, 1), (15, .sipush 600, 3), (18, .invokestatic 96, 3), (21, .ifCond .ne 5, 3), (24, .iconst (-1), 1), (25, .ireturn, 1), (26, .aload_n 0, 1), (27, .iload_n 1, 1), (28, .invokevirtual 167, 3), (31, .aload_n 0, 1), (32, .getfield 60, 3), (35, .invokevirtual 170, 3), (38, .aload_n 0, 1), (39, .getfield 60, 3), (42, .invokevirtual 173, 3), (45, .ireturn, 1)] := Tab.of (by decide +kernel)
set_option maxRecDepth 100000 in
theorem T_X11_enough : Tab cX11_enough [(0, .aload_n 0, 1), (1, .getfield 28, 3), (4, .iload_n 1, 1), (5, .invokevirtual 112, 3), (8, .ifCond .ne 5, 3), (11, .iconst (-1), 1), (12, .ireturn, 1), (13, .sipush 999, 3), (16, .aload_n 0, 1), (17, .getfield 28, 3), (20, .iload_n 1, 1), (21, .invokevirtual 267, 3), (24, .isub, 1), (25, .istore_n 2, 1), (26, .iconst 0, 1), (27, .istore_n 3, 1), (28, .iload_n 3, 1), (29, .iload_n 2, 1), (30, .if_icmp .gt 32, 3), (33, .aload_n 0, 1), (34, .getfield 60, 3), (37, .iload_n 1, 1), (38, .aload_n 0, 1), (39, .getfield 28, 3), (42, .iload_n 1, 1), (43, .invokevirtual 267, 3), (46, .iload_n 3, 1), (47, .iadd, 1), (48, .invokevirtual 268, 3), (51, .ifCond .eq 5, 3), (54, .iload_n 3, 1), (55, .ireturn, 1), (56, .iinc 3 1, 3), (59, .goto (-31), 3), (62, .bipush (-2), 2), (64, .ireturn, 1)] := Tab.of (by decide +kernel)
set_option maxRecDepth 100000 in
theorem T_X11_oneStop : Tab cX11_oneStop [(0, .aload_n 0, 1), (1, .iload_n 1, 1), (2, .invokevirtual 271, 3), (5, .ifCond .eq 35, 3), (8, .iload_n 2, 1), (9, .iconst 1, 1), (10, .bipush 99, 2), (12, .invokestatic 96, 3), (15, .ifCond .eq 25, 3), (18, .iload_n 3, 1), (19, .iconst 0, 1), (20, .iconst 1, 1), (21, .invokestatic 96, 3), (24, .ifCond .eq 16, 3), (27, .aload_n 0, 1), (28, .getfield 28, 3), (31, .invokevirtual 165, 3), (34, .sipush 9999, 3), (37, .if_icmp .lt 5, 3), (40, .iconst (-1), 1), (41, .ireturn, 1), (42, .bipush (-2), 2), (44, .istore 4, 2), (46, .bipush (-2), 2), (48, .istore 5, 2), (50, .iconst 0, 1), (51, .istore 6, 2), (53, .iload 6, 2), (55, .bipush 14, 2), (57, .if_icmp .ge 61, 3), (60, .aload_n 0, 1), (61, .getfield 28, 3), (64, .iload 6, 2), (66, .invokevirtual 112, 3), (69, .ifCond .eq 43, 3), (72, .aload_n 0, 1), (73, .iload_n 1, 1), (74, .iload_n 2, 1), (75, .iload 6, 2), (77, .invokevirtual 274, 3), (80, .aload_n 0, 1), (81, .getfield 60, 3), (84, .invokevirtual 170, 3), (87, .aload_n 0, 1), (88, .getfield 60, 3), (91, .invokevirtual 173, 3), (94, .iload 5, 2), (96, .if_icmp .le 16, 3), (99, .aload_n 0, 1), (100, .getfield 60, 3), (103, .invokevirtual 173, 3), (106, .istore 5, 2), (108, .iload 6, 2), (110, .istore 4, 2), (112, .iinc 6 1, 3), (115, .goto (-62), 3), (118, .iload_n 3, 1), (119, .ifCond .ne 8, 3), (122, .iload 4, 2), (124, .goto 5, 3), (127, .iload 5, 2), (129, .ireturn, 1)] := Tab.of (by decide +kernel)
set_option maxRecDepth 100000 in
theorem T_X11_out : Tab cX11_out [(0, .iload_n 1, 1), (1, .iconst 1, 1), (2, .iconst 5, 1), (3, .invokestatic 96, 3), (6, .ifCond .eq 26, 3), (9, .iload_n 1, 1), (10, .aload_n 0, 1), (11, .getfield 28, 3), (14, .invokevirtual 248, 3), (17, .invokestatic 209, 3), (20, .if_icmp .gt 12, 3), (23, .iload_n 2, 1), (24, .iconst 0, 1), (25, .iconst 1, 1), (26, .invokestatic 96, 3), (29, .ifCond .ne 5, 3), (32, .iconst (-1), 1), (33, .ireturn, 1), (34, .aload_n 0, 1), (35, .getfield 78, 3), (38, .aload_n 0, 1), (39, .getfield 36, 3), (42, .invokevirtual 278, 3), (45, .iconst 0, 1), (46, .istore_n 3, 1), (47, .iconst 0, 1), (48, .istore 4, 2), (50, .iconst 0, 1), (51, .istore 5, 2), (53, .iload 5, 2), (55, .iload_n 1, 1), (56, .if_icmp .ge 40, 3), (59, .aload_n 0, 1), (60, .getfield 78, 3), (63, .iload_n 3, 1), (64, .invokevirtual 281, 3), (67, .istore 6, 2), (69, .iload_n 3, 1), (70, .iconst 1, 1), (71, .iload 6, 2), (73, .ishl, 1), (74, .ior, 1), (75, .istore_n 3, 1), (76, .iload 4, 2), (78, .aload_n 0, 1), (79, .getfield 78, 3), (82, .iload 6, 2), (84, .invokevirtual 284, 3), (87, .iadd, 1), (88, .istore 4, 2), (90, .iinc 5 1, 3), (93, .goto (-40), 3), (96, .iload_n 2, 1), (97, .ifCond .ne 8, 3), (100, .iload 4, 2), (102, .goto 4, 3), (105, .iload_n 3, 1), (106, .ireturn, 1)] := Tab.of (by decide +kernel)
set_option maxRecDepth 100000 in
theorem T_X11_jobs : Tab cX11_jobs [(0, .iload_n 1, 1), (1, .iconst 1, 1), (2, .bipush 8, 2), (4, .invokestatic 96, 3), (7, .ifCond .eq 14, 3), (10, .aload_n 0, 1), (11, .getfield 24, 3), (14, .iload_n 1, 1), (15, .invokevirtual 130, 3), (18, .ifCond .ne 5, 3), (21, .iconst (-1), 1), (22, .ireturn, 1), (23, .aload_n 0, 1), (24, .iload_n 1, 1), (25, .iload_n 2, 1), (26, .iload_n 3, 1), (27, .invokevirtual 287, 3), (30, .istore 4, 2), (32, .aload_n 0, 1), (33, .getfield 24, 3), (36, .invokevirtual 152, 3), (39, .iload 4, 2), (41, .ireturn, 1)] := Tab.of (by decide +kernel)
set_option maxRecDepth 100000 in
theorem T_X11_load : Tab cX11_load [(0, .iload_n 1, 1), (1, .iconst 1, 1), (2, .bipush 8, 2), (4, .invokestatic 96, 3), (7, .ifCond .eq 36, 3), (10, .iload_n 2, 1), (11, .iconst 0, 1), (12, .sipush 999, 3), (15, .invokestatic 96, 3), (18, .ifCond .eq 25, 3), (21, .iload_n 3, 1), (22, .iconst 0, 1), (23, .iconst 1, 1), (24, .invokestatic 96, 3), (27, .ifCond .eq 16, 3), (30, .aload_n 0, 1), (31, .getfield 24, 3), (34, .iconst 2, 1), (35, .iload_n 1, 1), (36, .imul, 1), (37, .invokevirtual 130, 3), (40, .ifCond .ne 5, 3), (43, .iconst (-1), 1), (44, .ireturn, 1), (45, .bipush (-2), 2), (47, .istore 4, 2), (49, .bipush (-2), 2), (51, .istore 5, 2), (53, .iconst 0, 1), (54, .istore 6, 2), (56, .iload 6, 2), (58, .iconst 1, 1), (59, .iload_n 1, 1), (60, .ishl, 1), (61, .if_icmp .ge 54, 3), (64, .aload_n 0, 1), (65, .getfield 24, 3), (68, .iload 6, 2), (70, .iconst 0, 1), (71, .iconst 2, 1), (72, .iload_n 1, 1), (73, .invokevirtual 291, 3), (76, .iload_n 2, 1), (77, .if_icmp .ne 32, 3), (80, .aload_n 0, 1), (81, .getfield 24, 3), (84, .iload 6, 2), (86, .iconst 1, 1), (87, .iconst 2, 1), (88, .iload_n 1, 1), (89, .invokevirtual 291, 3), (92, .istore 7, 2), (94, .iload 7, 2), (96, .iload 4, 2), (98, .if_icmp .le 11, 3), (101, .iload 7, 2), (103, .istore 4, 2), (105, .iload 6, 2), (107, .istore 5, 2), (109, .iinc 6 1, 3), (112, .goto (-56), 3), (115, .aload_n 0, 1), (116, .getfield 24, 3), (119, .invokevirtual 152, 3), (122, .iload_n 3, 1), (123, .ifCond .ne 8, 3), (126, .iload 4, 2), (128, .goto 5, 3), (131, .iload 5, 2), (133, .ireturn, 1)] := Tab.of (by decide +kernel)
set_option maxRecDepth 100000 in
theorem T_X11_brides : Tab cX11_brides [(0, .iload_n 1, 1), (1, .iconst 1, 1), (2, .bipush 6, 2), (4, .invokestatic 96, 3), (7, .ifCond .eq 16, 3), (10, .aload_n 0, 1), (11, .getfield 24, 3), (14, .iconst 2, 1), (15, .iload_n 1, 1), (16, .imul, 1), (17, .invokevirtual 130, 3), (20, .ifCond .ne 5, 3), (23, .iconst (-1), 1), (24, .ireturn, 1), (25, .aload_n 0, 1), (26, .iload_n 1, 1), (27, .iload_n 2, 1), (28, .invokevirtual 295, 3), (31, .istore_n 3, 1), (32, .aload_n 0, 1), (33, .getfield 24, 3), (36, .invokevirtual 152, 3), (39, .iload_n 3, 1), (40, .ireturn, 1)] := Tab.of (by decide +kernel)
set_option maxRecDepth 100000 in
theorem T_X11_thieves : Tab cX11_thieves [(0, .iload_n 1, 1), (1, .iconst 1, 1), (2, .bipush 10, 2), (4, .invokestatic 96, 3), (7, .ifCond .eq 34, 3), (10, .iload_n 2, 1), (11, .iconst 0, 1), (12, .sipush 2550, 3), (15, .invokestatic 96, 3), (18, .ifCond .eq 23, 3), (21, .iload_n 3, 1), (22, .iconst 0, 1), (23, .iconst 2, 1), (24, .invokestatic 96, 3), (27, .ifCond .eq 14, 3), (30, .aload_n 0, 1), (31, .getfield 24, 3), (34, .iload_n 1, 1), (35, .invokevirtual 130, 3), (38, .ifCond .ne 5, 3), (41, .iconst (-1), 1), (42, .ireturn, 1), (43, .iconst 0, 1), (44, .istore 4, 2), (46, .bipush (-2), 2), (48, .istore 5, 2), (50, .iconst 1, 1), (51, .iload_n 1, 1), (52, .ishl, 1), (53, .iconst 1, 1), (54, .isub, 1), (55, .istore 6, 2), (57, .iconst 0, 1), (58, .istore 7, 2), (60, .iload 7, 2), (62, .iconst 1, 1), (63, .iload_n 1, 1), (64, .ishl, 1), (65, .if_icmp .ge 49, 3), (68, .aload_n 0, 1), (69, .getfield 24, 3), (72, .iload 7, 2), (74, .iconst 0, 1), (75, .iconst 1, 1), (76, .iload_n 1, 1), (77, .invokevirtual 291, 3), (80, .iload_n 2, 1), (81, .if_icmp .ne 27, 3), (84, .iload 4, 2), (86, .ifCond .ne 8, 3), (89, .iload 7, 2), (91, .goto 5, 3), (94, .iload 5, 2), (96, .istore 5, 2), (98, .iload 6, 2), (100, .iload 7, 2), (102, .iand, 1), (103, .istore 6, 2), (105, .iinc 4 1, 3), (108, .iinc 7 1, 3), (111, .goto (-51), 3), (114, .aload_n 0, 1), (115, .getfield 24, 3), (118, .invokevirtual 152, 3), (121, .iload_n 3, 1), (122, .ifCond .ne 6, 3), (125, .iload 4, 2), (127, .ireturn, 1), (128, .iload_n 3, 1), (129, .iconst 1, 1), (130, .if_icmp .eq 8, 3), (133, .iload 4, 2), (135, .ifCond .ne 8, 3), (138, .iload 5, 2), (140, .goto 5, 3), (143, .iload 6, 2), (145, .ireturn, 1)] := Tab.of (by decide +kernel)
set_option maxRecDepth 100000 in
theorem T_X11_latest : Tab cX11_latest [(0, .iload_n 1, 1), (1, .iconst 1, 1), (2, .bipush 6, 2), (4, .invokestatic 96, 3), (7, .ifCond .eq 16, 3), (10, .aload_n 0, 1), (11, .getfield 24, 3), (14, .iconst 3, 1), (15, .iload_n 1, 1), (16, .imul, 1), (17, .invokevirtual 130, 3), (20, .ifCond .ne 5, 3), (23, .iconst (-1), 1), (24, .ireturn, 1), (25, .aload_n 0, 1), (26, .iload_n 1, 1), (27, .invokevirtual 298, 3), (30, .istore_n 2, 1), (31, .aload_n 0, 1), (32, .getfield 24, 3), (35, .invokevirtual 152, 3), (38, .iload_n 2, 1), (39, .ireturn, 1)] := Tab.of (by decide +kernel)
set_option maxRecDepth 100000 in
theorem T_X11_keep : Tab cX11_keep [(0, .aload_n 0, 1), (1, .getfield 28, 3), (4, .invokevirtual 301, 3), (7, .ireturn, 1)] := Tab.of (by decide +kernel)
set_option maxRecDepth 100000 in
theorem T_X11_undo : Tab cX11_undo [(0, .aload_n 0, 1), (1, .getfield 28, 3), (4, .invokevirtual 304, 3), (7, .ireturn, 1)] := Tab.of (by decide +kernel)
set_option maxRecDepth 100000 in
theorem T_X11_check : Tab cX11_check [(0, .iload_n 1, 1), (1, .iconst 0, 1), (2, .bipush 14, 2), (4, .invokestatic 96, 3), (7, .ifCond .eq 16, 3), (10, .aload_n 0, 1), (11, .getfield 24, 3), (14, .iconst 2, 1), (15, .iload_n 1, 1), (16, .imul, 1), (17, .invokevirtual 130, 3), (20, .ifCond .ne 6, 3), (23, .bipush (-2), 2), (25, .ireturn, 1), (26, .iconst (-1), 1), (27, .istore_n 2, 1), (28, .iconst 0, 1), (29, .istore_n 3, 1), (30, .iload_n 3, 1), (31, .iload_n 1, 1), (32, .if_icmp .ge 37, 3), (35, .iload_n 2, 1), (36, .iconst (-1), 1), (37, .if_icmp .ne 32, 3), (40, .aload_n 0, 1), (41, .getfield 24, 3), (44, .iconst 2, 1), (45, .iload_n 3, 1), (46, .imul, 1), (47, .invokevirtual 307, 3), (50, .aload_n 0, 1), (51, .getfield 28, 3), (54, .iload_n 3, 1), (55, .invokevirtual 267, 3), (58, .if_icmp .eq 5, 3), (61, .iload_n 3, 1), (62, .istore_n 2, 1), (63, .iinc 3 1, 3), (66, .goto (-36), 3), (69, .aload_n 0, 1), (70, .getfield 24, 3), (73, .invokevirtual 152, 3), (76, .iload_n 2, 1), (77, .ireturn, 1)] := Tab.of (by decide +kernel)
set_option maxRecDepth 100000 in
theorem T_X11_count : Tab cX11_count [(0, .iload_n 1, 1), (1, .bipush 100, 2), (3, .if_icmp .lt 25, 3), (6, .aload_n 0, 1), (7, .iload_n 1, 1), (8, .bipush 100, 2), (10, .isub, 1), (11, .invokevirtual 104, 3), (14, .astore_n 2, 1), (15, .aload_n 2, 1), (16, .ifnonnull 7, 3), (19, .iconst (-1), 1), (20, .goto 7, 3), (23, .aload_n 2, 1), (24, .invokevirtual 310, 3), (27, .ireturn, 1), (28, .iload_n 1, 1), (29, .bipush 90, 2), (31, .if_icmp .lt 31, 3), (34, .aload_n 0, 1), (35, .iload_n 1, 1), (36, .bipush 90, 2), (38, .isub, 1), (39, .invokevirtual 271, 3), (42, .ifCond .eq 18, 3), (45, .aload_n 0, 1), (46, .getfield 47, 3), (49, .iload_n 1, 1), (50, .bipush 90, 2), (52, .isub, 1), (53, .aaload, 1), (54, .invokevirtual 313, 3), (57, .goto 4, 3), (60, .iconst (-1), 1), (61, .ireturn, 1), (62, .iload_n 1, 1), (63, .bipush 10, 2), (65, .if_icmp .lt 9, 3), (68, .aload_n 0, 1), (69, .iload_n 1, 1), (70, .invokevirtual 316, 3), (73, .ireturn, 1), (74, .iload_n 1, 1), (75, .tableswitch 106 0 7 #[45, 53, 61, 69, 77, 82, 90, 98], 45), (120, .aload_n 0, 1), (121, .getfield 28, 3), (124, .invokevirtual 165, 3), (127, .ireturn, 1), (128, .aload_n 0, 1), (129, .getfield 28, 3), (132, .invokevirtual 319, 3), (135, .ireturn, 1), (136, .aload_n 0, 1), (137, .getfield 28, 3), (140, .invokevirtual 320, 3), (143, .ireturn, 1), (144, .aload_n 0, 1), (145, .getfield 28, 3), (148, .invokevirtual 248, 3), (151, .ireturn, 1), (152, .aload_n 0, 1), (153, .invokevirtual 321, 3), (156, .ireturn, 1), (157, .aload_n 0, 1), (158, .getfield 36, 3), (161, .invokevirtual 324, 3), (164, .ireturn, 1), (165, .aload_n 0, 1), (166, .getfield 24, 3), (169, .invokevirtual 126, 3), (172, .ireturn, 1), (173, .aload_n 0, 1), (174, .getfield 32, 3), (177, .invokevirtual 327, 3), (180, .ireturn, 1), (181, .iconst (-1), 1), (182, .ireturn, 1)] := Tab.of (by decide +kernel)
set_option maxRecDepth 100000 in
theorem T_X11_isWithin : Tab cX11_isWithin [(0, .iload_n 0, 1), (1, .iload_n 1, 1), (2, .if_icmp .lt 12, 3), (5, .iload_n 0, 1), (6, .iload_n 2, 1), (7, .if_icmp .gt 7, 3), (10, .iconst 1, 1), (11, .goto 4, 3), (14, .iconst 0, 1), (15, .ireturn, 1)] := Tab.of (by decide +kernel)
set_option maxRecDepth 100000 in
theorem T_X11_hasBit : Tab cX11_hasBit [(0, .iload_n 0, 1), (1, .iload_n 1, 1), (2, .ishr, 1), (3, .iconst 1, 1), (4, .iand, 1), (5, .iconst 1, 1), (6, .if_icmp .ne 7, 3), (9, .iconst 1, 1), (10, .goto 4, 3), (13, .iconst 0, 1), (14, .ireturn, 1)] := Tab.of (by decide +kernel)
set_option maxRecDepth 100000 in
theorem T_X11_cartAt : Tab cX11_cartAt [(0, .iload_n 1, 1), (1, .iconst 0, 1), (2, .iconst 4, 1), (3, .invokestatic 96, 3), (6, .ifCond .eq 12, 3), (9, .aload_n 0, 1), (10, .getfield 47, 3), (13, .iload_n 1, 1), (14, .aaload, 1), (15, .goto 4, 3), (18, .aconst_null, 1), (19, .areturn, 1)] := Tab.of (by decide +kernel)
set_option maxRecDepth 100000 in
theorem T_X11_isToldCart : Tab cX11_isToldCart [(0, .aload_n 0, 1), (1, .iload_n 1, 1), (2, .invokevirtual 104, 3), (5, .astore_n 2, 1), (6, .aload_n 2, 1), (7, .ifnull 14, 3), (10, .aload_n 2, 1), (11, .invokevirtual 330, 3), (14, .ifCond .eq 7, 3), (17, .iconst 1, 1), (18, .goto 4, 3), (21, .iconst 0, 1), (22, .ireturn, 1)] := Tab.of (by decide +kernel)
set_option maxRecDepth 100000 in
theorem T_X11_toldCarts : Tab cX11_toldCarts [(0, .iconst 0, 1), (1, .istore_n 1, 1), (2, .iconst 0, 1), (3, .istore_n 2, 1), (4, .iload_n 2, 1), (5, .iconst 5, 1), (6, .if_icmp .ge 23, 3), (9, .aload_n 0, 1), (10, .iload_n 2, 1), (11, .invokevirtual 271, 3), (14, .ifCond .eq 9, 3), (17, .iload_n 1, 1), (18, .iconst 1, 1), (19, .iload_n 2, 1), (20, .ishl, 1), (21, .ior, 1), (22, .istore_n 1, 1), (23, .iinc 2 1, 3), (26, .goto (-22), 3), (29, .iload_n 1, 1), (30, .ireturn, 1)] := Tab.of (by decide +kernel)
set_option maxRecDepth 100000 in
theorem T_X11_countOfStreet : Tab cX11_countOfStreet [(0, .iload_n 1, 1), (1, .bipush 30, 2), (3, .if_icmp .ge 33, 3), (6, .aload_n 0, 1), (7, .getfield 28, 3), (10, .iload_n 1, 1), (11, .bipush 10, 2), (13, .isub, 1), (14, .invokevirtual 112, 3), (17, .ifCond .eq 17, 3), (20, .aload_n 0, 1), (21, .getfield 28, 3), (24, .iload_n 1, 1), (25, .bipush 10, 2), (27, .isub, 1), (28, .invokevirtual 332, 3), (31, .goto 4, 3), (34, .iconst (-1), 1), (35, .ireturn, 1), (36, .iload_n 1, 1), (37, .bipush 50, 2), (39, .if_icmp .ge 33, 3), (42, .aload_n 0, 1), (43, .getfield 28, 3), (46, .iload_n 1, 1), (47, .bipush 30, 2), (49, .isub, 1), (50, .invokevirtual 112, 3), (53, .ifCond .eq 17, 3), (56, .aload_n 0, 1), (57, .getfield 28, 3), (60, .iload_n 1, 1), (61, .bipush 30, 2), (63, .isub, 1), (64, .invokevirtual 335, 3), (67, .goto 4, 3), (70, .iconst (-1), 1), (71, .ireturn, 1), (72, .iload_n 1, 1), (73, .bipush 70, 2), (75, .if_icmp .ge 33, 3), (78, .aload_n 0, 1), (79, .getfield 28, 3), (82, .iload_n 1, 1), (83, .bipush 50, 2), (85, .isub, 1), (86, .invokevirtual 112, 3), (89, .ifCond .eq 17, 3), (92, .aload_n 0, 1), (93, .getfield 28, 3), (96, .iload_n 1, 1), (97, .bipush 50, 2), (99, .isub, 1), (100, .invokevirtual 338, 3), (103, .goto 4, 3), (106, .iconst (-1), 1), (107, .ireturn, 1), (108, .aload_n 0, 1), (109, .getfield 28, 3), (112, .iload_n 1, 1), (113, .bipush 70, 2), (115, .isub, 1), (116, .invokevirtual 112, 3), (119, .ifCond .eq 17, 3), (122, .aload_n 0, 1), (123, .getfield 28, 3), (126, .iload_n 1, 1), (127, .bipush 70, 2), (129, .isub, 1), (130, .invokevirtual 267, 3), (133, .goto 4, 3), (136, .iconst (-1), 1), (137, .ireturn, 1)] := Tab.of (by decide +kernel)
set_option maxRecDepth 100000 in
theorem T_X11_canBeTried : Tab cX11_canBeTried [(0, .iload_n 1, 1), (1, .bipush 10, 2), (3, .if_icmp .ge 10, 3), (6, .iload_n 1, 1), (7, .iconst 0, 1), (8, .iconst 5, 1), (9, .invokestatic 96, 3), (12, .ireturn, 1), (13, .iload_n 1, 1), (14, .bipush 30, 2), (16, .if_icmp .ge 15, 3), (19, .aload_n 0, 1), (20, .getfield 28, 3), (23, .iload_n 1, 1), (24, .bipush 10, 2), (26, .isub, 1), (27, .invokevirtual 112, 3), (30, .ireturn, 1), (31, .iload_n 1, 1), (32, .bipush 40, 2), (34, .if_icmp .ge 14, 3), (37, .aload_n 0, 1), (38, .iload_n 1, 1), (39, .bipush 30, 2), (41, .isub, 1), (42, .invokevirtual 271, 3), (45, .goto 11, 3), (48, .aload_n 0, 1), (49, .iload_n 1, 1), (50, .bipush 40, 2), (52, .isub, 1), (53, .invokevirtual 271, 3), (56, .ireturn, 1)] := Tab.of (by decide +kernel)
set_option maxRecDepth 100000 in
theorem T_X11_sendCarts : Tab cX11_sendCarts [(0, .aload_n 0, 1), (1, .getfield 60, 3), (4, .invokevirtual 341, 3), (7, .iconst 0, 1), (8, .istore_n 2, 1), (9, .iload_n 2, 1), (10, .iconst 5, 1), (11, .if_icmp .ge 32, 3), (14, .aload_n 0, 1), (15, .iload_n 2, 1), (16, .invokevirtual 271, 3), (19, .ifCond .eq 18, 3), (22, .aload_n 0, 1), (23, .getfield 60, 3), (26, .iload_n 2, 1), (27, .aload_n 0, 1), (28, .getfield 47, 3), (31, .iload_n 2, 1), (32, .aaload, 1), (33, .iload_n 1, 1), (34, .invokevirtual 344, 3), (37, .iinc 2 1, 3), (40, .goto (-31), 3), (43, .return_, 1)] := Tab.of (by decide +kernel)
set_option maxRecDepth 100000 in
theorem T_X11_sendOneCart : Tab cX11_sendOneCart [(0, .aload_n 0, 1), (1, .getfield 60, 3), (4, .invokevirtual 341, 3), (7, .aload_n 0, 1), (8, .iload_n 1, 1), (9, .invokevirtual 104, 3), (12, .astore 4, 2), (14, .aload 4, 2), (16, .ifnull 37, 3), (19, .aload_n 0, 1), (20, .getfield 51, 3), (23, .aload 4, 2), (25, .invokevirtual 313, 3), (28, .invokevirtual 108, 3), (31, .aload_n 0, 1), (32, .getfield 51, 3), (35, .iload_n 2, 1), (36, .iload_n 3, 1), (37, .invokevirtual 348, 3), (40, .aload_n 0, 1), (41, .getfield 60, 3), (44, .iload_n 1, 1), (45, .aload_n 0, 1), (46, .getfield 51, 3), (49, .iconst 0, 1), (50, .invokevirtual 344, 3), (53, .return_, 1)] := Tab.of (by decide +kernel)
set_option maxRecDepth 100000 in
theorem T_X11_partJobs : Tab cX11_partJobs [(0, .iload_n 2, 1), (1, .iconst 1, 1), (2, .iconst 3, 1), (3, .invokestatic 96, 3), (6, .ifCond .eq 20, 3), (9, .iload_n 3, 1), (10, .bipush 10, 2), (12, .if_icmp .eq 17, 3), (15, .iload_n 3, 1), (16, .iconst 0, 1), (17, .iload_n 1, 1), (18, .iconst 1, 1), (19, .isub, 1), (20, .invokestatic 96, 3), (23, .ifCond .ne 6, 3), (26, .bipush (-4), 2), (28, .ireturn, 1), (29, .aload_n 0, 1), (30, .getfield 85, 3), (33, .aload_n 0, 1), (34, .getfield 24, 3), (37, .iload_n 1, 1), (38, .iload_n 2, 1), (39, .invokevirtual 351, 3), (42, .iload_n 3, 1), (43, .bipush 10, 2), (45, .if_icmp .ne 13, 3), (48, .aload_n 0, 1), (49, .getfield 85, 3), (52, .invokevirtual 354, 3), (55, .goto 11, 3), (58, .aload_n 0, 1), (59, .getfield 85, 3), (62, .iload_n 3, 1), (63, .invokevirtual 357, 3), (66, .ireturn, 1)] := Tab.of (by decide +kernel)
set_option maxRecDepth 100000 in
theorem T_X11_matchBrides : Tab cX11_matchBrides [(0, .iconst 0, 1), (1, .istore_n 3, 1), (2, .iload_n 1, 1), (3, .istore 4, 2), (5, .iload 4, 2), (7, .iconst 2, 1), (8, .iload_n 1, 1), (9, .imul, 1), (10, .if_icmp .ge 51, 3), (13, .aload_n 0, 1), (14, .getfield 24, 3), (17, .iload 4, 2), (19, .invokevirtual 360, 3), (22, .istore 5, 2), (24, .aload_n 0, 1), (25, .getfield 28, 3), (28, .iload 5, 2), (30, .invokevirtual 112, 3), (33, .ifCond .eq 12, 3), (36, .iload_n 3, 1), (37, .iload 5, 2), (39, .invokestatic 206, 3), (42, .ifCond .eq 6, 3), (45, .bipush (-2), 2), (47, .ireturn, 1), (48, .iload_n 3, 1), (49, .iconst 1, 1), (50, .iload 5, 2), (52, .ishl, 1), (53, .ior, 1), (54, .istore_n 3, 1), (55, .iinc 4 1, 3), (58, .goto (-53), 3), (61, .iload_n 2, 1), (62, .bipush 10, 2), (64, .if_icmp .eq 17, 3), (67, .iload_n 2, 1), (68, .iconst 0, 1), (69, .iload_n 1, 1), (70, .iconst 1, 1), (71, .isub, 1), (72, .invokestatic 96, 3), (75, .ifCond .ne 6, 3), (78, .bipush (-4), 2), (80, .ireturn, 1), (81, .aload_n 0, 1), (82, .getfield 92, 3), (85, .aload_n 0, 1), (86, .getfield 24, 3), (89, .iload_n 1, 1), (90, .aload_n 0, 1), (91, .getfield 28, 3), (94, .invokevirtual 363, 3), (97, .iload_n 2, 1), (98, .bipush 10, 2), (100, .if_icmp .ne 13, 3), (103, .aload_n 0, 1), (104, .getfield 92, 3), (107, .invokevirtual 366, 3), (110, .goto 20, 3), (113, .aload_n 0, 1), (114, .getfield 24, 3), (117, .iload_n 1, 1), (118, .aload_n 0, 1), (119, .getfield 92, 3), (122, .iload_n 2, 1), (123, .invokevirtual 369, 3), (126, .iadd, 1), (127, .invokevirtual 360, 3), (130, .ireturn, 1)] := Tab.of (by decide +kernel)
set_option maxRecDepth 100000 in
theorem T_X11_latestStart : Tab cX11_latestStart [(0, .iconst 0, 1), (1, .istore_n 2, 1), (2, .iload_n 2, 1), (3, .iload_n 1, 1), (4, .if_icmp .ge 32, 3), (7, .aload_n 0, 1), (8, .getfield 28, 3), (11, .aload_n 0, 1), (12, .getfield 24, 3), (15, .iconst 3, 1), (16, .iload_n 2, 1), (17, .imul, 1), (18, .invokevirtual 360, 3), (21, .invokevirtual 112, 3), (24, .ifCond .ne 6, 3), (27, .bipush (-3), 2), (29, .ireturn, 1), (30, .iinc 2 1, 3), (33, .goto (-31), 3), (36, .iconst 0, 1), (37, .istore_n 2, 1), (38, .iconst 0, 1), (39, .istore_n 3, 1), (40, .ldc_w 372, 3), (43, .istore 4, 2), (45, .iconst 0, 1), (46, .istore 5, 2), (48, .iload 5, 2), (50, .iload_n 1, 1), (51, .if_icmp .ge 72, 3), (54, .aload_n 0, 1), (55, .getfield 24, 3), (58, .iconst 3, 1), (59, .iload 5, 2), (61, .imul, 1), (62, .invokevirtual 360, 3), (65, .istore 6, 2), (67, .aload_n 0, 1), (68, .getfield 32, 3), (71, .iload_n 2, 1), (72, .iload 6, 2), (74, .invokevirtual 199, 3), (77, .istore 7, 2), (79, .iload 7, 2), (81, .ifCond .ge 6, 3), (84, .bipush (-2), 2), (86, .ireturn, 1), (87, .iload_n 3, 1), (88, .iload 7, 2), (90, .iadd, 1), (91, .istore_n 3, 1), (92, .iload 4, 2), (94, .aload_n 0, 1), (95, .getfield 24, 3), (98, .iconst 3, 1), (99, .iload 5, 2), (101, .imul, 1), (102, .iconst 1, 1), (103, .iadd, 1), (104, .invokevirtual 307, 3), (107, .iload_n 3, 1), (108, .isub, 1), (109, .invokestatic 373, 3), (112, .istore 4, 2), (114, .iload 6, 2), (116, .istore_n 2, 1), (117, .iinc 5 1, 3), (120, .goto (-72), 3), (123, .iload 4, 2), (125, .ifCond .ge 8, 3), (128, .bipush (-2), 2), (130, .goto 5, 3), (133, .iload 4, 2), (135, .ireturn, 1)] := Tab.of (by decide +kernel)
set_option maxRecDepth 100000 in
theorem T_X12_in : Tab cX12_in [(0, .iload_n 0, 1), (1, .iload_n 1, 1), (2, .if_icmp .lt 12, 3), (5, .iload_n 0, 1), (6, .iload_n 2, 1), (7, .if_icmp .gt 7, 3), (10, .iconst 1, 1), (11, .goto 4, 3), (14, .iconst 0, 1), (15, .ireturn, 1)] := Tab.of (by decide +kernel)
set_option maxRecDepth 100000 in
theorem T_X12_min : Tab cX12_min [(0, .iload_n 0, 1), (1, .iload_n 1, 1), (2, .if_icmp .ge 7, 3), (5, .iload_n 0, 1), (6, .goto 4, 3), (9, .iload_n 1, 1), (10, .ireturn, 1)] := Tab.of (by decide +kernel)
set_option maxRecDepth 100000 in
theorem T_X12_max : Tab cX12_max [(0, .iload_n 0, 1), (1, .iload_n 1, 1), (2, .if_icmp .le 7, 3), (5, .iload_n 0, 1), (6, .goto 4, 3), (9, .iload_n 1, 1), (10, .ireturn, 1)] := Tab.of (by decide +kernel)
set_option maxRecDepth 100000 in
theorem T_X12_has : Tab cX12_has [(0, .iload_n 0, 1), (1, .iload_n 1, 1), (2, .ishr, 1), (3, .iconst 1, 1), (4, .iand, 1), (5, .iconst 1, 1), (6, .if_icmp .ne 7, 3), (9, .iconst 1, 1), (10, .goto 4, 3), (13, .iconst 0, 1), (14, .ireturn, 1)] := Tab.of (by decide +kernel)
set_option maxRecDepth 100000 in
theorem T_X12_bits : Tab cX12_bits [(0, .iconst 0, 1), (1, .istore_n 1, 1), (2, .iconst 0, 1), (3, .istore_n 2, 1), (4, .iload_n 2, 1), (5, .bipush 14, 2), (7, .if_icmp .ge 17, 3), (10, .iload_n 1, 1), (11, .iload_n 0, 1), (12, .iload_n 2, 1), (13, .ishr, 1), (14, .iconst 1, 1), (15, .iand, 1), (16, .iadd, 1), (17, .istore_n 1, 1), (18, .iinc 2 1, 3), (21, .goto (-17), 3), (24, .iload_n 1, 1), (25, .ireturn, 1)] := Tab.of (by decide +kernel)
set_option maxRecDepth 100000 in
theorem T_X12_copies : Tab cX12_copies [(0, .iconst 0, 1), (1, .istore_n 2, 1), (2, .iload_n 2, 1), (3, .bipush 17, 2), (5, .if_icmp .ge 15, 3), (8, .aload_n 1, 1), (9, .iload_n 2, 1), (10, .aload_n 0, 1), (11, .iload_n 2, 1), (12, .iaload, 1), (13, .iastore, 1), (14, .iinc 2 1, 3), (17, .goto (-15), 3), (20, .return_, 1)] := Tab.of (by decide +kernel)
set_option maxRecDepth 100000 in
theorem T_X12_isStreet : Tab cX12_isStreet [(0, .iload_n 1, 1), (1, .ifCond .lt 24, 3), (4, .iload_n 1, 1), (5, .bipush 14, 2), (7, .if_icmp .ge 18, 3), (10, .aload_n 0, 1), (11, .getfield 135, 3), (14, .iload_n 1, 1), (15, .invokestatic 139, 3), (18, .ifCond .eq 7, 3), (21, .iconst 1, 1), (22, .goto 4, 3), (25, .iconst 0, 1), (26, .ireturn, 1)] := Tab.of (by decide +kernel)
set_option maxRecDepth 100000 in
theorem T_X12_isCart : Tab cX12_isCart [(0, .iload_n 1, 1), (1, .ifCond .lt 23, 3), (4, .iload_n 1, 1), (5, .iconst 5, 1), (6, .if_icmp .ge 18, 3), (9, .aload_n 0, 1), (10, .getfield 143, 3), (13, .iload_n 1, 1), (14, .invokestatic 139, 3), (17, .ifCond .eq 7, 3), (20, .iconst 1, 1), (21, .goto 4, 3), (24, .iconst 0, 1), (25, .ireturn, 1)] := Tab.of (by decide +kernel)
set_option maxRecDepth 100000 in
theorem T_X12_laysWays : Tab cX12_laysWays [(0, .iconst 0, 1), (1, .istore_n 3, 1), (2, .iload_n 3, 1), (3, .bipush 14, 2), (5, .if_icmp .ge 150, 3), (8, .iconst 0, 1), (9, .istore 4, 2), (11, .iload 4, 2), (13, .bipush 14, 2), (15, .if_icmp .ge 134, 3), (18, .iload_n 3, 1), (19, .iload_n 1, 1), (20, .if_icmp .ne 9, 3), (23, .iload 4, 2), (25, .iload_n 2, 1), (26, .if_icmp .eq 14, 3), (29, .iload_n 3, 1), (30, .iload_n 2, 1), (31, .if_icmp .ne 13, 3), (34, .iload 4, 2), (36, .iload_n 1, 1), (37, .if_icmp .ne 7, 3), (40, .iconst 1, 1), (41, .goto 4, 3), (44, .iconst 0, 1), (45, .istore 5, 2), (47, .aload_n 0, 1), (48, .iload_n 3, 1), (49, .invokevirtual 146, 3), (52, .ifCond .eq 36, 3), (55, .aload_n 0, 1), (56, .iload 4, 2), (58, .invokevirtual 146, 3), (61, .ifCond .eq 27, 3), (64, .aload_n 0, 1), (65, .getfield 28, 3), (68, .bipush 14, 2), (70, .iload_n 3, 1), (71, .imul, 1), (72, .iload 4, 2), (74, .iadd, 1), (75, .iaload, 1), (76, .ifCond .le 12, 3), (79, .iload 5, 2), (81, .ifCond .ne 7, 3), (84, .iconst 1, 1), (85, .goto 4, 3), (88, .iconst 0, 1), (89, .istore 6, 2), (91, .aload_n 0, 1), (92, .getfield 31, 3), (95, .bipush 14, 2), (97, .iload_n 3, 1), (98, .imul, 1), (99, .iload 4, 2), (101, .iadd, 1), (102, .iload_n 3, 1), (103, .iload 4, 2), (105, .if_icmp .ne 15, 3), (108, .aload_n 0, 1), (109, .iload_n 3, 1), (110, .invokevirtual 146, 3), (113, .ifCond .eq 7, 3), (116, .iconst 0, 1), (117, .goto 25, 3), (120, .iload 6, 2), (122, .ifCond .eq 18, 3), (125, .aload_n 0, 1), (126, .getfield 28, 3), (129, .bipush 14, 2), (131, .iload_n 3, 1), (132, .imul, 1), (133, .iload 4, 2), (135, .iadd, 1), (136, .iaload, 1), (137, .goto 5, 3), (140, .ldc 150, 2), (142, .iastore, 1), (143, .iinc 4 1, 3), (146, .goto (-135), 3), (149, .iinc 3 1, 3), (152, .goto (-150), 3), (155, .iconst 0, 1), (156, .istore_n 3, 1), (157, .iload_n 3, 1), (158, .bipush 14, 2), (160, .if_icmp .ge 95, 3), (163, .iconst 0, 1), (164, .istore 4, 2), (166, .iload 4, 2), (168, .bipush 14, 2), (170, .if_icmp .ge 79, 3), (173, .iconst 0, 1), (174, .istore 5, 2), (176, .iload 5, 2), (178, .bipush 14, 2), (180, .if_icmp .ge 63, 3), (183, .aload_n 0, 1), (184, .getfield 31, 3), (187, .bipush 14, 2), (189, .iload 4, 2), (191, .imul, 1), (192, .iload 5, 2), (194, .iadd, 1), (195, .aload_n 0, 1), (196, .getfield 31, 3), (199, .bipush 14, 2), (201, .iload 4, 2), (203, .imul, 1), (204, .iload 5, 2), (206, .iadd, 1), (207, .iaload, 1), (208, .aload_n 0, 1), (209, .getfield 31, 3), (212, .bipush 14, 2), (214, .iload 4, 2), (216, .imul, 1), (217, .iload_n 3, 1), (218, .iadd, 1), (219, .iaload, 1), (220, .aload_n 0, 1), (221, .getfield 31, 3), (224, .bipush 14, 2), (226, .iload_n 3, 1), (227, .imul, 1), (228, .iload 5, 2), (230, .iadd, 1), (231, .iaload, 1), (232, .iadd, 1), (233, .invokestatic 151, 3), (236, .iastore, 1), (237, .iinc 5 1, 3), (240, .goto (-64), 3), (243, .iinc 4 1, 3), (246, .goto (-80), 3), (249, .iinc 3 1, 3), (252, .goto (-95), 3), (255, .return_, 1)] := Tab.of (by decide +kernel)
set_option maxRecDepth 100000 in
theorem T_X12_farOf : Tab cX12_farOf [(0, .aload_n 0, 1), (1, .getfield 31, 3), (4, .bipush 14, 2), (6, .iload_n 1, 1), (7, .imul, 1), (8, .iload_n 2, 1), (9, .iadd, 1), (10, .iaload, 1), (11, .ireturn, 1)] := Tab.of (by decide +kernel)
set_option maxRecDepth 100000 in
theorem T_X12_street : Tab cX12_street [(0, .iload_n 1, 1), (1, .iconst 0, 1), (2, .bipush 13, 2), (4, .invokestatic 155, 3), (7, .ifCond .eq 34, 3), (10, .iload_n 2, 1), (11, .iconst 0, 1), (12, .bipush 99, 2), (14, .invokestatic 155, 3), (17, .ifCond .eq 24, 3), (20, .iload_n 3, 1), (21, .iconst 0, 1), (22, .bipush 9, 2), (24, .invokestatic 155, 3), (27, .ifCond .eq 14, 3), (30, .iload 4, 2), (32, .iconst 0, 1), (33, .bipush 99, 2), (35, .invokestatic 155, 3), (38, .ifCond .ne 5, 3), (41, .iconst 0, 1), (42, .ireturn, 1), (43, .aload_n 0, 1), (44, .aload_n 0, 1), (45, .getfield 135, 3), (48, .iconst 1, 1), (49, .iload_n 1, 1), (50, .ishl, 1), (51, .ior, 1), (52, .putfield 135, 3), (55, .aload_n 0, 1), (56, .getfield 19, 3), (59, .iload_n 1, 1), (60, .iload_n 2, 1), (61, .iastore, 1), (62, .aload_n 0, 1), (63, .getfield 22, 3), (66, .iload_n 1, 1), (67, .iload_n 3, 1), (68, .iastore, 1), (69, .aload_n 0, 1), (70, .getfield 25, 3), (73, .iload_n 1, 1), (74, .iload 4, 2), (76, .iastore, 1), (77, .aload_n 0, 1), (78, .iconst (-1), 1), (79, .iconst (-1), 1), (80, .invokevirtual 131, 3), (83, .iconst 1, 1), (84, .ireturn, 1)] := Tab.of (by decide +kernel)
set_option maxRecDepth 100000 in
theorem T_X12_cart : Tab cX12_cart [(0, .iload_n 1, 1), (1, .iconst 0, 1), (2, .iconst 4, 1), (3, .invokestatic 155, 3), (6, .ifCond .eq 13, 3), (9, .iload_n 2, 1), (10, .iconst 1, 1), (11, .bipush 99, 2), (13, .invokestatic 155, 3), (16, .ifCond .ne 5, 3), (19, .iconst 0, 1), (20, .ireturn, 1), (21, .aload_n 0, 1), (22, .aload_n 0, 1), (23, .getfield 143, 3), (26, .iconst 1, 1), (27, .iload_n 1, 1), (28, .ishl, 1), (29, .ior, 1), (30, .putfield 143, 3), (33, .aload_n 0, 1), (34, .getfield 34, 3), (37, .iload_n 1, 1), (38, .iload_n 2, 1), (39, .iastore, 1), (40, .iconst 1, 1), (41, .ireturn, 1)] := Tab.of (by decide +kernel)
set_option maxRecDepth 100000 in
theorem T_X12_pour : Tab cX12_pour [(0, .aload_n 0, 1), (1, .iload_n 1, 1), (2, .invokevirtual 146, 3), (5, .ifCond .eq 14, 3), (8, .iload_n 2, 1), (9, .iconst 0, 1), (10, .sipush 999, 3), (13, .invokestatic 155, 3), (16, .ifCond .ne 5, 3), (19, .iconst (-1), 1), (20, .ireturn, 1), (21, .aload_n 0, 1), (22, .getfield 7, 3), (25, .iconst 0, 1), (26, .iload_n 1, 1), (27, .iadd, 1), (28, .sipush 999, 3), (31, .aload_n 0, 1), (32, .getfield 7, 3), (35, .iconst 0, 1), (36, .iload_n 1, 1), (37, .iadd, 1), (38, .iaload, 1), (39, .iload_n 2, 1), (40, .iadd, 1), (41, .invokestatic 151, 3), (44, .iastore, 1), (45, .aload_n 0, 1), (46, .getfield 7, 3), (49, .iconst 0, 1), (50, .iload_n 1, 1), (51, .iadd, 1), (52, .iaload, 1), (53, .ireturn, 1)] := Tab.of (by decide +kernel)
set_option maxRecDepth 100000 in
theorem T_X12_types : Tab cX12_types [(0, .iconst 3, 1), (1, .istore_n 2, 1), (2, .iload_n 2, 1), (3, .ifCond .lt 35, 3), (6, .aload_n 0, 1), (7, .getfield 46, 3), (10, .aload_n 0, 1), (11, .getfield 159, 3), (14, .iload_n 1, 1), (15, .bipush 8, 2), (17, .iload_n 2, 1), (18, .imul, 1), (19, .ishr, 1), (20, .i2b, 1), (21, .bastore, 1), (22, .aload_n 0, 1), (23, .aload_n 0, 1), (24, .getfield 159, 3), (27, .iconst 1, 1), (28, .iadd, 1), (29, .putfield 159, 3), (32, .iinc 2 (-1), 3), (35, .goto (-33), 3), (38, .return_, 1)] := Tab.of (by decide +kernel)
set_option maxRecDepth 100000 in
theorem T_X12_feed : Tab cX12_feed [(0, .aload_n 0, 1), (1, .getfield 159, 3), (4, .bipush 20, 2), (6, .iadd, 1), (7, .sipush 260, 3), (10, .if_icmp .le 5, 3), (13, .iconst (-1), 1), (14, .ireturn, 1), (15, .aload_n 0, 1), (16, .iload_n 1, 1), (17, .invokevirtual 162, 3), (20, .aload_n 0, 1), (21, .iload_n 2, 1), (22, .invokevirtual 162, 3), (25, .aload_n 0, 1), (26, .iload_n 3, 1), (27, .invokevirtual 162, 3), (30, .aload_n 0, 1), (31, .iload 4, 2), (33, .invokevirtual 162, 3), (36, .aload_n 0, 1), (37, .iload 5, 2), (39, .invokevirtual 162, 3), (42, .aload_n 0, 1), (43, .getfield 159, 3), (46, .ireturn, 1)] := Tab.of (by decide +kernel)
set_option maxRecDepth 100000 in
theorem T_X12_here : Tab cX12_here [(0, .aload_n 0, 1), (1, .getfield 166, 3), (4, .aload_n 0, 1), (5, .getfield 169, 3), (8, .if_icmp .ge 19, 3), (11, .aload_n 0, 1), (12, .getfield 46, 3), (15, .aload_n 0, 1), (16, .getfield 166, 3), (19, .baload, 1), (20, .sipush 255, 3), (23, .iand, 1), (24, .goto 4, 3), (27, .iconst (-1), 1), (28, .ireturn, 1)] := Tab.of (by decide +kernel)
set_option maxRecDepth 100000 in
theorem T_X12_isDigit : Tab cX12_isDigit [(0, .aload_n 0, 1), (1, .invokevirtual 172, 3), (4, .bipush 48, 2), (6, .if_icmp .lt 16, 3), (9, .aload_n 0, 1), (10, .invokevirtual 172, 3), (13, .bipush 57, 2), (15, .if_icmp .gt 7, 3), (18, .iconst 1, 1), (19, .goto 4, 3), (22, .iconst 0, 1), (23, .ireturn, 1)] := Tab.of (by decide +kernel)
set_option maxRecDepth 100000 in
theorem T_X12_wrongAt : Tab cX12_wrongAt [(0, .aload_n 0, 1), (1, .sipush (-1000), 3), (4, .iload_n 1, 1), (5, .imul, 1), (6, .iload_n 2, 1), (7, .isub, 1), (8, .putfield 176, 3), (11, .iconst 0, 1), (12, .ireturn, 1)] := Tab.of (by decide +kernel)
set_option maxRecDepth 100000 in
theorem T_X12_takes : Tab cX12_takes [(0, .aload_n 0, 1), (1, .invokevirtual 172, 3), (4, .iload_n 1, 1), (5, .if_icmp .eq 13, 3), (8, .aload_n 0, 1), (9, .iconst 1, 1), (10, .aload_n 0, 1), (11, .getfield 166, 3), (14, .invokevirtual 179, 3), (17, .ireturn, 1), (18, .aload_n 0, 1), (19, .aload_n 0, 1), (20, .getfield 166, 3), (23, .iconst 1, 1), (24, .iadd, 1), (25, .putfield 166, 3), (28, .iconst 1, 1), (29, .ireturn, 1)] := Tab.of (by decide +kernel)
set_option maxRecDepth 100000 in
theorem T_X12_readsNumber : Tab cX12_readsNumber [(0, .aload_n 0, 1), (1, .getfield 166, 3), (4, .istore_n 1, 1), (5, .aload_n 0, 1), (6, .iconst 0, 1), (7, .putfield 182, 3), (10, .aload_n 0, 1), (11, .invokevirtual 185, 3), (14, .ifCond .eq 55, 3), (17, .aload_n 0, 1), (18, .getfield 166, 3), (21, .iload_n 1, 1), (22, .iconst 5, 1), (23, .iadd, 1), (24, .if_icmp .ne 13, 3), (27, .aload_n 0, 1), (28, .iconst 2, 1), (29, .aload_n 0, 1), (30, .getfield 166, 3), (33, .invokevirtual 179, 3), (36, .ireturn, 1), (37, .aload_n 0, 1), (38, .bipush 10, 2), (40, .aload_n 0, 1), (41, .getfield 182, 3), (44, .imul, 1), (45, .aload_n 0, 1), (46, .invokevirtual 172, 3), (49, .iadd, 1), (50, .bipush 48, 2), (52, .isub, 1), (53, .putfield 182, 3), (56, .aload_n 0, 1), (57, .aload_n 0, 1), (58, .getfield 166, 3), (61, .iconst 1, 1), (62, .iadd, 1), (63, .putfield 166, 3), (66, .goto (-56), 3), (69, .iconst 1, 1), (70, .ireturn, 1)] := Tab.of (by decide +kernel)
set_option maxRecDepth 100000 in
theorem T_X12_notes : Tab cX12_notes [(0, .aload_n 0, 1), (1, .getfield 50, 3), (4, .aload_n 0, 1), (5, .getfield 189, 3), (8, .ldc 192, 2), (10, .iload_n 1, 1), (11, .imul, 1), (12, .iload_n 2, 1), (13, .iadd, 1), (14, .iastore, 1), (15, .aload_n 0, 1), (16, .aload_n 0, 1), (17, .getfield 189, 3), (20, .iconst 1, 1), (21, .iadd, 1), (22, .putfield 189, 3), (25, .return_, 1)] := Tab.of (by decide +kernel)
set_option maxRecDepth 100000 in
theorem T_X12_opens : Tab cX12_opens [(0, .aload_n 0, 1), (1, .getfield 193, 3), (4, .bipush 6, 2), (6, .if_icmp .ne 13, 3), (9, .aload_n 0, 1), (10, .iconst 5, 1), (11, .aload_n 0, 1), (12, .getfield 166, 3), (15, .invokevirtual 179, 3), (18, .ireturn, 1), (19, .aload_n 0, 1), (20, .aload_n 0, 1), (21, .getfield 193, 3), (24, .iconst 1, 1), (25, .iadd, 1), (26, .putfield 193, 3), (29, .aload_n 0, 1), (30, .getfield 53, 3), (33, .aload_n 0, 1), (34, .getfield 196, 3), (37, .ldc 192, 2), (39, .iload_n 1, 1), (40, .imul, 1), (41, .iastore, 1), (42, .aload_n 0, 1), (43, .aload_n 0, 1), (44, .getfield 196, 3), (47, .iconst 1, 1), (48, .iadd, 1), (49, .putfield 196, 3), (52, .aload_n 0, 1), (53, .aload_n 0, 1), (54, .getfield 166, 3), (57, .iconst 1, 1), (58, .iadd, 1), (59, .putfield 166, 3), (62, .iconst 1, 1), (63, .ireturn, 1)] := Tab.of (by decide +kernel)
set_option maxRecDepth 100000 in
theorem T_X12_waitTop : Tab cX12_waitTop [(0, .aload_n 0, 1), (1, .getfield 196, 3), (4, .ifCond .ne 7, 3), (7, .iconst (-1), 1), (8, .goto 17, 3), (11, .aload_n 0, 1), (12, .getfield 53, 3), (15, .aload_n 0, 1), (16, .getfield 196, 3), (19, .iconst 1, 1), (20, .isub, 1), (21, .iaload, 1), (22, .ldc 192, 2), (24, .idiv, 1), (25, .ireturn, 1)] := Tab.of (by decide +kernel)
set_option maxRecDepth 100000 in
theorem T_X12_factOf : Tab cX12_factOf [(0, .iload_n 0, 1), (1, .tableswitch 93 100 114 #[81, 93, 93, 83, 77, 75, 93, 90, 79, 93, 87, 93, 93, 93, 85], 75), (76, .iconst 0, 1), (77, .ireturn, 1), (78, .iconst 1, 1), (79, .ireturn, 1), (80, .iconst 2, 1), (81, .ireturn, 1), (82, .iconst 3, 1), (83, .ireturn, 1), (84, .iconst 4, 1), (85, .ireturn, 1), (86, .iconst 5, 1), (87, .ireturn, 1), (88, .bipush 6, 2), (90, .ireturn, 1), (91, .bipush 7, 2), (93, .ireturn, 1), (94, .iconst (-1), 1), (95, .ireturn, 1)] := Tab.of (by decide +kernel)
set_option maxRecDepth 100000 in
theorem T_X12_sumSign : Tab cX12_sumSign [(0, .iload_n 0, 1), (1, .bipush 43, 2), (3, .if_icmp .ne 7, 3), (6, .iconst 2, 1), (7, .goto 45, 3), (10, .iload_n 0, 1), (11, .bipush 45, 2), (13, .if_icmp .ne 7, 3), (16, .iconst 3, 1), (17, .goto 35, 3), (20, .iload_n 0, 1), (21, .bipush 42, 2), (23, .if_icmp .ne 7, 3), (26, .iconst 4, 1), (27, .goto 25, 3), (30, .iload_n 0, 1), (31, .bipush 47, 2), (33, .if_icmp .ne 7, 3), (36, .iconst 5, 1), (37, .goto 15, 3), (40, .iload_n 0, 1), (41, .bipush 37, 2), (43, .if_icmp .ne 8, 3), (46, .bipush 6, 2), (48, .goto 4, 3), (51, .iconst (-1), 1), (52, .ireturn, 1)] := Tab.of (by decide +kernel)
set_option maxRecDepth 100000 in
theorem T_X12_closesSums : Tab cX12_closesSums [(0, .aload_n 0, 1), (1, .invokevirtual 199, 3), (4, .iconst 4, 1), (5, .if_icmp .lt 12, 3), (8, .aload_n 0, 1), (9, .invokevirtual 199, 3), (12, .bipush 6, 2), (14, .if_icmp .le 23, 3), (17, .iload_n 1, 1), (18, .ifCond .eq 41, 3), (21, .aload_n 0, 1), (22, .invokevirtual 199, 3), (25, .iconst 2, 1), (26, .if_icmp .eq 11, 3), (29, .aload_n 0, 1), (30, .invokevirtual 199, 3), (33, .iconst 3, 1), (34, .if_icmp .ne 25, 3), (37, .aload_n 0, 1), (38, .aload_n 0, 1), (39, .invokevirtual 199, 3), (42, .iconst 0, 1), (43, .invokevirtual 202, 3), (46, .aload_n 0, 1), (47, .aload_n 0, 1), (48, .getfield 196, 3), (51, .iconst 1, 1), (52, .isub, 1), (53, .putfield 196, 3), (56, .goto (-56), 3), (59, .return_, 1)] := Tab.of (by decide +kernel)
set_option maxRecDepth 100000 in
theorem T_X12_readsFactor : Tab cX12_readsFactor [(0, .aload_n 0, 1), (1, .invokevirtual 172, 3), (4, .bipush 91, 2), (6, .if_icmp .ne 14, 3), (9, .aload_n 0, 1), (10, .bipush 14, 2), (12, .invokevirtual 205, 3), (15, .ifCond .ne (-15), 3), (18, .iconst 0, 1), (19, .ireturn, 1), (20, .aload_n 0, 1), (21, .invokevirtual 185, 3), (24, .ifCond .eq 23, 3), (27, .aload_n 0, 1), (28, .invokevirtual 208, 3), (31, .ifCond .ne 5, 3), (34, .iconst 0, 1), (35, .ireturn, 1), (36, .aload_n 0, 1), (37, .iconst 0, 1), (38, .aload_n 0, 1), (39, .getfield 182, 3), (42, .invokevirtual 202, 3), (45, .iconst 1, 1), (46, .ireturn, 1), (47, .aload_n 0, 1), (48, .invokevirtual 172, 3), (51, .invokestatic 211, 3), (54, .istore_n 1, 1), (55, .iload_n 1, 1), (56, .iconst (-1), 1), (57, .if_icmp .ne 13, 3), (60, .aload_n 0, 1), (61, .iconst 1, 1), (62, .aload_n 0, 1), (63, .getfield 166, 3), (66, .invokevirtual 179, 3), (69, .ireturn, 1), (70, .aload_n 0, 1), (71, .iconst 1, 1), (72, .iload_n 1, 1), (73, .invokevirtual 202, 3), (76, .aload_n 0, 1), (77, .aload_n 0, 1), (78, .getfield 166, 3), (81, .iconst 1, 1), (82, .iadd, 1), (83, .putfield 166, 3), (86, .iconst 1, 1), (87, .ireturn, 1)] := Tab.of (by decide +kernel)
set_option maxRecDepth 100000 in
theorem T_X12_hasOpenSum : Tab cX12_hasOpenSum [(0, .iload_n 1, 1), (1, .istore_n 2, 1), (2, .iload_n 2, 1), (3, .aload_n 0, 1), (4, .getfield 196, 3), (7, .if_icmp .ge 25, 3), (10, .aload_n 0, 1), (11, .getfield 53, 3), (14, .iload_n 2, 1), (15, .iaload, 1), (16, .ldc 192, 2), (18, .idiv, 1), (19, .bipush 14, 2), (21, .if_icmp .ne 5, 3), (24, .iconst 1, 1), (25, .ireturn, 1), (26, .iinc 2 1, 3), (29, .goto (-27), 3), (32, .iconst 0, 1), (33, .ireturn, 1)] := Tab.of (by decide +kernel)
set_option maxRecDepth 100000 in
theorem T_X12_readsSum : Tab cX12_readsSum [(0, .aload_n 0, 1), (1, .getfield 196, 3), (4, .istore_n 1, 1), (5, .aload_n 0, 1), (6, .invokevirtual 215, 3), (9, .ifCond .ne 5, 3), (12, .iconst 0, 1), (13, .ireturn, 1), (14, .aload_n 0, 1), (15, .invokevirtual 172, 3), (18, .invokestatic 218, 3), (21, .istore_n 2, 1), (22, .iload_n 2, 1), (23, .iconst (-1), 1), (24, .if_icmp .eq 59, 3), (27, .aload_n 0, 1), (28, .iload_n 2, 1), (29, .iconst 4, 1), (30, .if_icmp .ge 7, 3), (33, .iconst 1, 1), (34, .goto 4, 3), (37, .iconst 0, 1), (38, .invokevirtual 221, 3), (41, .aload_n 0, 1), (42, .getfield 53, 3), (45, .aload_n 0, 1), (46, .getfield 196, 3), (49, .ldc 192, 2), (51, .iload_n 2, 1), (52, .imul, 1), (53, .iastore, 1), (54, .aload_n 0, 1), (55, .aload_n 0, 1), (56, .getfield 196, 3), (59, .iconst 1, 1), (60, .iadd, 1), (61, .putfield 196, 3), (64, .aload_n 0, 1), (65, .aload_n 0, 1), (66, .getfield 166, 3), (69, .iconst 1, 1), (70, .iadd, 1), (71, .putfield 166, 3), (74, .aload_n 0, 1), (75, .invokevirtual 215, 3), (78, .ifCond .ne 85, 3), (81, .iconst 0, 1), (82, .ireturn, 1), (83, .aload_n 0, 1), (84, .invokevirtual 172, 3), (87, .bipush 93, 2), (89, .if_icmp .ne 49, 3), (92, .aload_n 0, 1), (93, .iload_n 1, 1), (94, .invokevirtual 225, 3), (97, .ifCond .eq 41, 3), (100, .aload_n 0, 1), (101, .iconst 1, 1), (102, .invokevirtual 221, 3), (105, .aload_n 0, 1), (106, .aload_n 0, 1), (107, .getfield 196, 3), (110, .iconst 1, 1), (111, .isub, 1), (112, .putfield 196, 3), (115, .aload_n 0, 1), (116, .aload_n 0, 1), (117, .getfield 193, 3), (120, .iconst 1, 1), (121, .isub, 1), (122, .putfield 193, 3), (125, .aload_n 0, 1), (126, .aload_n 0, 1), (127, .getfield 166, 3), (130, .iconst 1, 1), (131, .iadd, 1), (132, .putfield 166, 3), (135, .goto 28, 3), (138, .aload_n 0, 1), (139, .iload_n 1, 1), (140, .invokevirtual 225, 3), (143, .ifCond .eq 13, 3), (146, .aload_n 0, 1), (147, .iconst 1, 1), (148, .aload_n 0, 1), (149, .getfield 166, 3), (152, .invokevirtual 179, 3), (155, .ireturn, 1), (156, .aload_n 0, 1), (157, .iconst 1, 1), (158, .invokevirtual 221, 3), (161, .iconst 1, 1), (162, .ireturn, 1), (163, .goto (-149), 3)] := Tab.of (by decide +kernel)
set_option maxRecDepth 100000 in
theorem T_X12_endsPiece : Tab cX12_endsPiece [(0, .aload_n 0, 1), (1, .invokevirtual 199, 3), (4, .bipush 10, 2), (6, .if_icmp .ne 33, 3), (9, .aload_n 0, 1), (10, .bipush 10, 2), (12, .iconst 0, 1), (13, .invokevirtual 202, 3), (16, .aload_n 0, 1), (17, .aload_n 0, 1), (18, .getfield 196, 3), (21, .iconst 1, 1), (22, .isub, 1), (23, .putfield 196, 3), (26, .aload_n 0, 1), (27, .aload_n 0, 1), (28, .getfield 193, 3), (31, .iconst 1, 1), (32, .isub, 1), (33, .putfield 193, 3), (36, .goto (-36), 3), (39, .return_, 1)] := Tab.of (by decide +kernel)
set_option maxRecDepth 100000 in
theorem T_X12_lands : Tab cX12_lands [(0, .aload_n 0, 1), (1, .invokevirtual 199, 3), (4, .bipush 11, 2), (6, .if_icmp .eq 16, 3), (9, .iload_n 1, 1), (10, .ifCond .eq 63, 3), (13, .aload_n 0, 1), (14, .invokevirtual 199, 3), (17, .bipush 12, 2), (19, .if_icmp .ne 54, 3), (22, .aload_n 0, 1), (23, .getfield 53, 3), (26, .aload_n 0, 1), (27, .getfield 196, 3), (30, .iconst 1, 1), (31, .isub, 1), (32, .iaload, 1), (33, .ldc 192, 2), (35, .irem, 1), (36, .istore_n 2, 1), (37, .aload_n 0, 1), (38, .getfield 50, 3), (41, .iload_n 2, 1), (42, .ldc 192, 2), (44, .aload_n 0, 1), (45, .getfield 50, 3), (48, .iload_n 2, 1), (49, .iaload, 1), (50, .ldc 192, 2), (52, .idiv, 1), (53, .imul, 1), (54, .aload_n 0, 1), (55, .getfield 189, 3), (58, .iadd, 1), (59, .iastore, 1), (60, .aload_n 0, 1), (61, .aload_n 0, 1), (62, .getfield 196, 3), (65, .iconst 1, 1), (66, .isub, 1), (67, .putfield 196, 3), (70, .goto (-70), 3), (73, .return_, 1)] := Tab.of (by decide +kernel)
set_option maxRecDepth 100000 in
theorem T_X12_jumps : Tab cX12_jumps [(0, .aload_n 0, 1), (1, .getfield 53, 3), (4, .aload_n 0, 1), (5, .getfield 196, 3), (8, .ldc 192, 2), (10, .iload_n 1, 1), (11, .imul, 1), (12, .aload_n 0, 1), (13, .getfield 189, 3), (16, .iadd, 1), (17, .iastore, 1), (18, .aload_n 0, 1), (19, .aload_n 0, 1), (20, .getfield 196, 3), (23, .iconst 1, 1), (24, .iadd, 1), (25, .putfield 196, 3), (28, .aload_n 0, 1), (29, .iload_n 1, 1), (30, .iconst 0, 1), (31, .invokevirtual 202, 3), (34, .aload_n 0, 1), (35, .aload_n 0, 1), (36, .getfield 166, 3), (39, .iconst 1, 1), (40, .iadd, 1), (41, .putfield 166, 3), (44, .return_, 1)] := Tab.of (by decide +kernel)
set_option maxRecDepth 100000 in
theorem T_X12_readsCompared : Tab cX12_readsCompared [(0, .aload_n 0, 1), (1, .invokevirtual 228, 3), (4, .ifCond .ne 5, 3), (7, .iconst 0, 1), (8, .ireturn, 1), (9, .aload_n 0, 1), (10, .invokevirtual 172, 3), (13, .bipush 60, 2), (15, .if_icmp .ne 8, 3), (18, .bipush 7, 2), (20, .goto 32, 3), (23, .aload_n 0, 1), (24, .invokevirtual 172, 3), (27, .bipush 62, 2), (29, .if_icmp .ne 8, 3), (32, .bipush 8, 2), (34, .goto 18, 3), (37, .aload_n 0, 1), (38, .invokevirtual 172, 3), (41, .bipush 61, 2), (43, .if_icmp .ne 8, 3), (46, .bipush 9, 2), (48, .goto 4, 3), (51, .iconst (-1), 1), (52, .istore_n 1, 1), (53, .iload_n 1, 1), (54, .iconst (-1), 1), (55, .if_icmp .ne 13, 3), (58, .aload_n 0, 1), (59, .iconst 1, 1), (60, .aload_n 0, 1), (61, .getfield 166, 3), (64, .invokevirtual 179, 3), (67, .ireturn, 1), (68, .aload_n 0, 1), (69, .aload_n 0, 1), (70, .getfield 166, 3), (73, .iconst 1, 1), (74, .iadd, 1), (75, .putfield 166, 3), (78, .aload_n 0, 1), (79, .invokevirtual 228, 3), (82, .ifCond .ne 5, 3), (85, .iconst 0, 1), (86, .ireturn, 1), (87, .aload_n 0, 1), (88, .iload_n 1, 1), (89, .iconst 0, 1), (90, .invokevirtual 202, 3), (93, .aload_n 0, 1), (94, .invokevirtual 231, 3), (97, .iconst 1, 1), (98, .ireturn, 1)] := Tab.of (by decide +kernel)
set_option maxRecDepth 100000 in
theorem T_X12_readsCondition : Tab cX12_readsCondition [(0, .aload_n 0, 1), (1, .invokevirtual 172, 3), (4, .bipush 40, 2), (6, .if_icmp .eq 13, 3), (9, .aload_n 0, 1), (10, .iconst 1, 1), (11, .aload_n 0, 1), (12, .getfield 166, 3), (15, .invokevirtual 179, 3), (18, .ireturn, 1), (19, .aload_n 0, 1), (20, .iconst 0, 1), (21, .putfield 193, 3), (24, .aload_n 0, 1), (25, .iconst 0, 1), (26, .putfield 196, 3), (29, .aload_n 0, 1), (30, .bipush 13, 2), (32, .invokevirtual 205, 3), (35, .ifCond .ne 5, 3), (38, .iconst 0, 1), (39, .ireturn, 1), (40, .aload_n 0, 1), (41, .invokevirtual 172, 3), (44, .bipush 33, 2), (46, .if_icmp .eq 12, 3), (49, .aload_n 0, 1), (50, .invokevirtual 172, 3), (53, .bipush 40, 2), (55, .if_icmp .ne 28, 3), (58, .aload_n 0, 1), (59, .aload_n 0, 1), (60, .invokevirtual 172, 3), (63, .bipush 33, 2), (65, .if_icmp .ne 8, 3), (68, .bipush 10, 2), (70, .goto 5, 3), (73, .bipush 13, 2), (75, .invokevirtual 205, 3), (78, .ifCond .ne (-38), 3), (81, .iconst 0, 1), (82, .ireturn, 1), (83, .aload_n 0, 1), (84, .invokevirtual 234, 3), (87, .ifCond .ne 5, 3), (90, .iconst 0, 1), (91, .ireturn, 1), (92, .aload_n 0, 1), (93, .invokevirtual 172, 3), (96, .bipush 41, 2), (98, .if_icmp .ne 54, 3), (101, .aload_n 0, 1), (102, .iconst 1, 1), (103, .invokevirtual 237, 3), (106, .aload_n 0, 1), (107, .aload_n 0, 1), (108, .getfield 196, 3), (111, .iconst 1, 1), (112, .isub, 1), (113, .putfield 196, 3), (116, .aload_n 0, 1), (117, .aload_n 0, 1), (118, .getfield 193, 3), (121, .iconst 1, 1), (122, .isub, 1), (123, .putfield 193, 3), (126, .aload_n 0, 1), (127, .aload_n 0, 1), (128, .getfield 166, 3), (131, .iconst 1, 1), (132, .iadd, 1), (133, .putfield 166, 3), (136, .aload_n 0, 1), (137, .getfield 196, 3), (140, .ifCond .ne 5, 3), (143, .iconst 1, 1), (144, .ireturn, 1), (145, .aload_n 0, 1), (146, .invokevirtual 231, 3), (149, .goto (-57), 3), (152, .aload_n 0, 1), (153, .invokevirtual 172, 3), (156, .bipush 38, 2), (158, .if_icmp .eq 22, 3), (161, .aload_n 0, 1), (162, .invokevirtual 172, 3), (165, .bipush 124, 2), (167, .if_icmp .eq 13, 3), (170, .aload_n 0, 1), (171, .iconst 1, 1), (172, .aload_n 0, 1), (173, .getfield 166, 3), (176, .invokevirtual 179, 3), (179, .ireturn, 1), (180, .aload_n 0, 1), (181, .aload_n 0, 1), (182, .invokevirtual 172, 3), (185, .bipush 124, 2), (187, .if_icmp .ne 7, 3), (190, .iconst 1, 1), (191, .goto 4, 3), (194, .iconst 0, 1), (195, .invokevirtual 237, 3), (198, .aload_n 0, 1), (199, .aload_n 0, 1), (200, .invokevirtual 172, 3), (203, .bipush 38, 2), (205, .if_icmp .ne 8, 3), (208, .bipush 11, 2), (210, .goto 5, 3), (213, .bipush 12, 2), (215, .invokevirtual 240, 3), (218, .goto (-178), 3)] := Tab.of (by decide +kernel)
set_option maxRecDepth 100000 in
theorem T_X12_isClause : Tab cX12_isClause [(0, .iload_n 0, 1), (1, .bipush 119, 2), (3, .if_icmp .eq 21, 3), (6, .iload_n 0, 1), (7, .bipush 99, 2), (9, .if_icmp .eq 15, 3), (12, .iload_n 0, 1), (13, .bipush 115, 2), (15, .if_icmp .eq 9, 3), (18, .iload_n 0, 1), (19, .bipush 117, 2), (21, .if_icmp .ne 7, 3), (24, .iconst 1, 1), (25, .goto 4, 3), (28, .iconst 0, 1), (29, .ireturn, 1)] := Tab.of (by decide +kernel)
set_option maxRecDepth 100000 in
theorem T_X12_readsClause : Tab cX12_readsClause [(0, .aload_n 0, 1), (1, .invokevirtual 172, 3), (4, .istore_n 1, 1), (5, .iload_n 1, 1), (6, .invokestatic 243, 3), (9, .ifCond .ne 13, 3), (12, .aload_n 0, 1), (13, .iconst 1, 1), (14, .aload_n 0, 1), (15, .getfield 166, 3), (18, .invokevirtual 179, 3), (21, .ireturn, 1), (22, .aload_n 0, 1), (23, .getfield 246, 3), (26, .bipush 16, 2), (28, .if_icmp .ne 13, 3), (31, .aload_n 0, 1), (32, .iconst 4, 1), (33, .aload_n 0, 1), (34, .getfield 166, 3), (37, .invokevirtual 179, 3), (40, .ireturn, 1), (41, .aload_n 0, 1), (42, .getfield 56, 3), (45, .aload_n 0, 1), (46, .getfield 246, 3), (49, .iload_n 1, 1), (50, .iastore, 1), (51, .aload_n 0, 1), (52, .aload_n 0, 1), (53, .getfield 166, 3), (56, .iconst 1, 1), (57, .iadd, 1), (58, .putfield 166, 3), (61, .aload_n 0, 1), (62, .getfield 59, 3), (65, .aload_n 0, 1), (66, .getfield 246, 3), (69, .aload_n 0, 1), (70, .getfield 189, 3), (73, .iastore, 1), (74, .aload_n 0, 1), (75, .iconst 0, 1), (76, .putfield 193, 3), (79, .aload_n 0, 1), (80, .iconst 0, 1), (81, .putfield 196, 3), (84, .aload_n 0, 1), (85, .invokevirtual 228, 3), (88, .ifCond .ne 5, 3), (91, .iconst 0, 1), (92, .ireturn, 1), (93, .aload_n 0, 1), (94, .getfield 62, 3), (97, .aload_n 0, 1), (98, .getfield 246, 3), (101, .aload_n 0, 1), (102, .getfield 189, 3), (105, .iastore, 1), (106, .aload_n 0, 1), (107, .invokevirtual 249, 3), (110, .ifCond .ne 5, 3), (113, .iconst 0, 1), (114, .ireturn, 1), (115, .aload_n 0, 1), (116, .getfield 65, 3), (119, .aload_n 0, 1), (120, .getfield 246, 3), (123, .aload_n 0, 1), (124, .getfield 189, 3), (127, .iastore, 1), (128, .aload_n 0, 1), (129, .aload_n 0, 1), (130, .getfield 246, 3), (133, .iconst 1, 1), (134, .iadd, 1), (135, .putfield 246, 3), (138, .iconst 1, 1), (139, .ireturn, 1)] := Tab.of (by decide +kernel)
set_option maxRecDepth 100000 in
theorem T_X12_law : Tab cX12_law [(0, .iload_n 1, 1), (1, .iconst 1, 1), (2, .sipush 240, 3), (5, .invokestatic 155, 3), (8, .ifCond .eq 11, 3), (11, .iload_n 1, 1), (12, .aload_n 0, 1), (13, .getfield 159, 3), (16, .if_icmp .le 5, 3), (19, .iconst (-1), 1), (20, .ireturn, 1), (21, .aload_n 0, 1), (22, .iconst 0, 1), (23, .putfield 166, 3), (26, .aload_n 0, 1), (27, .iload_n 1, 1), (28, .putfield 169, 3), (31, .aload_n 0, 1), (32, .iconst 0, 1), (33, .putfield 189, 3), (36, .aload_n 0, 1), (37, .iconst 0, 1), (38, .putfield 246, 3), (41, .aload_n 0, 1), (42, .invokevirtual 252, 3), (45, .istore_n 2, 1), (46, .iload_n 2, 1), (47, .ifCond .eq 39, 3), (50, .aload_n 0, 1), (51, .getfield 166, 3), (54, .aload_n 0, 1), (55, .getfield 169, 3), (58, .if_icmp .ge 28, 3), (61, .aload_n 0, 1), (62, .bipush 59, 2), (64, .invokevirtual 255, 3), (67, .ifCond .eq 14, 3), (70, .aload_n 0, 1), (71, .invokevirtual 252, 3), (74, .ifCond .eq 7, 3), (77, .iconst 1, 1), (78, .goto 4, 3), (81, .iconst 0, 1), (82, .istore_n 2, 1), (83, .goto (-37), 3), (86, .aload_n 0, 1), (87, .iconst 0, 1), (88, .putfield 159, 3), (91, .iload_n 2, 1), (92, .ifCond .ne 8, 3), (95, .aload_n 0, 1), (96, .getfield 176, 3), (99, .ireturn, 1), (100, .aload_n 0, 1), (101, .aload_n 0, 1), (102, .getfield 246, 3), (105, .putfield 258, 3), (108, .iconst 0, 1), (109, .istore_n 3, 1), (110, .iload_n 3, 1), (111, .aload_n 0, 1), (112, .getfield 189, 3), (115, .if_icmp .ge 21, 3), (118, .aload_n 0, 1), (119, .getfield 68, 3), (122, .iload_n 3, 1), (123, .aload_n 0, 1), (124, .getfield 50, 3), (127, .iload_n 3, 1), (128, .iaload, 1), (129, .iastore, 1), (130, .iinc 3 1, 3), (133, .goto (-23), 3), (136, .iconst 0, 1), (137, .istore_n 3, 1), (138, .iload_n 3, 1), (139, .aload_n 0, 1), (140, .getfield 246, 3), (143, .if_icmp .ge 57, 3), (146, .aload_n 0, 1), (147, .getfield 71, 3), (150, .iload_n 3, 1), (151, .aload_n 0, 1), (152, .getfield 56, 3), (155, .iload_n 3, 1), (156, .iaload, 1), (157, .iastore, 1), (158, .aload_n 0, 1), (159, .getfield 74, 3), (162, .iload_n 3, 1), (163, .aload_n 0, 1), (164, .getfield 59, 3), (167, .iload_n 3, 1), (168, .iaload, 1), (169, .iastore, 1), (170, .aload_n 0, 1), (171, .getfield 77, 3), (174, .iload_n 3, 1), (175, .aload_n 0, 1), (176, .getfield 62, 3), (179, .iload_n 3, 1), (180, .iaload, 1), (181, .iastore, 1), (182, .aload_n 0, 1), (183, .getfield 80, 3), (186, .iload_n 3, 1), (187, .aload_n 0, 1), (188, .getfield 65, 3), (191, .iload_n 3, 1), (192, .iaload, 1), (193, .iastore, 1), (194, .iinc 3 1, 3), (197, .goto (-59), 3), (200, .aload_n 0, 1), (201, .getfield 246, 3), (204, .ireturn, 1)] := Tab.of (by decide +kernel)
set_option maxRecDepth 100000 in
theorem T_X12_reckon : Tab cX12_reckon [(0, .iload_n 0, 1), (1, .tableswitch 85 2 8 #[43, 47, 51, 55, 59, 63, 74], 43), (44, .iload_n 1, 1), (45, .iload_n 2, 1), (46, .iadd, 1), (47, .ireturn, 1), (48, .iload_n 1, 1), (49, .iload_n 2, 1), (50, .isub, 1), (51, .ireturn, 1), (52, .iload_n 1, 1), (53, .iload_n 2, 1), (54, .imul, 1), (55, .ireturn, 1), (56, .iload_n 1, 1), (57, .iload_n 2, 1), (58, .idiv, 1), (59, .ireturn, 1), (60, .iload_n 1, 1), (61, .iload_n 2, 1), (62, .irem, 1), (63, .ireturn, 1), (64, .iload_n 1, 1), (65, .iload_n 2, 1), (66, .if_icmp .ge 7, 3), (69, .iconst 1, 1), (70, .goto 4, 3), (73, .iconst 0, 1), (74, .ireturn, 1), (75, .iload_n 1, 1), (76, .iload_n 2, 1), (77, .if_icmp .le 7, 3), (80, .iconst 1, 1), (81, .goto 4, 3), (84, .iconst 0, 1), (85, .ireturn, 1), (86, .iload_n 1, 1), (87, .iload_n 2, 1), (88, .if_icmp .ne 7, 3), (91, .iconst 1, 1), (92, .goto 4, 3), (95, .iconst 0, 1), (96, .ireturn, 1)] := Tab.of (by decide +kernel)
set_option maxRecDepth 100000 in
theorem T_X12_comesTo : Tab cX12_comesTo [(0, .iconst 0, 1), (1, .istore_n 3, 1), (2, .sipush 260, 3), (5, .iload_n 1, 1), (6, .sipush 260, 3), (9, .idiv, 1), (10, .imul, 1), (11, .istore 4, 2), (13, .iload_n 1, 1), (14, .istore 5, 2), (16, .iload 5, 2), (18, .iload_n 2, 1), (19, .if_icmp .ge 214, 3), (22, .aload_n 0, 1), (23, .getfield 68, 3), (26, .iload 5, 2), (28, .iaload, 1), (29, .ldc 192, 2), (31, .idiv, 1), (32, .istore 6, 2), (34, .aload_n 0, 1), (35, .getfield 68, 3), (38, .iload 5, 2), (40, .iaload, 1), (41, .ldc 192, 2), (43, .irem, 1), (44, .istore 7, 2), (46, .iload 5, 2), (48, .iconst 1, 1), (49, .iadd, 1), (50, .istore 5, 2), (52, .iload 6, 2), (54, .ifCond .eq 9, 3), (57, .iload 6, 2), (59, .iconst 1, 1), (60, .if_icmp .ne 33, 3), (63, .aload_n 0, 1), (64, .getfield 83, 3), (67, .iload_n 3, 1), (68, .iload 6, 2), (70, .ifCond .ne 8, 3), (73, .iload 7, 2), (75, .goto 10, 3), (78, .aload_n 0, 1), (79, .getfield 86, 3), (82, .iload 7, 2), (84, .iaload, 1), (85, .iastore, 1), (86, .iload_n 3, 1), (87, .iconst 1, 1), (88, .iadd, 1), (89, .istore_n 3, 1), (90, .goto 140, 3), (93, .iload 6, 2), (95, .bipush 10, 2), (97, .if_icmp .ne 24, 3), (100, .aload_n 0, 1), (101, .getfield 83, 3), (104, .iload_n 3, 1), (105, .iconst 1, 1), (106, .isub, 1), (107, .iconst 1, 1), (108, .aload_n 0, 1), (109, .getfield 83, 3), (112, .iload_n 3, 1), (113, .iconst 1, 1), (114, .isub, 1), (115, .iaload, 1), (116, .isub, 1), (117, .iastore, 1), (118, .goto 112, 3), (121, .iload 6, 2), (123, .bipush 11, 2), (125, .if_icmp .eq 10, 3), (128, .iload 6, 2), (130, .bipush 12, 2), (132, .if_icmp .ne 43, 3), (135, .aload_n 0, 1), (136, .getfield 83, 3), (139, .iload_n 3, 1), (140, .iconst 1, 1), (141, .isub, 1), (142, .iaload, 1), (143, .iload 6, 2), (145, .bipush 12, 2), (147, .if_icmp .ne 7, 3), (150, .iconst 1, 1), (151, .goto 4, 3), (154, .iconst 0, 1), (155, .if_icmp .ne 13, 3), (158, .iload 4, 2), (160, .iload 7, 2), (162, .iadd, 1), (163, .istore 5, 2), (165, .goto 65, 3), (168, .iload_n 3, 1), (169, .iconst 1, 1), (170, .isub, 1), (171, .istore_n 3, 1), (172, .goto 58, 3), (175, .iload_n 3, 1), (176, .iconst 1, 1), (177, .isub, 1), (178, .istore_n 3, 1), (179, .iload 6, 2), (181, .iconst 5, 1), (182, .if_icmp .eq 10, 3), (185, .iload 6, 2), (187, .bipush 6, 2), (189, .if_icmp .ne 14, 3), (192, .aload_n 0, 1), (193, .getfield 83, 3), (196, .iload_n 3, 1), (197, .iaload, 1), (198, .ifCond .ne 5, 3), (201, .iconst 0, 1), (202, .ireturn, 1), (203, .aload_n 0, 1), (204, .getfield 83, 3), (207, .iload_n 3, 1), (208, .iconst 1, 1), (209, .isub, 1), (210, .iload 6, 2), (212, .aload_n 0, 1), (213, .getfield 83, 3), (216, .iload_n 3, 1), (217, .iconst 1, 1), (218, .isub, 1), (219, .iaload, 1), (220, .aload_n 0, 1), (221, .getfield 83, 3), (224, .iload_n 3, 1), (225, .iaload, 1), (226, .invokestatic 261, 3), (229, .iastore, 1), (230, .goto (-214), 3), (233, .aload_n 0, 1), (234, .getfield 83, 3), (237, .iconst 0, 1), (238, .iaload, 1), (239, .ireturn, 1)] := Tab.of (by decide +kernel)
set_option maxRecDepth 100000 in
theorem T_X12_byLaw : Tab cX12_byLaw [(0, .iconst 0, 1), (1, .istore_n 3, 1), (2, .iload_n 3, 1), (3, .aload_n 0, 1), (4, .getfield 258, 3), (7, .if_icmp .ge 82, 3), (10, .aload_n 0, 1), (11, .getfield 71, 3), (14, .iload_n 3, 1), (15, .iaload, 1), (16, .iload_n 1, 1), (17, .if_icmp .ne 66, 3), (20, .aload_n 0, 1), (21, .aload_n 0, 1), (22, .getfield 77, 3), (25, .iload_n 3, 1), (26, .iaload, 1), (27, .aload_n 0, 1), (28, .getfield 80, 3), (31, .iload_n 3, 1), (32, .iaload, 1), (33, .invokevirtual 265, 3), (36, .iconst 1, 1), (37, .if_icmp .eq 6, 3), (40, .goto 43, 3), (43, .aload_n 0, 1), (44, .aload_n 0, 1), (45, .getfield 74, 3), (48, .iload_n 3, 1), (49, .iaload, 1), (50, .aload_n 0, 1), (51, .getfield 77, 3), (54, .iload_n 3, 1), (55, .iaload, 1), (56, .invokevirtual 265, 3), (59, .istore 4, 2), (61, .iload 4, 2), (63, .ifCond .ge 7, 3), (66, .iconst 0, 1), (67, .goto 15, 3), (70, .iload 4, 2), (72, .iload_n 2, 1), (73, .if_icmp .le 7, 3), (76, .iload_n 2, 1), (77, .goto 5, 3), (80, .iload 4, 2), (82, .ireturn, 1), (83, .iinc 3 1, 3), (86, .goto (-84), 3), (89, .iconst 0, 1), (90, .ireturn, 1)] := Tab.of (by decide +kernel)
set_option maxRecDepth 100000 in
theorem T_X12_feels : Tab cX12_feels [(0, .aload_n 0, 1), (1, .getfield 86, 3), (4, .iconst 0, 1), (5, .iload_n 1, 1), (6, .iastore, 1), (7, .aload_n 0, 1), (8, .getfield 86, 3), (11, .iconst 1, 1), (12, .aload_n 0, 1), (13, .getfield 19, 3), (16, .iload_n 1, 1), (17, .iaload, 1), (18, .iastore, 1), (19, .aload_n 0, 1), (20, .getfield 86, 3), (23, .iconst 2, 1), (24, .aload_n 0, 1), (25, .getfield 22, 3), (28, .iload_n 1, 1), (29, .iaload, 1), (30, .iastore, 1), (31, .aload_n 0, 1), (32, .getfield 86, 3), (35, .iconst 3, 1), (36, .aload_n 0, 1), (37, .getfield 7, 3), (40, .iconst 0, 1), (41, .iload_n 1, 1), (42, .iadd, 1), (43, .iaload, 1), (44, .iastore, 1), (45, .aload_n 0, 1), (46, .getfield 86, 3), (49, .iconst 4, 1), (50, .aload_n 0, 1), (51, .getfield 25, 3), (54, .iload_n 1, 1), (55, .iaload, 1), (56, .iastore, 1), (57, .aload_n 0, 1), (58, .getfield 86, 3), (61, .iconst 5, 1), (62, .iload_n 2, 1), (63, .iastore, 1), (64, .aload_n 0, 1), (65, .getfield 86, 3), (68, .bipush 6, 2), (70, .aload_n 0, 1), (71, .getfield 7, 3), (74, .bipush 14, 2), (76, .iaload, 1), (77, .iastore, 1), (78, .aload_n 0, 1), (79, .getfield 86, 3), (82, .bipush 7, 2), (84, .iload_n 3, 1), (85, .iastore, 1), (86, .return_, 1)] := Tab.of (by decide +kernel)
set_option maxRecDepth 100000 in
theorem T_X12_byStreet : Tab cX12_byStreet [(0, .aload_n 0, 1), (1, .iload_n 2, 1), (2, .iload_n 3, 1), (3, .iconst 0, 1), (4, .invokevirtual 268, 3), (7, .aload_n 0, 1), (8, .iload_n 1, 1), (9, .sipush 999, 3), (12, .invokevirtual 272, 3), (15, .ireturn, 1)] := Tab.of (by decide +kernel)
set_option maxRecDepth 100000 in
theorem T_X12_readsTwo : Tab cX12_readsTwo [(0, .aload_n 0, 1), (1, .getfield 166, 3), (4, .istore_n 1, 1), (5, .aload_n 0, 1), (6, .invokevirtual 185, 3), (9, .ifCond .ne 13, 3), (12, .aload_n 0, 1), (13, .iconst 1, 1), (14, .aload_n 0, 1), (15, .getfield 166, 3), (18, .invokevirtual 179, 3), (21, .ireturn, 1), (22, .aload_n 0, 1), (23, .iconst 0, 1), (24, .putfield 182, 3), (27, .aload_n 0, 1), (28, .invokevirtual 185, 3), (31, .ifCond .eq 45, 3), (34, .aload_n 0, 1), (35, .getfield 166, 3), (38, .iload_n 1, 1), (39, .iconst 2, 1), (40, .iadd, 1), (41, .if_icmp .ge 35, 3), (44, .aload_n 0, 1), (45, .bipush 10, 2), (47, .aload_n 0, 1), (48, .getfield 182, 3), (51, .imul, 1), (52, .aload_n 0, 1), (53, .invokevirtual 172, 3), (56, .iadd, 1), (57, .bipush 48, 2), (59, .isub, 1), (60, .putfield 182, 3), (63, .aload_n 0, 1), (64, .aload_n 0, 1), (65, .getfield 166, 3), (68, .iconst 1, 1), (69, .iadd, 1), (70, .putfield 166, 3), (73, .goto (-46), 3), (76, .iconst 1, 1), (77, .ireturn, 1)] := Tab.of (by decide +kernel)
set_option maxRecDepth 100000 in
theorem T_X12_isLetterHere : Tab cX12_isLetterHere [(0, .aload_n 0, 1), (1, .invokevirtual 172, 3), (4, .bipush 97, 2), (6, .bipush 110, 2), (8, .invokestatic 155, 3), (11, .ireturn, 1)] := Tab.of (by decide +kernel)
set_option maxRecDepth 100000 in
theorem T_X12_readsLine : Tab cX12_readsLine [(0, .aload_n 0, 1), (1, .invokevirtual 275, 3), (4, .ifCond .ne 13, 3), (7, .aload_n 0, 1), (8, .iconst 1, 1), (9, .aload_n 0, 1), (10, .getfield 166, 3), (13, .invokevirtual 179, 3), (16, .ireturn, 1), (17, .aload_n 0, 1), (18, .getfield 278, 3), (21, .bipush 40, 2), (23, .if_icmp .ne 13, 3), (26, .aload_n 0, 1), (27, .iconst 4, 1), (28, .aload_n 0, 1), (29, .getfield 166, 3), (32, .invokevirtual 179, 3), (35, .ireturn, 1), (36, .aload_n 0, 1), (37, .invokevirtual 172, 3), (40, .bipush 97, 2), (42, .isub, 1), (43, .istore_n 1, 1), (44, .aload_n 0, 1), (45, .iload_n 1, 1), (46, .invokevirtual 146, 3), (49, .ifCond .ne 14, 3), (52, .aload_n 0, 1), (53, .bipush 7, 2), (55, .aload_n 0, 1), (56, .getfield 166, 3), (59, .invokevirtual 179, 3), (62, .ireturn, 1), (63, .aload_n 0, 1), (64, .aload_n 0, 1), (65, .getfield 166, 3), (68, .iconst 1, 1), (69, .iadd, 1), (70, .putfield 166, 3), (73, .aload_n 0, 1), (74, .invokevirtual 275, 3), (77, .ifCond .ne 13, 3), (80, .aload_n 0, 1), (81, .iconst 1, 1), (82, .aload_n 0, 1), (83, .getfield 166, 3), (86, .invokevirtual 179, 3), (89, .ireturn, 1), (90, .aload_n 0, 1), (91, .invokevirtual 172, 3), (94, .bipush 97, 2), (96, .isub, 1), (97, .istore_n 2, 1), (98, .aload_n 0, 1), (99, .iload_n 2, 1), (100, .invokevirtual 146, 3), (103, .ifCond .ne 14, 3), (106, .aload_n 0, 1), (107, .bipush 7, 2), (109, .aload_n 0, 1), (110, .getfield 166, 3), (113, .invokevirtual 179, 3), (116, .ireturn, 1), (117, .iload_n 1, 1), (118, .iload_n 2, 1), (119, .if_icmp .ne 14, 3), (122, .aload_n 0, 1), (123, .bipush 6, 2), (125, .aload_n 0, 1), (126, .getfield 166, 3), (129, .invokevirtual 179, 3), (132, .ireturn, 1), (133, .aload_n 0, 1), (134, .aload_n 0, 1), (135, .getfield 166, 3), (138, .iconst 1, 1), (139, .iadd, 1), (140, .putfield 166, 3), (143, .aload_n 0, 1), (144, .getfield 166, 3), (147, .istore_n 3, 1), (148, .aload_n 0, 1), (149, .invokevirtual 281, 3), (152, .ifCond .ne 5, 3), (155, .iconst 0, 1), (156, .ireturn, 1), (157, .aload_n 0, 1), (158, .getfield 182, 3), (161, .ifCond .ne 10, 3), (164, .aload_n 0, 1), (165, .iconst 3, 1), (166, .iload_n 3, 1), (167, .invokevirtual 179, 3), (170, .ireturn, 1), (171, .aload_n 0, 1), (172, .getfield 89, 3), (175, .bipush 14, 2), (177, .iload_n 1, 1), (178, .imul, 1), (179, .iload_n 2, 1), (180, .iadd, 1), (181, .aload_n 0, 1), (182, .getfield 182, 3), (185, .iastore, 1), (186, .aload_n 0, 1), (187, .getfield 89, 3), (190, .bipush 14, 2), (192, .iload_n 2, 1), (193, .imul, 1), (194, .iload_n 1, 1), (195, .iadd, 1), (196, .aload_n 0, 1), (197, .getfield 182, 3), (200, .iastore, 1), (201, .aload_n 0, 1), (202, .aload_n 0, 1), (203, .getfield 278, 3), (206, .iconst 1, 1), (207, .iadd, 1), (208, .putfield 278, 3), (211, .iconst 1, 1), (212, .ireturn, 1)] := Tab.of (by decide +kernel)
set_option maxRecDepth 100000 in
theorem T_X12_roads : Tab cX12_roads [(0, .iload_n 1, 1), (1, .iconst 1, 1), (2, .sipush 200, 3), (5, .invokestatic 155, 3), (8, .ifCond .eq 11, 3), (11, .iload_n 1, 1), (12, .aload_n 0, 1), (13, .getfield 159, 3), (16, .if_icmp .le 5, 3), (19, .iconst (-1), 1), (20, .ireturn, 1), (21, .aload_n 0, 1), (22, .iconst 0, 1), (23, .putfield 166, 3), (26, .aload_n 0, 1), (27, .iload_n 1, 1), (28, .putfield 169, 3), (31, .aload_n 0, 1), (32, .iconst 0, 1), (33, .putfield 278, 3), (36, .iconst 0, 1), (37, .istore_n 2, 1), (38, .iload_n 2, 1), (39, .sipush 196, 3), (42, .if_icmp .ge 16, 3), (45, .aload_n 0, 1), (46, .getfield 89, 3), (49, .iload_n 2, 1), (50, .iconst 0, 1), (51, .iastore, 1), (52, .iinc 2 1, 3), (55, .goto (-17), 3), (58, .aload_n 0, 1), (59, .invokevirtual 284, 3), (62, .istore_n 2, 1), (63, .iload_n 2, 1), (64, .ifCond .eq 39, 3), (67, .aload_n 0, 1), (68, .getfield 166, 3), (71, .aload_n 0, 1), (72, .getfield 169, 3), (75, .if_icmp .ge 28, 3), (78, .aload_n 0, 1), (79, .bipush 59, 2), (81, .invokevirtual 255, 3), (84, .ifCond .eq 14, 3), (87, .aload_n 0, 1), (88, .invokevirtual 284, 3), (91, .ifCond .eq 7, 3), (94, .iconst 1, 1), (95, .goto 4, 3), (98, .iconst 0, 1), (99, .istore_n 2, 1), (100, .goto (-37), 3), (103, .aload_n 0, 1), (104, .iconst 0, 1), (105, .putfield 159, 3), (108, .iload_n 2, 1), (109, .ifCond .ne 8, 3), (112, .aload_n 0, 1), (113, .getfield 176, 3), (116, .ireturn, 1), (117, .iconst 0, 1), (118, .istore_n 3, 1), (119, .iload_n 3, 1), (120, .sipush 196, 3), (123, .if_icmp .ge 21, 3), (126, .aload_n 0, 1), (127, .getfield 28, 3), (130, .iload_n 3, 1), (131, .aload_n 0, 1), (132, .getfield 89, 3), (135, .iload_n 3, 1), (136, .iaload, 1), (137, .iastore, 1), (138, .iinc 3 1, 3), (141, .goto (-22), 3), (144, .aload_n 0, 1), (145, .iconst (-1), 1), (146, .iconst (-1), 1), (147, .invokevirtual 131, 3), (150, .aload_n 0, 1), (151, .getfield 278, 3), (154, .ireturn, 1)] := Tab.of (by decide +kernel)
set_option maxRecDepth 100000 in
theorem T_X12_readsStop : Tab cX12_readsStop [(0, .aload_n 0, 1), (1, .invokevirtual 275, 3), (4, .ifCond .ne 22, 3), (7, .aload_n 0, 1), (8, .invokevirtual 172, 3), (11, .bipush 43, 2), (13, .if_icmp .eq 13, 3), (16, .aload_n 0, 1), (17, .iconst 1, 1), (18, .aload_n 0, 1), (19, .getfield 166, 3), (22, .invokevirtual 179, 3), (25, .ireturn, 1), (26, .aload_n 0, 1), (27, .getfield 278, 3), (30, .bipush 16, 2), (32, .if_icmp .ne 13, 3), (35, .aload_n 0, 1), (36, .iconst 4, 1), (37, .aload_n 0, 1), (38, .getfield 166, 3), (41, .invokevirtual 179, 3), (44, .ireturn, 1), (45, .aload_n 0, 1), (46, .getfield 92, 3), (49, .aload_n 0, 1), (50, .getfield 278, 3), (53, .aload_n 0, 1), (54, .invokevirtual 172, 3), (57, .bipush 43, 2), (59, .if_icmp .ne 8, 3), (62, .bipush 14, 2), (64, .goto 10, 3), (67, .aload_n 0, 1), (68, .invokevirtual 172, 3), (71, .bipush 97, 2), (73, .isub, 1), (74, .iastore, 1), (75, .aload_n 0, 1), (76, .aload_n 0, 1), (77, .getfield 166, 3), (80, .iconst 1, 1), (81, .iadd, 1), (82, .putfield 166, 3), (85, .aload_n 0, 1), (86, .invokevirtual 281, 3), (89, .ifCond .ne 5, 3), (92, .iconst 0, 1), (93, .ireturn, 1), (94, .aload_n 0, 1), (95, .getfield 95, 3), (98, .aload_n 0, 1), (99, .getfield 278, 3), (102, .aload_n 0, 1), (103, .getfield 182, 3), (106, .iastore, 1), (107, .aload_n 0, 1), (108, .aload_n 0, 1), (109, .getfield 278, 3), (112, .iconst 1, 1), (113, .iadd, 1), (114, .putfield 278, 3), (117, .iconst 1, 1), (118, .ireturn, 1)] := Tab.of (by decide +kernel)
set_option maxRecDepth 100000 in
theorem T_X12_plan : Tab cX12_plan [(0, .iload_n 1, 1), (1, .iconst 0, 1), (2, .iconst 4, 1), (3, .invokestatic 155, 3), (6, .ifCond .eq 21, 3), (9, .iload_n 2, 1), (10, .iconst 1, 1), (11, .bipush 80, 2), (13, .invokestatic 155, 3), (16, .ifCond .eq 11, 3), (19, .iload_n 2, 1), (20, .aload_n 0, 1), (21, .getfield 159, 3), (24, .if_icmp .le 5, 3), (27, .iconst (-1), 1), (28, .ireturn, 1), (29, .aload_n 0, 1), (30, .iconst 0, 1), (31, .putfield 166, 3), (34, .aload_n 0, 1), (35, .iload_n 2, 1), (36, .putfield 169, 3), (39, .aload_n 0, 1), (40, .iconst 0, 1), (41, .putfield 278, 3), (44, .aload_n 0, 1), (45, .invokevirtual 287, 3), (48, .istore_n 3, 1), (49, .iload_n 3, 1), (50, .ifCond .eq 39, 3), (53, .aload_n 0, 1), (54, .getfield 166, 3), (57, .aload_n 0, 1), (58, .getfield 169, 3), (61, .if_icmp .ge 28, 3), (64, .aload_n 0, 1), (65, .bipush 44, 2), (67, .invokevirtual 255, 3), (70, .ifCond .eq 14, 3), (73, .aload_n 0, 1), (74, .invokevirtual 287, 3), (77, .ifCond .eq 7, 3), (80, .iconst 1, 1), (81, .goto 4, 3), (84, .iconst 0, 1), (85, .istore_n 3, 1), (86, .goto (-37), 3), (89, .aload_n 0, 1), (90, .iconst 0, 1), (91, .putfield 159, 3), (94, .iload_n 3, 1), (95, .ifCond .ne 8, 3), (98, .aload_n 0, 1), (99, .getfield 176, 3), (102, .ireturn, 1), (103, .aload_n 0, 1), (104, .getfield 37, 3), (107, .iload_n 1, 1), (108, .aload_n 0, 1), (109, .getfield 278, 3), (112, .iastore, 1), (113, .iconst 0, 1), (114, .istore 4, 2), (116, .iload 4, 2), (118, .aload_n 0, 1), (119, .getfield 278, 3), (122, .if_icmp .ge 47, 3), (125, .aload_n 0, 1), (126, .getfield 40, 3), (129, .bipush 16, 2), (131, .iload_n 1, 1), (132, .imul, 1), (133, .iload 4, 2), (135, .iadd, 1), (136, .aload_n 0, 1), (137, .getfield 92, 3), (140, .iload 4, 2), (142, .iaload, 1), (143, .iastore, 1), (144, .aload_n 0, 1), (145, .getfield 43, 3), (148, .bipush 16, 2), (150, .iload_n 1, 1), (151, .imul, 1), (152, .iload 4, 2), (154, .iadd, 1), (155, .aload_n 0, 1), (156, .getfield 95, 3), (159, .iload 4, 2), (161, .iaload, 1), (162, .iastore, 1), (163, .iinc 4 1, 3), (166, .goto (-50), 3), (169, .aload_n 0, 1), (170, .getfield 278, 3), (173, .ireturn, 1)] := Tab.of (by decide +kernel)
set_option maxRecDepth 100000 in
theorem T_X12_placeOf : Tab cX12_placeOf [(0, .iload_n 0, 1), (1, .bipush 14, 2), (3, .if_icmp .ne 7, 3), (6, .iconst 0, 1), (7, .goto 4, 3), (10, .iload_n 0, 1), (11, .ireturn, 1)] := Tab.of (by decide +kernel)
set_option maxRecDepth 100000 in
theorem T_X12_canCome : Tab cX12_canCome [(0, .aload_n 0, 1), (1, .aload_n 0, 1), (2, .getfield 98, 3), (5, .iload_n 1, 1), (6, .iaload, 1), (7, .aload_n 0, 1), (8, .getfield 40, 3), (11, .bipush 16, 2), (13, .iload_n 1, 1), (14, .imul, 1), (15, .iload_n 2, 1), (16, .iadd, 1), (17, .iaload, 1), (18, .invokestatic 290, 3), (21, .invokevirtual 293, 3), (24, .ldc 150, 2), (26, .if_icmp .ge 7, 3), (29, .iconst 1, 1), (30, .goto 4, 3), (33, .iconst 0, 1), (34, .ireturn, 1)] := Tab.of (by decide +kernel)
set_option maxRecDepth 100000 in
theorem T_X12_goesOn : Tab cX12_goesOn [(0, .aload_n 0, 1), (1, .getfield 104, 3), (4, .iload_n 1, 1), (5, .iaload, 1), (6, .aload_n 0, 1), (7, .getfield 37, 3), (10, .iload_n 1, 1), (11, .iaload, 1), (12, .if_icmp .ge 34, 3), (15, .aload_n 0, 1), (16, .iload_n 1, 1), (17, .aload_n 0, 1), (18, .getfield 104, 3), (21, .iload_n 1, 1), (22, .iaload, 1), (23, .invokevirtual 296, 3), (26, .ifCond .ne 20, 3), (29, .aload_n 0, 1), (30, .getfield 104, 3), (33, .iload_n 1, 1), (34, .aload_n 0, 1), (35, .getfield 104, 3), (38, .iload_n 1, 1), (39, .iaload, 1), (40, .iconst 1, 1), (41, .iadd, 1), (42, .iastore, 1), (43, .goto (-43), 3), (46, .aload_n 0, 1), (47, .getfield 104, 3), (50, .iload_n 1, 1), (51, .iaload, 1), (52, .aload_n 0, 1), (53, .getfield 37, 3), (56, .iload_n 1, 1), (57, .iaload, 1), (58, .if_icmp .ne 12, 3), (61, .aload_n 0, 1), (62, .getfield 107, 3), (65, .iload_n 1, 1), (66, .ldc 150, 2), (68, .iastore, 1), (69, .return_, 1), (70, .aload_n 0, 1), (71, .getfield 40, 3), (74, .bipush 16, 2), (76, .iload_n 1, 1), (77, .imul, 1), (78, .aload_n 0, 1), (79, .getfield 104, 3), (82, .iload_n 1, 1), (83, .iaload, 1), (84, .iadd, 1), (85, .iaload, 1), (86, .invokestatic 290, 3), (89, .istore_n 3, 1), (90, .aload_n 0, 1), (91, .getfield 107, 3), (94, .iload_n 1, 1), (95, .iload_n 2, 1), (96, .aload_n 0, 1), (97, .aload_n 0, 1), (98, .getfield 98, 3), (101, .iload_n 1, 1), (102, .iaload, 1), (103, .iload_n 3, 1), (104, .invokevirtual 293, 3), (107, .iadd, 1), (108, .iastore, 1), (109, .aload_n 0, 1), (110, .getfield 110, 3), (113, .iload_n 1, 1), (114, .aload_n 0, 1), (115, .getfield 107, 3), (118, .iload_n 1, 1), (119, .iaload, 1), (120, .iastore, 1), (121, .return_, 1)] := Tab.of (by decide +kernel)
set_option maxRecDepth 100000 in
theorem T_X12_arrives : Tab cX12_arrives [(0, .bipush 16, 2), (2, .iload_n 1, 1), (3, .imul, 1), (4, .aload_n 0, 1), (5, .getfield 104, 3), (8, .iload_n 1, 1), (9, .iaload, 1), (10, .iadd, 1), (11, .istore_n 3, 1), (12, .aload_n 0, 1), (13, .getfield 40, 3), (16, .iload_n 3, 1), (17, .iaload, 1), (18, .istore 4, 2), (20, .aload_n 0, 1), (21, .getfield 98, 3), (24, .iload_n 1, 1), (25, .iload 4, 2), (27, .invokestatic 290, 3), (30, .iastore, 1), (31, .aload_n 0, 1), (32, .aload_n 0, 1), (33, .getfield 299, 3), (36, .iconst 1, 1), (37, .iadd, 1), (38, .putfield 299, 3), (41, .aload_n 0, 1), (42, .aload_n 0, 1), (43, .getfield 98, 3), (46, .iload_n 1, 1), (47, .iaload, 1), (48, .iload_n 2, 1), (49, .bipush 60, 2), (51, .idiv, 1), (52, .iload_n 1, 1), (53, .invokevirtual 268, 3), (56, .aload_n 0, 1), (57, .bipush 117, 2), (59, .bipush 9, 2), (61, .invokevirtual 272, 3), (64, .istore 5, 2), (66, .iload 4, 2), (68, .bipush 14, 2), (70, .if_icmp .ne 45, 3), (73, .aload_n 0, 1), (74, .getfield 43, 3), (77, .iload_n 3, 1), (78, .iaload, 1), (79, .aload_n 0, 1), (80, .getfield 34, 3), (83, .iload_n 1, 1), (84, .iaload, 1), (85, .aload_n 0, 1), (86, .getfield 101, 3), (89, .iload_n 1, 1), (90, .iaload, 1), (91, .isub, 1), (92, .invokestatic 151, 3), (95, .istore 6, 2), (97, .aload_n 0, 1), (98, .getfield 101, 3), (101, .iload_n 1, 1), (102, .aload_n 0, 1), (103, .getfield 101, 3), (106, .iload_n 1, 1), (107, .iaload, 1), (108, .iload 6, 2), (110, .iadd, 1), (111, .iastore, 1), (112, .goto 73, 3), (115, .aload_n 0, 1), (116, .getfield 43, 3), (119, .iload_n 3, 1), (120, .iaload, 1), (121, .aload_n 0, 1), (122, .getfield 101, 3), (125, .iload_n 1, 1), (126, .iaload, 1), (127, .invokestatic 151, 3), (130, .istore 6, 2), (132, .aload_n 0, 1), (133, .getfield 101, 3), (136, .iload_n 1, 1), (137, .aload_n 0, 1), (138, .getfield 101, 3), (141, .iload_n 1, 1), (142, .iaload, 1), (143, .iload 6, 2), (145, .isub, 1), (146, .iastore, 1), (147, .aload_n 0, 1), (148, .aload_n 0, 1), (149, .getfield 302, 3), (152, .iload 6, 2), (154, .iadd, 1), (155, .putfield 302, 3), (158, .aload_n 0, 1), (159, .getfield 7, 3), (162, .iconst 0, 1), (163, .iload 4, 2), (165, .iadd, 1), (166, .sipush 999, 3), (169, .aload_n 0, 1), (170, .getfield 7, 3), (173, .iconst 0, 1), (174, .iload 4, 2), (176, .iadd, 1), (177, .iaload, 1), (178, .iload 6, 2), (180, .iadd, 1), (181, .invokestatic 151, 3), (184, .iastore, 1), (185, .aload_n 0, 1), (186, .getfield 104, 3), (189, .iload_n 1, 1), (190, .aload_n 0, 1), (191, .getfield 104, 3), (194, .iload_n 1, 1), (195, .iaload, 1), (196, .iconst 1, 1), (197, .iadd, 1), (198, .iastore, 1), (199, .aload_n 0, 1), (200, .iload_n 1, 1), (201, .iload_n 2, 1), (202, .iload 5, 2), (204, .iload 6, 2), (206, .imul, 1), (207, .iadd, 1), (208, .invokevirtual 305, 3), (211, .return_, 1)] := Tab.of (by decide +kernel)
set_option maxRecDepth 100000 in
theorem T_X12_hourEnds : Tab cX12_hourEnds [(0, .iconst 0, 1), (1, .istore_n 2, 1), (2, .iload_n 2, 1), (3, .bipush 14, 2), (5, .if_icmp .ge 167, 3), (8, .aload_n 0, 1), (9, .iload_n 2, 1), (10, .invokevirtual 146, 3), (13, .ifCond .ne 6, 3), (16, .goto 150, 3), (19, .aload_n 0, 1), (20, .getfield 7, 3), (23, .iconst 0, 1), (24, .iload_n 2, 1), (25, .iadd, 1), (26, .iaload, 1), (27, .aload_n 0, 1), (28, .bipush 119, 2), (30, .iload_n 2, 1), (31, .iload_n 1, 1), (32, .invokevirtual 308, 3), (35, .invokestatic 151, 3), (38, .istore_n 3, 1), (39, .aload_n 0, 1), (40, .getfield 7, 3), (43, .iconst 0, 1), (44, .iload_n 2, 1), (45, .iadd, 1), (46, .aload_n 0, 1), (47, .getfield 7, 3), (50, .iconst 0, 1), (51, .iload_n 2, 1), (52, .iadd, 1), (53, .iaload, 1), (54, .iload_n 3, 1), (55, .isub, 1), (56, .iastore, 1), (57, .aload_n 0, 1), (58, .aload_n 0, 1), (59, .getfield 311, 3), (62, .iload_n 3, 1), (63, .iadd, 1), (64, .putfield 311, 3), (67, .aload_n 0, 1), (68, .getfield 7, 3), (71, .iconst 0, 1), (72, .iload_n 2, 1), (73, .iadd, 1), (74, .iaload, 1), (75, .aload_n 0, 1), (76, .bipush 99, 2), (78, .iload_n 2, 1), (79, .iload_n 1, 1), (80, .invokevirtual 308, 3), (83, .invokestatic 151, 3), (86, .istore_n 3, 1), (87, .aload_n 0, 1), (88, .getfield 7, 3), (91, .iconst 0, 1), (92, .iload_n 2, 1), (93, .iadd, 1), (94, .aload_n 0, 1), (95, .getfield 7, 3), (98, .iconst 0, 1), (99, .iload_n 2, 1), (100, .iadd, 1), (101, .iaload, 1), (102, .iload_n 3, 1), (103, .isub, 1), (104, .iastore, 1), (105, .aload_n 0, 1), (106, .aload_n 0, 1), (107, .getfield 314, 3), (110, .iload_n 3, 1), (111, .iadd, 1), (112, .putfield 314, 3), (115, .aload_n 0, 1), (116, .getfield 7, 3), (119, .iconst 0, 1), (120, .iload_n 2, 1), (121, .iadd, 1), (122, .iaload, 1), (123, .ifCond .le 43, 3), (126, .aload_n 0, 1), (127, .getfield 7, 3), (130, .iconst 0, 1), (131, .iload_n 2, 1), (132, .iadd, 1), (133, .iaload, 1), (134, .aload_n 0, 1), (135, .bipush 115, 2), (137, .iload_n 2, 1), (138, .iload_n 1, 1), (139, .invokevirtual 308, 3), (142, .if_icmp .lt 24, 3), (145, .aload_n 0, 1), (146, .getfield 7, 3), (149, .bipush 15, 2), (151, .aload_n 0, 1), (152, .getfield 7, 3), (155, .bipush 15, 2), (157, .iaload, 1), (158, .aload_n 0, 1), (159, .getfield 19, 3), (162, .iload_n 2, 1), (163, .iaload, 1), (164, .iadd, 1), (165, .iastore, 1), (166, .iinc 2 1, 3), (169, .goto (-167), 3), (172, .return_, 1)] := Tab.of (by decide +kernel)
set_option maxRecDepth 100000 in
theorem T_X12_goesNight : Tab cX12_goesNight [(0, .aload_n 0, 1), (1, .iconst 0, 1), (2, .putfield 311, 3), (5, .aload_n 0, 1), (6, .iconst 0, 1), (7, .putfield 314, 3), (10, .aload_n 0, 1), (11, .iconst 0, 1), (12, .putfield 302, 3), (15, .aload_n 0, 1), (16, .iconst 0, 1), (17, .putfield 299, 3), (20, .iconst 0, 1), (21, .istore_n 1, 1), (22, .iload_n 1, 1), (23, .iconst 5, 1), (24, .if_icmp .ge 63, 3), (27, .aload_n 0, 1), (28, .getfield 98, 3), (31, .iload_n 1, 1), (32, .iconst 0, 1), (33, .iastore, 1), (34, .aload_n 0, 1), (35, .getfield 101, 3), (38, .iload_n 1, 1), (39, .iconst 0, 1), (40, .iastore, 1), (41, .aload_n 0, 1), (42, .getfield 104, 3), (45, .iload_n 1, 1), (46, .iconst 0, 1), (47, .iastore, 1), (48, .aload_n 0, 1), (49, .getfield 107, 3), (52, .iload_n 1, 1), (53, .ldc 150, 2), (55, .iastore, 1), (56, .aload_n 0, 1), (57, .getfield 110, 3), (60, .iload_n 1, 1), (61, .ldc 150, 2), (63, .iastore, 1), (64, .aload_n 0, 1), (65, .iload_n 1, 1), (66, .invokevirtual 317, 3), (69, .ifCond .eq 12, 3), (72, .aload_n 0, 1), (73, .iload_n 1, 1), (74, .aload_n 0, 1), (75, .getfield 320, 3), (78, .invokevirtual 305, 3), (81, .iinc 1 1, 3), (84, .goto (-62), 3), (87, .iconst 0, 1), (88, .istore_n 1, 1), (89, .iload_n 1, 1), (90, .sipush 600, 3), (93, .if_icmp .ge 58, 3), (96, .iconst 0, 1), (97, .istore_n 2, 1), (98, .iload_n 2, 1), (99, .iconst 5, 1), (100, .if_icmp .ge 28, 3), (103, .aload_n 0, 1), (104, .getfield 107, 3), (107, .iload_n 2, 1), (108, .iaload, 1), (109, .iload_n 1, 1), (110, .if_icmp .ne 12, 3), (113, .aload_n 0, 1), (114, .iload_n 2, 1), (115, .iload_n 1, 1), (116, .invokevirtual 323, 3), (119, .goto (-16), 3), (122, .iinc 2 1, 3), (125, .goto (-27), 3), (128, .iload_n 1, 1), (129, .bipush 60, 2), (131, .irem, 1), (132, .bipush 59, 2), (134, .if_icmp .ne 11, 3), (137, .aload_n 0, 1), (138, .iload_n 1, 1), (139, .bipush 60, 2), (141, .idiv, 1), (142, .invokevirtual 326, 3), (145, .iinc 1 1, 3), (148, .goto (-59), 3), (151, .return_, 1)] := Tab.of (by decide +kernel)
set_option maxRecDepth 100000 in
theorem T_X12_yardsAll : Tab cX12_yardsAll [(0, .iconst 0, 1), (1, .istore_n 1, 1), (2, .iconst 0, 1), (3, .istore_n 2, 1), (4, .iload_n 2, 1), (5, .bipush 14, 2), (7, .if_icmp .ge 32, 3), (10, .iload_n 1, 1), (11, .aload_n 0, 1), (12, .iload_n 2, 1), (13, .invokevirtual 146, 3), (16, .ifCond .eq 14, 3), (19, .aload_n 0, 1), (20, .getfield 7, 3), (23, .iconst 0, 1), (24, .iload_n 2, 1), (25, .iadd, 1), (26, .iaload, 1), (27, .goto 4, 3), (30, .iconst 0, 1), (31, .iadd, 1), (32, .istore_n 1, 1), (33, .iinc 2 1, 3), (36, .goto (-32), 3), (39, .iload_n 1, 1), (40, .ireturn, 1)] := Tab.of (by decide +kernel)
set_option maxRecDepth 100000 in
theorem T_X12_nights : Tab cX12_nights [(0, .iload_n 1, 1), (1, .iconst 1, 1), (2, .bipush 20, 2), (4, .invokestatic 155, 3), (7, .ifCond .ne 5, 3), (10, .iconst (-1), 1), (11, .ireturn, 1), (12, .aload_n 0, 1), (13, .getfield 7, 3), (16, .bipush 15, 2), (18, .iaload, 1), (19, .istore_n 2, 1), (20, .iconst 0, 1), (21, .istore_n 3, 1), (22, .iload_n 3, 1), (23, .iload_n 1, 1), (24, .if_icmp .ge 87, 3), (27, .aload_n 0, 1), (28, .getfield 7, 3), (31, .bipush 14, 2), (33, .iaload, 1), (34, .sipush 9999, 3), (37, .if_icmp .ge 74, 3), (40, .aload_n 0, 1), (41, .invokevirtual 329, 3), (44, .aload_n 0, 1), (45, .getfield 7, 3), (48, .bipush 16, 2), (50, .aload_n 0, 1), (51, .getfield 7, 3), (54, .bipush 16, 2), (56, .iaload, 1), (57, .aload_n 0, 1), (58, .invokevirtual 332, 3), (61, .iadd, 1), (62, .iastore, 1), (63, .iconst 0, 1), (64, .istore 4, 2), (66, .iload 4, 2), (68, .bipush 14, 2), (70, .if_icmp .ge 19, 3), (73, .aload_n 0, 1), (74, .getfield 7, 3), (77, .iconst 0, 1), (78, .iload 4, 2), (80, .iadd, 1), (81, .iconst 0, 1), (82, .iastore, 1), (83, .iinc 4 1, 3), (86, .goto (-20), 3), (89, .aload_n 0, 1), (90, .getfield 7, 3), (93, .bipush 14, 2), (95, .aload_n 0, 1), (96, .getfield 7, 3), (99, .bipush 14, 2), (101, .iaload, 1), (102, .iconst 1, 1), (103, .iadd, 1), (104, .iastore, 1), (105, .iinc 3 1, 3), (108, .goto (-86), 3), (111, .aload_n 0, 1), (112, .getfield 7, 3), (115, .bipush 15, 2), (117, .iaload, 1), (118, .iload_n 2, 1), (119, .isub, 1), (120, .ireturn, 1)] := Tab.of (by decide +kernel)
set_option maxRecDepth 100000 in
theorem T_X12_tried : Tab cX12_tried [(0, .iload_n 1, 1), (1, .iconst 0, 1), (2, .iconst 5, 1), (3, .invokestatic 155, 3), (6, .ifCond .ne 69, 3), (9, .iload_n 1, 1), (10, .bipush 10, 2), (12, .bipush 23, 2), (14, .invokestatic 155, 3), (17, .ifCond .eq 14, 3), (20, .aload_n 0, 1), (21, .iload_n 1, 1), (22, .bipush 10, 2), (24, .isub, 1), (25, .invokevirtual 146, 3), (28, .ifCond .ne 47, 3), (31, .iload_n 1, 1), (32, .bipush 30, 2), (34, .bipush 34, 2), (36, .invokestatic 155, 3), (39, .ifCond .eq 14, 3), (42, .aload_n 0, 1), (43, .iload_n 1, 1), (44, .bipush 30, 2), (46, .isub, 1), (47, .invokevirtual 317, 3), (50, .ifCond .ne 25, 3), (53, .iload_n 1, 1), (54, .bipush 40, 2), (56, .bipush 44, 2), (58, .invokestatic 155, 3), (61, .ifCond .eq 18, 3), (64, .aload_n 0, 1), (65, .iload_n 1, 1), (66, .bipush 40, 2), (68, .isub, 1), (69, .invokevirtual 317, 3), (72, .ifCond .eq 7, 3), (75, .iconst 1, 1), (76, .goto 4, 3), (79, .iconst 0, 1), (80, .istore_n 2, 1), (81, .iload_n 2, 1), (82, .ifCond .eq 16, 3), (85, .aload_n 0, 1), (86, .getfield 7, 3), (89, .bipush 14, 2), (91, .iaload, 1), (92, .sipush 9999, 3), (95, .if_icmp .ne 5, 3), (98, .iconst (-1), 1), (99, .ireturn, 1), (100, .aload_n 0, 1), (101, .getfield 7, 3), (104, .aload_n 0, 1), (105, .getfield 13, 3), (108, .invokestatic 335, 3), (111, .aload_n 0, 1), (112, .invokevirtual 329, 3), (115, .iload_n 1, 1), (116, .tableswitch 99 0 5 #[40, 59, 67, 75, 83, 91], 40), (156, .aload_n 0, 1), (157, .getfield 7, 3), (160, .bipush 15, 2), (162, .iaload, 1), (163, .aload_n 0, 1), (164, .getfield 13, 3), (167, .bipush 15, 2), (169, .iaload, 1), (170, .isub, 1), (171, .istore_n 3, 1), (172, .goto 90, 3), (175, .aload_n 0, 1), (176, .invokevirtual 332, 3), (179, .istore_n 3, 1), (180, .goto 82, 3), (183, .aload_n 0, 1), (184, .getfield 311, 3), (187, .istore_n 3, 1), (188, .goto 74, 3), (191, .aload_n 0, 1), (192, .getfield 314, 3), (195, .istore_n 3, 1), (196, .goto 66, 3), (199, .aload_n 0, 1), (200, .getfield 302, 3), (203, .istore_n 3, 1), (204, .goto 58, 3), (207, .aload_n 0, 1), (208, .getfield 299, 3), (211, .istore_n 3, 1), (212, .goto 50, 3), (215, .iload_n 1, 1), (216, .bipush 30, 2), (218, .if_icmp .ge 17, 3), (221, .aload_n 0, 1), (222, .getfield 7, 3), (225, .iconst 0, 1), (226, .iload_n 1, 1), (227, .iadd, 1), (228, .bipush 10, 2), (230, .isub, 1), (231, .iaload, 1), (232, .goto 29, 3), (235, .iload_n 1, 1), (236, .bipush 40, 2), (238, .if_icmp .ge 15, 3), (241, .aload_n 0, 1), (242, .getfield 101, 3), (245, .iload_n 1, 1), (246, .bipush 30, 2), (248, .isub, 1), (249, .iaload, 1), (250, .goto 11, 3), (253, .aload_n 0, 1), (254, .iload_n 1, 1), (255, .bipush 40, 2), (257, .isub, 1), (258, .invokevirtual 339, 3), (261, .istore_n 3, 1), (262, .aload_n 0, 1), (263, .getfield 13, 3), (266, .aload_n 0, 1), (267, .getfield 7, 3), (270, .invokestatic 335, 3), (273, .iload_n 3, 1), (274, .ireturn, 1)] := Tab.of (by decide +kernel)
set_option maxRecDepth 100000 in
theorem T_X12_lastOf : Tab cX12_lastOf [(0, .aload_n 0, 1), (1, .getfield 110, 3), (4, .iload_n 1, 1), (5, .iaload, 1), (6, .sipush 600, 3), (9, .if_icmp .ge 27, 3), (12, .aload_n 0, 1), (13, .getfield 104, 3), (16, .iload_n 1, 1), (17, .iaload, 1), (18, .aload_n 0, 1), (19, .getfield 37, 3), (22, .iload_n 1, 1), (23, .iaload, 1), (24, .if_icmp .ne 12, 3), (27, .aload_n 0, 1), (28, .getfield 110, 3), (31, .iload_n 1, 1), (32, .iaload, 1), (33, .goto 5, 3), (36, .bipush (-2), 2), (38, .ireturn, 1)] := Tab.of (by decide +kernel)
set_option maxRecDepth 100000 in
theorem T_X12_sleptBy : Tab cX12_sleptBy [(0, .aload_n 0, 1), (1, .getfield 7, 3), (4, .aload_n 0, 1), (5, .getfield 13, 3), (8, .invokestatic 335, 3), (11, .aload_n 0, 1), (12, .invokevirtual 329, 3), (15, .aload_n 0, 1), (16, .getfield 7, 3), (19, .bipush 15, 2), (21, .iaload, 1), (22, .aload_n 0, 1), (23, .getfield 13, 3), (26, .bipush 15, 2), (28, .iaload, 1), (29, .isub, 1), (30, .istore_n 1, 1), (31, .aload_n 0, 1), (32, .getfield 13, 3), (35, .aload_n 0, 1), (36, .getfield 7, 3), (39, .invokestatic 335, 3), (42, .iload_n 1, 1), (43, .ireturn, 1)] := Tab.of (by decide +kernel)
set_option maxRecDepth 100000 in
theorem T_X12_strike : Tab cX12_strike [(0, .iload_n 1, 1), (1, .iconst 0, 1), (2, .sipush 600, 3), (5, .invokestatic 155, 3), (8, .ifCond .eq 16, 3), (11, .aload_n 0, 1), (12, .getfield 7, 3), (15, .bipush 14, 2), (17, .iaload, 1), (18, .sipush 9999, 3), (21, .if_icmp .ne 5, 3), (24, .iconst (-1), 1), (25, .ireturn, 1), (26, .aload_n 0, 1), (27, .iload_n 1, 1), (28, .putfield 320, 3), (31, .aload_n 0, 1), (32, .invokevirtual 342, 3), (35, .istore_n 2, 1), (36, .aload_n 0, 1), (37, .iconst 0, 1), (38, .putfield 320, 3), (41, .iload_n 2, 1), (42, .ireturn, 1)] := Tab.of (by decide +kernel)
set_option maxRecDepth 100000 in
theorem T_X12_sleepsAll : Tab cX12_sleepsAll [(0, .iconst 0, 1), (1, .istore_n 2, 1), (2, .iload_n 2, 1), (3, .bipush 10, 2), (5, .if_icmp .ge 113, 3), (8, .aload_n 0, 1), (9, .getfield 7, 3), (12, .iconst 0, 1), (13, .iload_n 1, 1), (14, .iadd, 1), (15, .aload_n 0, 1), (16, .getfield 7, 3), (19, .iconst 0, 1), (20, .iload_n 1, 1), (21, .iadd, 1), (22, .iaload, 1), (23, .aload_n 0, 1), (24, .getfield 7, 3), (27, .iconst 0, 1), (28, .iload_n 1, 1), (29, .iadd, 1), (30, .iaload, 1), (31, .aload_n 0, 1), (32, .bipush 119, 2), (34, .iload_n 1, 1), (35, .iload_n 2, 1), (36, .invokevirtual 308, 3), (39, .invokestatic 151, 3), (42, .isub, 1), (43, .iastore, 1), (44, .aload_n 0, 1), (45, .getfield 7, 3), (48, .iconst 0, 1), (49, .iload_n 1, 1), (50, .iadd, 1), (51, .aload_n 0, 1), (52, .getfield 7, 3), (55, .iconst 0, 1), (56, .iload_n 1, 1), (57, .iadd, 1), (58, .iaload, 1), (59, .aload_n 0, 1), (60, .getfield 7, 3), (63, .iconst 0, 1), (64, .iload_n 1, 1), (65, .iadd, 1), (66, .iaload, 1), (67, .aload_n 0, 1), (68, .bipush 99, 2), (70, .iload_n 1, 1), (71, .iload_n 2, 1), (72, .invokevirtual 308, 3), (75, .invokestatic 151, 3), (78, .isub, 1), (79, .iastore, 1), (80, .aload_n 0, 1), (81, .getfield 7, 3), (84, .iconst 0, 1), (85, .iload_n 1, 1), (86, .iadd, 1), (87, .iaload, 1), (88, .ifCond .eq 22, 3), (91, .aload_n 0, 1), (92, .getfield 7, 3), (95, .iconst 0, 1), (96, .iload_n 1, 1), (97, .iadd, 1), (98, .iaload, 1), (99, .aload_n 0, 1), (100, .bipush 115, 2), (102, .iload_n 1, 1), (103, .iload_n 2, 1), (104, .invokevirtual 308, 3), (107, .if_icmp .ge 5, 3), (110, .iconst 0, 1), (111, .ireturn, 1), (112, .iinc 2 1, 3), (115, .goto (-113), 3), (118, .iconst 1, 1), (119, .ireturn, 1)] := Tab.of (by decide +kernel)
set_option maxRecDepth 100000 in
theorem T_X12_enough : Tab cX12_enough [(0, .aload_n 0, 1), (1, .iload_n 1, 1), (2, .invokevirtual 146, 3), (5, .ifCond .ne 5, 3), (8, .iconst (-1), 1), (9, .ireturn, 1), (10, .aload_n 0, 1), (11, .getfield 7, 3), (14, .iconst 0, 1), (15, .iload_n 1, 1), (16, .iadd, 1), (17, .iaload, 1), (18, .istore_n 2, 1), (19, .iconst 0, 1), (20, .istore_n 3, 1), (21, .iconst 0, 1), (22, .istore 4, 2), (24, .iload 4, 2), (26, .ifCond .ne 37, 3), (29, .iload_n 2, 1), (30, .iload_n 3, 1), (31, .iadd, 1), (32, .sipush 999, 3), (35, .if_icmp .gt 28, 3), (38, .aload_n 0, 1), (39, .getfield 7, 3), (42, .iconst 0, 1), (43, .iload_n 1, 1), (44, .iadd, 1), (45, .iload_n 2, 1), (46, .iload_n 3, 1), (47, .iadd, 1), (48, .iastore, 1), (49, .aload_n 0, 1), (50, .iload_n 1, 1), (51, .invokevirtual 345, 3), (54, .istore 4, 2), (56, .iload_n 3, 1), (57, .iconst 1, 1), (58, .iadd, 1), (59, .istore_n 3, 1), (60, .goto (-36), 3), (63, .aload_n 0, 1), (64, .getfield 7, 3), (67, .iconst 0, 1), (68, .iload_n 1, 1), (69, .iadd, 1), (70, .iload_n 2, 1), (71, .iastore, 1), (72, .iload 4, 2), (74, .ifCond .eq 9, 3), (77, .iload_n 3, 1), (78, .iconst 1, 1), (79, .isub, 1), (80, .goto 5, 3), (83, .bipush (-2), 2), (85, .ireturn, 1)] := Tab.of (by decide +kernel)
set_option maxRecDepth 100000 in
theorem T_X12_oneStop : Tab cX12_oneStop [(0, .aload_n 0, 1), (1, .iload_n 1, 1), (2, .invokevirtual 317, 3), (5, .ifCond .eq 35, 3), (8, .iload_n 2, 1), (9, .iconst 1, 1), (10, .bipush 99, 2), (12, .invokestatic 155, 3), (15, .ifCond .eq 25, 3), (18, .iload_n 3, 1), (19, .iconst 0, 1), (20, .iconst 1, 1), (21, .invokestatic 155, 3), (24, .ifCond .eq 16, 3), (27, .aload_n 0, 1), (28, .getfield 7, 3), (31, .bipush 14, 2), (33, .iaload, 1), (34, .sipush 9999, 3), (37, .if_icmp .ne 5, 3), (40, .iconst (-1), 1), (41, .ireturn, 1), (42, .aload_n 0, 1), (43, .getfield 135, 3), (46, .ifCond .ne 6, 3), (49, .bipush (-2), 2), (51, .ireturn, 1), (52, .aload_n 0, 1), (53, .getfield 40, 3), (56, .astore 4, 2), (58, .bipush 16, 2), (60, .iload_n 1, 1), (61, .imul, 1), (62, .istore 5, 2), (64, .aload_n 0, 1), (65, .getfield 37, 3), (68, .iload_n 1, 1), (69, .iaload, 1), (70, .istore 6, 2), (72, .aload 4, 2), (74, .iload 5, 2), (76, .iaload, 1), (77, .istore 7, 2), (79, .aload 4, 2), (81, .iload 5, 2), (83, .iconst 1, 1), (84, .iadd, 1), (85, .iaload, 1), (86, .istore 8, 2), (88, .aload_n 0, 1), (89, .getfield 43, 3), (92, .iload 5, 2), (94, .iaload, 1), (95, .istore 9, 2), (97, .aload_n 0, 1), (98, .getfield 43, 3), (101, .iload 5, 2), (103, .iconst 1, 1), (104, .iadd, 1), (105, .iaload, 1), (106, .istore 10, 2), (108, .aload_n 0, 1), (109, .getfield 143, 3), (112, .istore 11, 2), (114, .aload_n 0, 1), (115, .iconst 1, 1), (116, .iload_n 1, 1), (117, .ishl, 1), (118, .putfield 143, 3), (121, .aload_n 0, 1), (122, .getfield 37, 3), (125, .iload_n 1, 1), (126, .iconst 2, 1), (127, .iastore, 1), (128, .aload 4, 2), (130, .iload 5, 2), (132, .bipush 14, 2), (134, .iastore, 1), (135, .aload_n 0, 1), (136, .getfield 43, 3), (139, .iload 5, 2), (141, .iload_n 2, 1), (142, .iastore, 1), (143, .aload_n 0, 1), (144, .getfield 43, 3), (147, .iload 5, 2), (149, .iconst 1, 1), (150, .iadd, 1), (151, .iload_n 2, 1), (152, .iastore, 1), (153, .iconst (-1), 1), (154, .istore 12, 2), (156, .iconst 0, 1), (157, .istore 13, 2), (159, .iconst 0, 1), (160, .istore 14, 2), (162, .iload 14, 2), (164, .bipush 14, 2), (166, .if_icmp .ge 60, 3), (169, .aload_n 0, 1), (170, .iload 14, 2), (172, .invokevirtual 146, 3), (175, .ifCond .ne 6, 3), (178, .goto 42, 3), (181, .aload 4, 2), (183, .iload 5, 2), (185, .iconst 1, 1), (186, .iadd, 1), (187, .iload 14, 2), (189, .iastore, 1), (190, .aload_n 0, 1), (191, .invokevirtual 342, 3), (194, .istore 15, 2), (196, .iload 12, 2), (198, .iconst (-1), 1), (199, .if_icmp .eq 13, 3), (202, .iload 15, 2), (204, .iload 13, 2), (206, .if_icmp .gt 6, 3), (209, .goto 11, 3), (212, .iload 14, 2), (214, .istore 12, 2), (216, .iload 15, 2), (218, .istore 13, 2), (220, .iinc 14 1, 3), (223, .goto (-61), 3), (226, .aload_n 0, 1), (227, .iload 11, 2), (229, .putfield 143, 3), (232, .aload_n 0, 1), (233, .getfield 37, 3), (236, .iload_n 1, 1), (237, .iload 6, 2), (239, .iastore, 1), (240, .aload 4, 2), (242, .iload 5, 2), (244, .iload 7, 2), (246, .iastore, 1), (247, .aload 4, 2), (249, .iload 5, 2), (251, .iconst 1, 1), (252, .iadd, 1), (253, .iload 8, 2), (255, .iastore, 1), (256, .aload_n 0, 1), (257, .getfield 43, 3), (260, .iload 5, 2), (262, .iload 9, 2), (264, .iastore, 1), (265, .aload_n 0, 1), (266, .getfield 43, 3), (269, .iload 5, 2), (271, .iconst 1, 1), (272, .iadd, 1), (273, .iload 10, 2), (275, .iastore, 1), (276, .iload_n 3, 1), (277, .ifCond .ne 8, 3), (280, .iload 12, 2), (282, .goto 5, 3), (285, .iload 13, 2), (287, .ireturn, 1)] := Tab.of (by decide +kernel)
set_option maxRecDepth 100000 in
theorem T_X12_way : Tab cX12_way [(0, .aload_n 0, 1), (1, .iload_n 1, 1), (2, .invokevirtual 146, 3), (5, .ifCond .eq 11, 3), (8, .aload_n 0, 1), (9, .iload_n 2, 1), (10, .invokevirtual 146, 3), (13, .ifCond .ne 5, 3), (16, .iconst (-1), 1), (17, .ireturn, 1), (18, .aload_n 0, 1), (19, .iload_n 1, 1), (20, .iload_n 2, 1), (21, .invokevirtual 293, 3), (24, .ldc 150, 2), (26, .if_icmp .lt 8, 3), (29, .bipush (-2), 2), (31, .goto 9, 3), (34, .aload_n 0, 1), (35, .iload_n 1, 1), (36, .iload_n 2, 1), (37, .invokevirtual 293, 3), (40, .ireturn, 1)] := Tab.of (by decide +kernel)
set_option maxRecDepth 100000 in
theorem T_X12_laysWho : Tab cX12_laysWho [(0, .iconst 0, 1), (1, .istore_n 2, 1), (2, .iconst 0, 1), (3, .istore_n 3, 1), (4, .iload_n 3, 1), (5, .bipush 14, 2), (7, .if_icmp .ge 31, 3), (10, .iload_n 1, 1), (11, .iload_n 3, 1), (12, .invokestatic 139, 3), (15, .ifCond .ne 6, 3), (18, .goto 14, 3), (21, .aload_n 0, 1), (22, .getfield 113, 3), (25, .iload_n 2, 1), (26, .iload_n 3, 1), (27, .iastore, 1), (28, .iload_n 2, 1), (29, .iconst 1, 1), (30, .iadd, 1), (31, .istore_n 2, 1), (32, .iinc 3 1, 3), (35, .goto (-31), 3), (38, .iload_n 2, 1), (39, .ireturn, 1)] := Tab.of (by decide +kernel)
set_option maxRecDepth 100000 in
theorem T_X12_readsRow : Tab cX12_readsRow [(0, .iload_n 1, 1), (1, .istore_n 3, 1), (2, .iconst 0, 1), (3, .istore 4, 2), (5, .iload_n 2, 1), (6, .iconst 1, 1), (7, .isub, 1), (8, .istore 5, 2), (10, .iload 5, 2), (12, .ifCond .lt 54, 3), (15, .aload_n 0, 1), (16, .getfield 116, 3), (19, .iload 5, 2), (21, .iload_n 3, 1), (22, .iload_n 2, 1), (23, .irem, 1), (24, .iastore, 1), (25, .iload_n 3, 1), (26, .iload_n 2, 1), (27, .idiv, 1), (28, .istore_n 3, 1), (29, .iload 4, 2), (31, .aload_n 0, 1), (32, .getfield 116, 3), (35, .iload 5, 2), (37, .iaload, 1), (38, .invokestatic 139, 3), (41, .ifCond .eq 5, 3), (44, .iconst 0, 1), (45, .ireturn, 1), (46, .iload 4, 2), (48, .iconst 1, 1), (49, .aload_n 0, 1), (50, .getfield 116, 3), (53, .iload 5, 2), (55, .iaload, 1), (56, .ishl, 1), (57, .ior, 1), (58, .istore 4, 2), (60, .iinc 5 (-1), 3), (63, .goto (-53), 3), (66, .iconst 1, 1), (67, .ireturn, 1)] := Tab.of (by decide +kernel)
set_option maxRecDepth 100000 in
theorem T_X12_codesFor : Tab cX12_codesFor [(0, .iconst 1, 1), (1, .istore_n 2, 1), (2, .iconst 0, 1), (3, .istore_n 3, 1), (4, .iload_n 3, 1), (5, .iload_n 1, 1), (6, .if_icmp .ge 13, 3), (9, .iload_n 2, 1), (10, .iload_n 0, 1), (11, .imul, 1), (12, .istore_n 2, 1), (13, .iinc 3 1, 3), (16, .goto (-12), 3), (19, .iload_n 2, 1), (20, .ireturn, 1)] := Tab.of (by decide +kernel)
set_option maxRecDepth 100000 in
theorem T_X12_roundBy : Tab cX12_roundBy [(0, .iconst 0, 1), (1, .istore_n 3, 1), (2, .iload_n 1, 1), (3, .istore 4, 2), (5, .iconst 0, 1), (6, .istore 5, 2), (8, .iload 5, 2), (10, .iload_n 2, 1), (11, .if_icmp .ge 44, 3), (14, .iload_n 3, 1), (15, .aload_n 0, 1), (16, .iload 4, 2), (18, .aload_n 0, 1), (19, .getfield 113, 3), (22, .aload_n 0, 1), (23, .getfield 116, 3), (26, .iload 5, 2), (28, .iaload, 1), (29, .iaload, 1), (30, .invokevirtual 293, 3), (33, .iadd, 1), (34, .istore_n 3, 1), (35, .aload_n 0, 1), (36, .getfield 113, 3), (39, .aload_n 0, 1), (40, .getfield 116, 3), (43, .iload 5, 2), (45, .iaload, 1), (46, .iaload, 1), (47, .istore 4, 2), (49, .iinc 5 1, 3), (52, .goto (-44), 3), (55, .iload_n 3, 1), (56, .aload_n 0, 1), (57, .iload 4, 2), (59, .iload_n 1, 1), (60, .invokevirtual 293, 3), (63, .iadd, 1), (64, .ireturn, 1)] := Tab.of (by decide +kernel)
set_option maxRecDepth 100000 in
theorem T_X12_round : Tab cX12_round [(0, .aload_n 0, 1), (1, .iload_n 1, 1), (2, .invokevirtual 146, 3), (5, .ifCond .eq 36, 3), (8, .iload_n 2, 1), (9, .iconst 1, 1), (10, .if_icmp .lt 31, 3), (13, .iload_n 2, 1), (14, .aload_n 0, 1), (15, .getfield 135, 3), (18, .iconst (-1), 1), (19, .ixor, 1), (20, .iand, 1), (21, .ifCond .ne 20, 3), (24, .iload_n 2, 1), (25, .iload_n 1, 1), (26, .invokestatic 139, 3), (29, .ifCond .ne 12, 3), (32, .iload_n 2, 1), (33, .invokestatic 348, 3), (36, .bipush 7, 2), (38, .if_icmp .le 5, 3), (41, .iconst (-1), 1), (42, .ireturn, 1), (43, .aload_n 0, 1), (44, .iload_n 2, 1), (45, .invokevirtual 351, 3), (48, .istore 4, 2), (50, .iload_n 3, 1), (51, .bipush 20, 2), (53, .if_icmp .eq 17, 3), (56, .iload_n 3, 1), (57, .iconst 0, 1), (58, .iload 4, 2), (60, .iconst 1, 1), (61, .isub, 1), (62, .invokestatic 155, 3), (65, .ifCond .ne 5, 3), (68, .iconst (-1), 1), (69, .ireturn, 1), (70, .iconst 0, 1), (71, .istore 5, 2), (73, .iload 5, 2), (75, .iload 4, 2), (77, .if_icmp .ge 29, 3), (80, .aload_n 0, 1), (81, .iload_n 1, 1), (82, .aload_n 0, 1), (83, .getfield 113, 3), (86, .iload 5, 2), (88, .iaload, 1), (89, .invokevirtual 293, 3), (92, .ldc 150, 2), (94, .if_icmp .lt 6, 3), (97, .bipush (-2), 2), (99, .ireturn, 1), (100, .iinc 5 1, 3), (103, .goto (-30), 3), (106, .iconst (-1), 1), (107, .istore 5, 2), (109, .ldc 150, 2), (111, .istore 6, 2), (113, .iconst 0, 1), (114, .istore 7, 2), (116, .iload 7, 2), (118, .iload 4, 2), (120, .iload 4, 2), (122, .invokestatic 354, 3), (125, .if_icmp .ge 48, 3), (128, .aload_n 0, 1), (129, .iload 7, 2), (131, .iload 4, 2), (133, .invokevirtual 357, 3), (136, .ifCond .eq 31, 3), (139, .aload_n 0, 1), (140, .iload_n 1, 1), (141, .iload 4, 2), (143, .invokevirtual 360, 3), (146, .iload 6, 2), (148, .if_icmp .lt 6, 3), (151, .goto 16, 3), (154, .aload_n 0, 1), (155, .iload_n 1, 1), (156, .iload 4, 2), (158, .invokevirtual 360, 3), (161, .istore 6, 2), (163, .iload 7, 2), (165, .istore 5, 2), (167, .iinc 7 1, 3), (170, .goto (-54), 3), (173, .iload_n 3, 1), (174, .bipush 20, 2), (176, .if_icmp .ne 6, 3), (179, .iload 6, 2), (181, .ireturn, 1), (182, .aload_n 0, 1), (183, .iload 5, 2), (185, .iload 4, 2), (187, .invokevirtual 357, 3), (190, .pop, 1), (191, .aload_n 0, 1), (192, .getfield 113, 3), (195, .aload_n 0, 1), (196, .getfield 116, 3), (199, .iload_n 3, 1), (200, .iaload, 1), (201, .iaload, 1), (202, .ireturn, 1)] := Tab.of (by decide +kernel)
set_option maxRecDepth 100000 in
theorem T_X12_needFor : Tab cX12_needFor [(0, .iconst 0, 1), (1, .istore_n 3, 1), (2, .iconst 0, 1), (3, .istore 4, 2), (5, .iload 4, 2), (7, .iload_n 1, 1), (8, .if_icmp .ge 32, 3), (11, .iload_n 3, 1), (12, .iconst 0, 1), (13, .iload_n 2, 1), (14, .aload_n 0, 1), (15, .getfield 7, 3), (18, .iconst 0, 1), (19, .aload_n 0, 1), (20, .getfield 113, 3), (23, .iload 4, 2), (25, .iaload, 1), (26, .iadd, 1), (27, .iaload, 1), (28, .isub, 1), (29, .invokestatic 363, 3), (32, .iadd, 1), (33, .istore_n 3, 1), (34, .iinc 4 1, 3), (37, .goto (-32), 3), (40, .iload_n 3, 1), (41, .ireturn, 1)] := Tab.of (by decide +kernel)
set_option maxRecDepth 100000 in
theorem T_X12_share : Tab cX12_share [(0, .iload_n 1, 1), (1, .iconst 0, 1), (2, .sipush 600, 3), (5, .invokestatic 155, 3), (8, .ifCond .eq 28, 3), (11, .iload_n 2, 1), (12, .iconst 1, 1), (13, .if_icmp .lt 23, 3), (16, .iload_n 2, 1), (17, .aload_n 0, 1), (18, .getfield 135, 3), (21, .iconst (-1), 1), (22, .ixor, 1), (23, .iand, 1), (24, .ifCond .ne 12, 3), (27, .iload_n 2, 1), (28, .invokestatic 348, 3), (31, .bipush 6, 2), (33, .if_icmp .le 5, 3), (36, .iconst (-1), 1), (37, .ireturn, 1), (38, .iload_n 3, 1), (39, .bipush 20, 2), (41, .if_icmp .eq 23, 3), (44, .iload_n 3, 1), (45, .iconst 0, 1), (46, .bipush 13, 2), (48, .invokestatic 155, 3), (51, .ifCond .eq 11, 3), (54, .iload_n 2, 1), (55, .iload_n 3, 1), (56, .invokestatic 139, 3), (59, .ifCond .ne 5, 3), (62, .iconst (-1), 1), (63, .ireturn, 1), (64, .aload_n 0, 1), (65, .iload_n 2, 1), (66, .invokevirtual 351, 3), (69, .istore 4, 2), (71, .iconst 0, 1), (72, .istore 5, 2), (74, .iconst 0, 1), (75, .istore 6, 2), (77, .iload 6, 2), (79, .iload 4, 2), (81, .if_icmp .ge 32, 3), (84, .iload 5, 2), (86, .sipush 999, 3), (89, .iadd, 1), (90, .aload_n 0, 1), (91, .getfield 7, 3), (94, .iconst 0, 1), (95, .aload_n 0, 1), (96, .getfield 113, 3), (99, .iload 6, 2), (101, .iaload, 1), (102, .iadd, 1), (103, .iaload, 1), (104, .isub, 1), (105, .istore 5, 2), (107, .iinc 6 1, 3), (110, .goto (-33), 3), (113, .iload 5, 2), (115, .iload_n 1, 1), (116, .if_icmp .ge 6, 3), (119, .bipush (-2), 2), (121, .ireturn, 1), (122, .iconst 0, 1), (123, .istore 6, 2), (125, .iload 6, 2), (127, .sipush 999, 3), (130, .if_icmp .ge 26, 3), (133, .aload_n 0, 1), (134, .iload 4, 2), (136, .iload 6, 2), (138, .iconst 1, 1), (139, .iadd, 1), (140, .invokevirtual 366, 3), (143, .iload_n 1, 1), (144, .if_icmp .gt 12, 3), (147, .iload 6, 2), (149, .iconst 1, 1), (150, .iadd, 1), (151, .istore 6, 2), (153, .goto (-28), 3), (156, .iload_n 3, 1), (157, .bipush 20, 2), (159, .if_icmp .ne 6, 3), (162, .iload 6, 2), (164, .ireturn, 1), (165, .iload_n 1, 1), (166, .istore 7, 2), (168, .iconst 0, 1), (169, .istore 8, 2), (171, .iload 8, 2), (173, .iload 4, 2), (175, .if_icmp .ge 84, 3), (178, .iload 5, 2), (180, .sipush 999, 3), (183, .isub, 1), (184, .aload_n 0, 1), (185, .getfield 7, 3), (188, .iconst 0, 1), (189, .aload_n 0, 1), (190, .getfield 113, 3), (193, .iload 8, 2), (195, .iaload, 1), (196, .iadd, 1), (197, .iaload, 1), (198, .iadd, 1), (199, .istore 5, 2), (201, .iconst 0, 1), (202, .iload 6, 2), (204, .aload_n 0, 1), (205, .getfield 7, 3), (208, .iconst 0, 1), (209, .aload_n 0, 1), (210, .getfield 113, 3), (213, .iload 8, 2), (215, .iaload, 1), (216, .iadd, 1), (217, .iaload, 1), (218, .isub, 1), (219, .invokestatic 363, 3), (222, .iload 7, 2), (224, .iload 5, 2), (226, .isub, 1), (227, .invokestatic 363, 3), (230, .istore 9, 2), (232, .aload_n 0, 1), (233, .getfield 113, 3), (236, .iload 8, 2), (238, .iaload, 1), (239, .iload_n 3, 1), (240, .if_icmp .ne 6, 3), (243, .iload 9, 2), (245, .ireturn, 1), (246, .iload 7, 2), (248, .iload 9, 2), (250, .isub, 1), (251, .istore 7, 2), (253, .iinc 8 1, 3), (256, .goto (-85), 3), (259, .iconst (-1), 1), (260, .ireturn, 1)] := Tab.of (by decide +kernel)
set_option maxRecDepth 100000 in
theorem T_X12_sleepful : Tab cX12_sleepful [(0, .iload_n 1, 1), (1, .iconst 0, 1), (2, .sipush 300, 3), (5, .invokestatic 155, 3), (8, .ifCond .eq 37, 3), (11, .iload_n 2, 1), (12, .iconst 1, 1), (13, .if_icmp .lt 32, 3), (16, .iload_n 2, 1), (17, .aload_n 0, 1), (18, .getfield 135, 3), (21, .iconst (-1), 1), (22, .ixor, 1), (23, .iand, 1), (24, .ifCond .ne 21, 3), (27, .iload_n 2, 1), (28, .invokestatic 348, 3), (31, .bipush 8, 2), (33, .if_icmp .gt 12, 3), (36, .iload_n 3, 1), (37, .iconst 0, 1), (38, .iconst 2, 1), (39, .invokestatic 155, 3), (42, .ifCond .ne 5, 3), (45, .iconst (-1), 1), (46, .ireturn, 1), (47, .aload_n 0, 1), (48, .iload_n 2, 1), (49, .invokevirtual 351, 3), (52, .istore 4, 2), (54, .iconst 0, 1), (55, .istore 5, 2), (57, .iload 5, 2), (59, .iload 4, 2), (61, .if_icmp .ge 53, 3), (64, .aload_n 0, 1), (65, .getfield 116, 3), (68, .iload 5, 2), (70, .iconst 0, 1), (71, .iconst 1, 1), (72, .aload_n 0, 1), (73, .bipush 115, 2), (75, .aload_n 0, 1), (76, .getfield 113, 3), (79, .iload 5, 2), (81, .iaload, 1), (82, .iconst 0, 1), (83, .invokevirtual 308, 3), (86, .invokestatic 363, 3), (89, .aload_n 0, 1), (90, .getfield 7, 3), (93, .iconst 0, 1), (94, .aload_n 0, 1), (95, .getfield 113, 3), (98, .iload 5, 2), (100, .iaload, 1), (101, .iadd, 1), (102, .iaload, 1), (103, .isub, 1), (104, .invokestatic 363, 3), (107, .iastore, 1), (108, .iinc 5 1, 3), (111, .goto (-54), 3), (114, .iconst 0, 1), (115, .istore 5, 2), (117, .iconst (-1), 1), (118, .istore 6, 2), (120, .iconst 0, 1), (121, .istore 7, 2), (123, .iconst 0, 1), (124, .istore 8, 2), (126, .iload 8, 2), (128, .iconst 1, 1), (129, .iload 4, 2), (131, .ishl, 1), (132, .if_icmp .ge 156, 3), (135, .iconst 0, 1), (136, .istore 9, 2), (138, .iconst 0, 1), (139, .istore 10, 2), (141, .iconst 0, 1), (142, .istore 11, 2), (144, .iconst 0, 1), (145, .istore 12, 2), (147, .iload 12, 2), (149, .iload 4, 2), (151, .if_icmp .ge 75, 3), (154, .iload 8, 2), (156, .iload 12, 2), (158, .invokestatic 139, 3), (161, .ifCond .ne 16, 3), (164, .aload_n 0, 1), (165, .getfield 116, 3), (168, .iload 12, 2), (170, .iaload, 1), (171, .ifCond .le 6, 3), (174, .goto 46, 3), (177, .iload 9, 2), (179, .aload_n 0, 1), (180, .getfield 19, 3), (183, .aload_n 0, 1), (184, .getfield 113, 3), (187, .iload 12, 2), (189, .iaload, 1), (190, .iaload, 1), (191, .iadd, 1), (192, .istore 9, 2), (194, .iload 10, 2), (196, .aload_n 0, 1), (197, .getfield 116, 3), (200, .iload 12, 2), (202, .iaload, 1), (203, .iadd, 1), (204, .istore 10, 2), (206, .iload 11, 2), (208, .iconst 1, 1), (209, .aload_n 0, 1), (210, .getfield 113, 3), (213, .iload 12, 2), (215, .iaload, 1), (216, .ishl, 1), (217, .ior, 1), (218, .istore 11, 2), (220, .iinc 12 1, 3), (223, .goto (-76), 3), (226, .iload 10, 2), (228, .iload_n 1, 1), (229, .if_icmp .gt 53, 3), (232, .iload 9, 2), (234, .iload 6, 2), (236, .if_icmp .lt 46, 3), (239, .iload 9, 2), (241, .iload 6, 2), (243, .if_icmp .ne 27, 3), (246, .iload 10, 2), (248, .iload 7, 2), (250, .if_icmp .gt 32, 3), (253, .iload 10, 2), (255, .iload 7, 2), (257, .if_icmp .ne 13, 3), (260, .iload 11, 2), (262, .iload 5, 2), (264, .if_icmp .lt 6, 3), (267, .goto 15, 3), (270, .iload 11, 2), (272, .istore 5, 2), (274, .iload 9, 2), (276, .istore 6, 2), (278, .iload 10, 2), (280, .istore 7, 2), (282, .iinc 8 1, 3), (285, .goto (-159), 3), (288, .iload_n 3, 1), (289, .ifCond .ne 8, 3), (292, .iload 6, 2), (294, .goto 15, 3), (297, .iload_n 3, 1), (298, .iconst 1, 1), (299, .if_icmp .ne 8, 3), (302, .iload 7, 2), (304, .goto 5, 3), (307, .iload 5, 2), (309, .ireturn, 1)] := Tab.of (by decide +kernel)
set_option maxRecDepth 100000 in
theorem T_X12_laysReach : Tab cX12_laysReach [(0, .iconst 0, 1), (1, .istore_n 1, 1), (2, .iload_n 1, 1), (3, .bipush 14, 2), (5, .if_icmp .ge 124, 3), (8, .aload_n 0, 1), (9, .getfield 119, 3), (12, .iload_n 1, 1), (13, .aload_n 0, 1), (14, .iload_n 1, 1), (15, .invokevirtual 146, 3), (18, .ifCond .eq 7, 3), (21, .iconst 0, 1), (22, .goto 4, 3), (25, .iconst (-1), 1), (26, .iastore, 1), (27, .aload_n 0, 1), (28, .getfield 122, 3), (31, .iload_n 1, 1), (32, .iconst 0, 1), (33, .iastore, 1), (34, .aload_n 0, 1), (35, .getfield 125, 3), (38, .iload_n 1, 1), (39, .iconst 0, 1), (40, .iastore, 1), (41, .iconst 0, 1), (42, .istore_n 2, 1), (43, .iload_n 2, 1), (44, .bipush 14, 2), (46, .if_icmp .ge 77, 3), (49, .aload_n 0, 1), (50, .iload_n 1, 1), (51, .iload_n 2, 1), (52, .invokevirtual 293, 3), (55, .ldc 150, 2), (57, .if_icmp .lt 6, 3), (60, .goto 57, 3), (63, .aload_n 0, 1), (64, .getfield 119, 3), (67, .iload_n 1, 1), (68, .aload_n 0, 1), (69, .getfield 119, 3), (72, .iload_n 1, 1), (73, .iaload, 1), (74, .iconst 1, 1), (75, .iadd, 1), (76, .iastore, 1), (77, .aload_n 0, 1), (78, .getfield 122, 3), (81, .iload_n 1, 1), (82, .aload_n 0, 1), (83, .getfield 122, 3), (86, .iload_n 1, 1), (87, .iaload, 1), (88, .aload_n 0, 1), (89, .iload_n 1, 1), (90, .iload_n 2, 1), (91, .invokevirtual 293, 3), (94, .invokestatic 363, 3), (97, .iastore, 1), (98, .aload_n 0, 1), (99, .getfield 125, 3), (102, .iload_n 1, 1), (103, .aload_n 0, 1), (104, .getfield 125, 3), (107, .iload_n 1, 1), (108, .iaload, 1), (109, .aload_n 0, 1), (110, .iload_n 1, 1), (111, .iload_n 2, 1), (112, .invokevirtual 293, 3), (115, .iadd, 1), (116, .iastore, 1), (117, .iinc 2 1, 3), (120, .goto (-77), 3), (123, .iinc 1 1, 3), (126, .goto (-124), 3), (129, .return_, 1)] := Tab.of (by decide +kernel)
set_option maxRecDepth 100000 in
theorem T_X12_bestBy : Tab cX12_bestBy [(0, .iconst 0, 1), (1, .istore_n 2, 1), (2, .iconst 1, 1), (3, .istore_n 3, 1), (4, .iload_n 3, 1), (5, .bipush 14, 2), (7, .if_icmp .ge 50, 3), (10, .aload_n 0, 1), (11, .getfield 119, 3), (14, .iload_n 3, 1), (15, .iaload, 1), (16, .aload_n 0, 1), (17, .getfield 119, 3), (20, .iload_n 2, 1), (21, .iaload, 1), (22, .if_icmp .gt 27, 3), (25, .aload_n 0, 1), (26, .getfield 119, 3), (29, .iload_n 3, 1), (30, .iaload, 1), (31, .aload_n 0, 1), (32, .getfield 119, 3), (35, .iload_n 2, 1), (36, .iaload, 1), (37, .if_icmp .ne 14, 3), (40, .aload_n 1, 1), (41, .iload_n 3, 1), (42, .iaload, 1), (43, .aload_n 1, 1), (44, .iload_n 2, 1), (45, .iaload, 1), (46, .if_icmp .ge 5, 3), (49, .iload_n 3, 1), (50, .istore_n 2, 1), (51, .iinc 3 1, 3), (54, .goto (-50), 3), (57, .iload_n 2, 1), (58, .ireturn, 1)] := Tab.of (by decide +kernel)
set_option maxRecDepth 100000 in
theorem T_X12_pitAt : Tab cX12_pitAt [(0, .iload_n 1, 1), (1, .iconst 0, 1), (2, .iconst 3, 1), (3, .invokestatic 155, 3), (6, .ifCond .ne 5, 3), (9, .iconst (-1), 1), (10, .ireturn, 1), (11, .aload_n 0, 1), (12, .getfield 135, 3), (15, .ifCond .ne 6, 3), (18, .bipush (-2), 2), (20, .ireturn, 1), (21, .aload_n 0, 1), (22, .invokevirtual 369, 3), (25, .aload_n 0, 1), (26, .aload_n 0, 1), (27, .getfield 122, 3), (30, .invokevirtual 372, 3), (33, .istore_n 2, 1), (34, .aload_n 0, 1), (35, .aload_n 0, 1), (36, .getfield 125, 3), (39, .invokevirtual 372, 3), (42, .istore_n 3, 1), (43, .iload_n 1, 1), (44, .ifCond .ne 7, 3), (47, .iload_n 2, 1), (48, .goto 32, 3), (51, .iload_n 1, 1), (52, .iconst 1, 1), (53, .if_icmp .ne 12, 3), (56, .aload_n 0, 1), (57, .getfield 122, 3), (60, .iload_n 2, 1), (61, .iaload, 1), (62, .goto 18, 3), (65, .iload_n 1, 1), (66, .iconst 2, 1), (67, .if_icmp .ne 7, 3), (70, .iload_n 3, 1), (71, .goto 9, 3), (74, .aload_n 0, 1), (75, .getfield 125, 3), (78, .iload_n 3, 1), (79, .iaload, 1), (80, .ireturn, 1)] := Tab.of (by decide +kernel)
set_option maxRecDepth 100000 in
theorem T_X12_cut : Tab cX12_cut [(0, .iload_n 1, 1), (1, .iconst 0, 1), (2, .iconst 2, 1), (3, .invokestatic 155, 3), (6, .ifCond .ne 5, 3), (9, .iconst (-1), 1), (10, .ireturn, 1), (11, .iconst 0, 1), (12, .istore_n 2, 1), (13, .iconst (-1), 1), (14, .istore_n 3, 1), (15, .iconst 0, 1), (16, .istore 4, 2), (18, .iload 4, 2), (20, .bipush 14, 2), (22, .if_icmp .ge 92, 3), (25, .iload 4, 2), (27, .iconst 1, 1), (28, .iadd, 1), (29, .istore 5, 2), (31, .iload 5, 2), (33, .bipush 14, 2), (35, .if_icmp .ge 73, 3), (38, .aload_n 0, 1), (39, .getfield 28, 3), (42, .bipush 14, 2), (44, .iload 4, 2), (46, .imul, 1), (47, .iload 5, 2), (49, .iadd, 1), (50, .iaload, 1), (51, .ifCond .ne 6, 3), (54, .goto 48, 3), (57, .aload_n 0, 1), (58, .iload 4, 2), (60, .iload 5, 2), (62, .invokevirtual 131, 3), (65, .aload_n 0, 1), (66, .iload 4, 2), (68, .iload 5, 2), (70, .invokevirtual 293, 3), (73, .ldc 150, 2), (75, .if_icmp .ge 6, 3), (78, .goto 24, 3), (81, .iload_n 2, 1), (82, .ifCond .ne 14, 3), (85, .bipush 14, 2), (87, .iload 4, 2), (89, .imul, 1), (90, .iload 5, 2), (92, .iadd, 1), (93, .goto 4, 3), (96, .iload_n 3, 1), (97, .istore_n 3, 1), (98, .iload_n 2, 1), (99, .iconst 1, 1), (100, .iadd, 1), (101, .istore_n 2, 1), (102, .iinc 5 1, 3), (105, .goto (-74), 3), (108, .iinc 4 1, 3), (111, .goto (-93), 3), (114, .aload_n 0, 1), (115, .iconst (-1), 1), (116, .iconst (-1), 1), (117, .invokevirtual 131, 3), (120, .iload_n 1, 1), (121, .ifCond .ne 7, 3), (124, .iload_n 2, 1), (125, .goto 29, 3), (128, .iload_n 3, 1), (129, .iconst (-1), 1), (130, .if_icmp .ne 8, 3), (133, .bipush (-2), 2), (135, .goto 19, 3), (138, .iload_n 1, 1), (139, .iconst 1, 1), (140, .if_icmp .ne 10, 3), (143, .iload_n 3, 1), (144, .bipush 14, 2), (146, .idiv, 1), (147, .goto 7, 3), (150, .iload_n 3, 1), (151, .bipush 14, 2), (153, .irem, 1), (154, .ireturn, 1)] := Tab.of (by decide +kernel)
set_option maxRecDepth 100000 in
theorem T_X12_spared : Tab cX12_spared [(0, .iconst 0, 1), (1, .istore_n 2, 1), (2, .iconst 0, 1), (3, .istore_n 3, 1), (4, .iload_n 3, 1), (5, .bipush 10, 2), (7, .if_icmp .ge 46, 3), (10, .iload_n 2, 1), (11, .aload_n 0, 1), (12, .bipush 119, 2), (14, .iload_n 1, 1), (15, .iload_n 3, 1), (16, .invokevirtual 308, 3), (19, .iadd, 1), (20, .istore_n 2, 1), (21, .aload_n 0, 1), (22, .iload_n 1, 1), (23, .iload_n 3, 1), (24, .iconst 0, 1), (25, .invokevirtual 268, 3), (28, .aload_n 0, 1), (29, .getfield 86, 3), (32, .iconst 2, 1), (33, .iconst 0, 1), (34, .iastore, 1), (35, .iload_n 2, 1), (36, .aload_n 0, 1), (37, .bipush 119, 2), (39, .sipush 999, 3), (42, .invokevirtual 272, 3), (45, .isub, 1), (46, .istore_n 2, 1), (47, .iinc 3 1, 3), (50, .goto (-46), 3), (53, .iload_n 2, 1), (54, .ireturn, 1)] := Tab.of (by decide +kernel)
set_option maxRecDepth 100000 in
theorem T_X12_out : Tab cX12_out [(0, .iload_n 1, 1), (1, .iconst 1, 1), (2, .iconst 5, 1), (3, .invokestatic 155, 3), (6, .ifCond .eq 23, 3), (9, .iload_n 1, 1), (10, .aload_n 0, 1), (11, .getfield 135, 3), (14, .invokestatic 348, 3), (17, .if_icmp .gt 12, 3), (20, .iload_n 2, 1), (21, .iconst 0, 1), (22, .iconst 1, 1), (23, .invokestatic 155, 3), (26, .ifCond .ne 5, 3), (29, .iconst (-1), 1), (30, .ireturn, 1), (31, .iconst 0, 1), (32, .istore_n 3, 1), (33, .iload_n 3, 1), (34, .bipush 14, 2), (36, .if_icmp .ge 32, 3), (39, .aload_n 0, 1), (40, .getfield 125, 3), (43, .iload_n 3, 1), (44, .aload_n 0, 1), (45, .iload_n 3, 1), (46, .invokevirtual 146, 3), (49, .ifCond .eq 11, 3), (52, .aload_n 0, 1), (53, .iload_n 3, 1), (54, .invokevirtual 376, 3), (57, .goto 4, 3), (60, .iconst 0, 1), (61, .iastore, 1), (62, .iinc 3 1, 3), (65, .goto (-32), 3), (68, .iconst (-1), 1), (69, .istore_n 3, 1), (70, .iconst 0, 1), (71, .istore 4, 2), (73, .iconst 0, 1), (74, .istore 5, 2), (76, .iload 5, 2), (78, .sipush 16384, 3), (81, .if_icmp .ge 100, 3), (84, .iload 5, 2), (86, .aload_n 0, 1), (87, .getfield 135, 3), (90, .iconst (-1), 1), (91, .ixor, 1), (92, .iand, 1), (93, .ifCond .ne 82, 3), (96, .iload 5, 2), (98, .invokestatic 348, 3), (101, .iload_n 1, 1), (102, .if_icmp .eq 6, 3), (105, .goto 70, 3), (108, .iconst 0, 1), (109, .istore 6, 2), (111, .iconst 0, 1), (112, .istore 7, 2), (114, .iload 7, 2), (116, .bipush 14, 2), (118, .if_icmp .ge 35, 3), (121, .iload 6, 2), (123, .iload 5, 2), (125, .iload 7, 2), (127, .invokestatic 139, 3), (130, .ifCond .eq 13, 3), (133, .aload_n 0, 1), (134, .getfield 125, 3), (137, .iload 7, 2), (139, .iaload, 1), (140, .goto 4, 3), (143, .iconst 0, 1), (144, .iadd, 1), (145, .istore 6, 2), (147, .iinc 7 1, 3), (150, .goto (-36), 3), (153, .iload_n 3, 1), (154, .iconst (-1), 1), (155, .if_icmp .eq 13, 3), (158, .iload 6, 2), (160, .iload 4, 2), (162, .if_icmp .gt 6, 3), (165, .goto 10, 3), (168, .iload 5, 2), (170, .istore_n 3, 1), (171, .iload 6, 2), (173, .istore 4, 2), (175, .iinc 5 1, 3), (178, .goto (-102), 3), (181, .iload_n 2, 1), (182, .ifCond .ne 8, 3), (185, .iload 4, 2), (187, .goto 4, 3), (190, .iload_n 3, 1), (191, .ireturn, 1)] := Tab.of (by decide +kernel)
set_option maxRecDepth 100000 in
theorem T_X12_longestBy : Tab cX12_longestBy [(0, .iload_n 1, 1), (1, .istore 4, 2), (3, .iconst 0, 1), (4, .istore 5, 2), (6, .iload 5, 2), (8, .iload_n 3, 1), (9, .if_icmp .ge 17, 3), (12, .aload_n 0, 1), (13, .getfield 128, 3), (16, .iload 5, 2), (18, .iconst 0, 1), (19, .iastore, 1), (20, .iinc 5 1, 3), (23, .goto (-17), 3), (26, .iload_n 2, 1), (27, .iconst 1, 1), (28, .isub, 1), (29, .istore 5, 2), (31, .iload 5, 2), (33, .ifCond .lt 62, 3), (36, .aload_n 0, 1), (37, .getfield 116, 3), (40, .iload 5, 2), (42, .iload 4, 2), (44, .iload_n 3, 1), (45, .irem, 1), (46, .iastore, 1), (47, .iload 4, 2), (49, .iload_n 3, 1), (50, .idiv, 1), (51, .istore 4, 2), (53, .aload_n 0, 1), (54, .getfield 128, 3), (57, .aload_n 0, 1), (58, .getfield 116, 3), (61, .iload 5, 2), (63, .iaload, 1), (64, .aload_n 0, 1), (65, .getfield 128, 3), (68, .aload_n 0, 1), (69, .getfield 116, 3), (72, .iload 5, 2), (74, .iaload, 1), (75, .iaload, 1), (76, .aload_n 0, 1), (77, .getfield 46, 3), (80, .iload 5, 2), (82, .baload, 1), (83, .sipush 255, 3), (86, .iand, 1), (87, .iadd, 1), (88, .iastore, 1), (89, .iinc 5 (-1), 3), (92, .goto (-61), 3), (95, .iconst 0, 1), (96, .istore 5, 2), (98, .iconst 0, 1), (99, .istore 6, 2), (101, .iload 6, 2), (103, .iload_n 3, 1), (104, .if_icmp .ge 23, 3), (107, .iload 5, 2), (109, .aload_n 0, 1), (110, .getfield 128, 3), (113, .iload 6, 2), (115, .iaload, 1), (116, .invokestatic 363, 3), (119, .istore 5, 2), (121, .iinc 6 1, 3), (124, .goto (-23), 3), (127, .iload 5, 2), (129, .ireturn, 1)] := Tab.of (by decide +kernel)
set_option maxRecDepth 100000 in
theorem T_X12_jobs : Tab cX12_jobs [(0, .iload_n 1, 1), (1, .iconst 1, 1), (2, .bipush 8, 2), (4, .invokestatic 155, 3), (7, .ifCond .eq 11, 3), (10, .iload_n 1, 1), (11, .aload_n 0, 1), (12, .getfield 159, 3), (15, .if_icmp .le 5, 3), (18, .iconst (-1), 1), (19, .ireturn, 1), (20, .aload_n 0, 1), (21, .iconst 0, 1), (22, .putfield 159, 3), (25, .iload_n 2, 1), (26, .iconst 1, 1), (27, .iconst 3, 1), (28, .invokestatic 155, 3), (31, .ifCond .eq 20, 3), (34, .iload_n 3, 1), (35, .bipush 10, 2), (37, .if_icmp .eq 17, 3), (40, .iload_n 3, 1), (41, .iconst 0, 1), (42, .iload_n 1, 1), (43, .iconst 1, 1), (44, .isub, 1), (45, .invokestatic 155, 3), (48, .ifCond .ne 6, 3), (51, .bipush (-4), 2), (53, .ireturn, 1), (54, .iconst (-1), 1), (55, .istore 4, 2), (57, .ldc 150, 2), (59, .istore 5, 2), (61, .iconst 0, 1), (62, .istore 6, 2), (64, .iload 6, 2), (66, .iload_n 2, 1), (67, .iload_n 1, 1), (68, .invokestatic 354, 3), (71, .if_icmp .ge 37, 3), (74, .aload_n 0, 1), (75, .iload 6, 2), (77, .iload_n 1, 1), (78, .iload_n 2, 1), (79, .invokevirtual 379, 3), (82, .istore 7, 2), (84, .iload 7, 2), (86, .iload 5, 2), (88, .if_icmp .lt 6, 3), (91, .goto 11, 3), (94, .iload 7, 2), (96, .istore 5, 2), (98, .iload 6, 2), (100, .istore 4, 2), (102, .iinc 6 1, 3), (105, .goto (-41), 3), (108, .iload_n 3, 1), (109, .bipush 10, 2), (111, .if_icmp .ne 6, 3), (114, .iload 5, 2), (116, .ireturn, 1), (117, .aload_n 0, 1), (118, .iload 4, 2), (120, .iload_n 1, 1), (121, .iload_n 2, 1), (122, .invokevirtual 379, 3), (125, .pop, 1), (126, .aload_n 0, 1), (127, .getfield 116, 3), (130, .iload_n 3, 1), (131, .iaload, 1), (132, .ireturn, 1)] := Tab.of (by decide +kernel)
set_option maxRecDepth 100000 in
theorem T_X12_load : Tab cX12_load [(0, .iload_n 1, 1), (1, .iconst 1, 1), (2, .bipush 8, 2), (4, .invokestatic 155, 3), (7, .ifCond .eq 33, 3), (10, .iload_n 2, 1), (11, .iconst 0, 1), (12, .sipush 999, 3), (15, .invokestatic 155, 3), (18, .ifCond .eq 22, 3), (21, .iload_n 3, 1), (22, .iconst 0, 1), (23, .iconst 1, 1), (24, .invokestatic 155, 3), (27, .ifCond .eq 13, 3), (30, .iconst 2, 1), (31, .iload_n 1, 1), (32, .imul, 1), (33, .aload_n 0, 1), (34, .getfield 159, 3), (37, .if_icmp .le 5, 3), (40, .iconst (-1), 1), (41, .ireturn, 1), (42, .aload_n 0, 1), (43, .iconst 0, 1), (44, .putfield 159, 3), (47, .bipush (-2), 2), (49, .istore 4, 2), (51, .bipush (-2), 2), (53, .istore 5, 2), (55, .iconst 0, 1), (56, .istore 6, 2), (58, .iload 6, 2), (60, .iconst 1, 1), (61, .iload_n 1, 1), (62, .ishl, 1), (63, .if_icmp .ge 120, 3), (66, .iconst 0, 1), (67, .istore 7, 2), (69, .iconst 0, 1), (70, .istore 8, 2), (72, .iconst 0, 1), (73, .istore 9, 2), (75, .iload 9, 2), (77, .iload_n 1, 1), (78, .if_icmp .ge 75, 3), (81, .iload 7, 2), (83, .iload 6, 2), (85, .iload 9, 2), (87, .invokestatic 139, 3), (90, .ifCond .eq 19, 3), (93, .aload_n 0, 1), (94, .getfield 46, 3), (97, .iconst 2, 1), (98, .iload 9, 2), (100, .imul, 1), (101, .baload, 1), (102, .sipush 255, 3), (105, .iand, 1), (106, .goto 4, 3), (109, .iconst 0, 1), (110, .iadd, 1), (111, .istore 7, 2), (113, .iload 8, 2), (115, .iload 6, 2), (117, .iload 9, 2), (119, .invokestatic 139, 3), (122, .ifCond .eq 21, 3), (125, .aload_n 0, 1), (126, .getfield 46, 3), (129, .iconst 2, 1), (130, .iload 9, 2), (132, .imul, 1), (133, .iconst 1, 1), (134, .iadd, 1), (135, .baload, 1), (136, .sipush 255, 3), (139, .iand, 1), (140, .goto 4, 3), (143, .iconst 0, 1), (144, .iadd, 1), (145, .istore 8, 2), (147, .iinc 9 1, 3), (150, .goto (-75), 3), (153, .iload 7, 2), (155, .iload_n 2, 1), (156, .if_icmp .ne 21, 3), (159, .iload 8, 2), (161, .iload 5, 2), (163, .if_icmp .gt 6, 3), (166, .goto 11, 3), (169, .iload 8, 2), (171, .istore 5, 2), (173, .iload 6, 2), (175, .istore 4, 2), (177, .iinc 6 1, 3), (180, .goto (-122), 3), (183, .iload_n 3, 1), (184, .ifCond .ne 8, 3), (187, .iload 5, 2), (189, .goto 5, 3), (192, .iload 4, 2), (194, .ireturn, 1)] := Tab.of (by decide +kernel)
set_option maxRecDepth 100000 in
theorem T_X12_missingBy : Tab cX12_missingBy [(0, .iconst 0, 1), (1, .istore_n 2, 1), (2, .iconst 0, 1), (3, .istore_n 3, 1), (4, .iload_n 3, 1), (5, .iload_n 1, 1), (6, .if_icmp .ge 45, 3), (9, .iload_n 2, 1), (10, .iconst 0, 1), (11, .aload_n 0, 1), (12, .getfield 46, 3), (15, .iload_n 3, 1), (16, .baload, 1), (17, .sipush 255, 3), (20, .iand, 1), (21, .aload_n 0, 1), (22, .getfield 25, 3), (25, .aload_n 0, 1), (26, .getfield 46, 3), (29, .iload_n 1, 1), (30, .aload_n 0, 1), (31, .getfield 116, 3), (34, .iload_n 3, 1), (35, .iaload, 1), (36, .iadd, 1), (37, .baload, 1), (38, .iaload, 1), (39, .isub, 1), (40, .invokestatic 363, 3), (43, .iadd, 1), (44, .istore_n 2, 1), (45, .iinc 3 1, 3), (48, .goto (-44), 3), (51, .iload_n 2, 1), (52, .ireturn, 1)] := Tab.of (by decide +kernel)
set_option maxRecDepth 100000 in
theorem T_X12_brides : Tab cX12_brides [(0, .iload_n 1, 1), (1, .iconst 1, 1), (2, .bipush 6, 2), (4, .invokestatic 155, 3), (7, .ifCond .eq 13, 3), (10, .iconst 2, 1), (11, .iload_n 1, 1), (12, .imul, 1), (13, .aload_n 0, 1), (14, .getfield 159, 3), (17, .if_icmp .le 5, 3), (20, .iconst (-1), 1), (21, .ireturn, 1), (22, .aload_n 0, 1), (23, .iconst 0, 1), (24, .putfield 159, 3), (27, .iconst 0, 1), (28, .istore_n 3, 1), (29, .iconst 0, 1), (30, .istore 4, 2), (32, .iload 4, 2), (34, .iload_n 1, 1), (35, .if_icmp .ge 58, 3), (38, .aload_n 0, 1), (39, .aload_n 0, 1), (40, .getfield 46, 3), (43, .iload_n 1, 1), (44, .iload 4, 2), (46, .iadd, 1), (47, .baload, 1), (48, .invokevirtual 146, 3), (51, .ifCond .eq 19, 3), (54, .iload_n 3, 1), (55, .aload_n 0, 1), (56, .getfield 46, 3), (59, .iload_n 1, 1), (60, .iload 4, 2), (62, .iadd, 1), (63, .baload, 1), (64, .invokestatic 139, 3), (67, .ifCond .eq 6, 3), (70, .bipush (-2), 2), (72, .ireturn, 1), (73, .iload_n 3, 1), (74, .iconst 1, 1), (75, .aload_n 0, 1), (76, .getfield 46, 3), (79, .iload_n 1, 1), (80, .iload 4, 2), (82, .iadd, 1), (83, .baload, 1), (84, .ishl, 1), (85, .ior, 1), (86, .istore_n 3, 1), (87, .iinc 4 1, 3), (90, .goto (-58), 3), (93, .iload_n 2, 1), (94, .bipush 10, 2), (96, .if_icmp .eq 17, 3), (99, .iload_n 2, 1), (100, .iconst 0, 1), (101, .iload_n 1, 1), (102, .iconst 1, 1), (103, .isub, 1), (104, .invokestatic 155, 3), (107, .ifCond .ne 6, 3), (110, .bipush (-4), 2), (112, .ireturn, 1), (113, .iconst (-1), 1), (114, .istore 4, 2), (116, .ldc 150, 2), (118, .istore 5, 2), (120, .iconst 0, 1), (121, .istore 6, 2), (123, .iload 6, 2), (125, .iload_n 1, 1), (126, .iload_n 1, 1), (127, .invokestatic 354, 3), (130, .if_icmp .ge 43, 3), (133, .aload_n 0, 1), (134, .iload 6, 2), (136, .iload_n 1, 1), (137, .invokevirtual 357, 3), (140, .ifCond .eq 27, 3), (143, .aload_n 0, 1), (144, .iload_n 1, 1), (145, .invokevirtual 382, 3), (148, .iload 5, 2), (150, .if_icmp .lt 6, 3), (153, .goto 14, 3), (156, .aload_n 0, 1), (157, .iload_n 1, 1), (158, .invokevirtual 382, 3), (161, .istore 5, 2), (163, .iload 6, 2), (165, .istore 4, 2), (167, .iinc 6 1, 3), (170, .goto (-47), 3), (173, .iload_n 2, 1), (174, .bipush 10, 2), (176, .if_icmp .ne 6, 3), (179, .iload 5, 2), (181, .ireturn, 1), (182, .aload_n 0, 1), (183, .iload 4, 2), (185, .iload_n 1, 1), (186, .invokevirtual 357, 3), (189, .pop, 1), (190, .aload_n 0, 1), (191, .getfield 46, 3), (194, .iload_n 1, 1), (195, .aload_n 0, 1), (196, .getfield 116, 3), (199, .iload_n 2, 1), (200, .iaload, 1), (201, .iadd, 1), (202, .baload, 1), (203, .ireturn, 1)] := Tab.of (by decide +kernel)
set_option maxRecDepth 100000 in
theorem T_X12_thieves : Tab cX12_thieves [(0, .iload_n 1, 1), (1, .iconst 1, 1), (2, .bipush 10, 2), (4, .invokestatic 155, 3), (7, .ifCond .eq 31, 3), (10, .iload_n 2, 1), (11, .iconst 0, 1), (12, .sipush 2550, 3), (15, .invokestatic 155, 3), (18, .ifCond .eq 20, 3), (21, .iload_n 3, 1), (22, .iconst 0, 1), (23, .iconst 2, 1), (24, .invokestatic 155, 3), (27, .ifCond .eq 11, 3), (30, .iload_n 1, 1), (31, .aload_n 0, 1), (32, .getfield 159, 3), (35, .if_icmp .le 5, 3), (38, .iconst (-1), 1), (39, .ireturn, 1), (40, .aload_n 0, 1), (41, .iconst 0, 1), (42, .putfield 159, 3), (45, .iconst 0, 1), (46, .istore 4, 2), (48, .bipush (-2), 2), (50, .istore 5, 2), (52, .sipush 1023, 3), (55, .istore 6, 2), (57, .iconst 0, 1), (58, .istore 7, 2), (60, .iload 7, 2), (62, .iconst 1, 1), (63, .iload_n 1, 1), (64, .ishl, 1), (65, .if_icmp .ge 93, 3), (68, .iconst 0, 1), (69, .istore 8, 2), (71, .iconst 0, 1), (72, .istore 9, 2), (74, .iload 9, 2), (76, .iload_n 1, 1), (77, .if_icmp .ge 39, 3), (80, .iload 8, 2), (82, .iload 7, 2), (84, .iload 9, 2), (86, .invokestatic 139, 3), (89, .ifCond .eq 17, 3), (92, .aload_n 0, 1), (93, .getfield 46, 3), (96, .iload 9, 2), (98, .baload, 1), (99, .sipush 255, 3), (102, .iand, 1), (103, .goto 4, 3), (106, .iconst 0, 1), (107, .iadd, 1), (108, .istore 8, 2), (110, .iinc 9 1, 3), (113, .goto (-39), 3), (116, .iload 8, 2), (118, .iload_n 2, 1), (119, .if_icmp .eq 6, 3), (122, .goto 30, 3), (125, .iload 4, 2), (127, .ifCond .ne 8, 3), (130, .iload 7, 2), (132, .goto 5, 3), (135, .iload 5, 2), (137, .istore 5, 2), (139, .iload 4, 2), (141, .iconst 1, 1), (142, .iadd, 1), (143, .istore 4, 2), (145, .iload 6, 2), (147, .iload 7, 2), (149, .iand, 1), (150, .istore 6, 2), (152, .iinc 7 1, 3), (155, .goto (-95), 3), (158, .iload_n 3, 1), (159, .ifCond .ne 8, 3), (162, .iload 4, 2), (164, .goto 20, 3), (167, .iload 4, 2), (169, .ifCond .eq 8, 3), (172, .iload_n 3, 1), (173, .iconst 1, 1), (174, .if_icmp .ne 8, 3), (177, .iload 5, 2), (179, .goto 5, 3), (182, .iload 6, 2), (184, .ireturn, 1)] := Tab.of (by decide +kernel)
set_option maxRecDepth 100000 in
theorem T_X12_latest : Tab cX12_latest [(0, .iload_n 1, 1), (1, .iconst 1, 1), (2, .bipush 6, 2), (4, .invokestatic 155, 3), (7, .ifCond .eq 13, 3), (10, .iconst 3, 1), (11, .iload_n 1, 1), (12, .imul, 1), (13, .aload_n 0, 1), (14, .getfield 159, 3), (17, .if_icmp .le 5, 3), (20, .iconst (-1), 1), (21, .ireturn, 1), (22, .aload_n 0, 1), (23, .iconst 0, 1), (24, .putfield 159, 3), (27, .iconst 0, 1), (28, .istore_n 2, 1), (29, .iload_n 2, 1), (30, .iload_n 1, 1), (31, .if_icmp .ge 27, 3), (34, .aload_n 0, 1), (35, .aload_n 0, 1), (36, .getfield 46, 3), (39, .iconst 3, 1), (40, .iload_n 2, 1), (41, .imul, 1), (42, .baload, 1), (43, .invokevirtual 146, 3), (46, .ifCond .ne 6, 3), (49, .bipush (-3), 2), (51, .ireturn, 1), (52, .iinc 2 1, 3), (55, .goto (-26), 3), (58, .iconst 0, 1), (59, .istore_n 2, 1), (60, .iconst 0, 1), (61, .istore_n 3, 1), (62, .ldc 150, 2), (64, .istore 4, 2), (66, .iconst 0, 1), (67, .istore 5, 2), (69, .iload 5, 2), (71, .iload_n 1, 1), (72, .if_icmp .ge 92, 3), (75, .aload_n 0, 1), (76, .getfield 46, 3), (79, .iconst 3, 1), (80, .iload 5, 2), (82, .imul, 1), (83, .baload, 1), (84, .istore 6, 2), (86, .aload_n 0, 1), (87, .iload_n 2, 1), (88, .iload 6, 2), (90, .invokevirtual 293, 3), (93, .ldc 150, 2), (95, .if_icmp .lt 6, 3), (98, .bipush (-2), 2), (100, .ireturn, 1), (101, .iload_n 3, 1), (102, .aload_n 0, 1), (103, .iload_n 2, 1), (104, .iload 6, 2), (106, .invokevirtual 293, 3), (109, .iadd, 1), (110, .istore_n 3, 1), (111, .iload 4, 2), (113, .aload_n 0, 1), (114, .getfield 46, 3), (117, .iconst 3, 1), (118, .iload 5, 2), (120, .imul, 1), (121, .iconst 1, 1), (122, .iadd, 1), (123, .baload, 1), (124, .sipush 255, 3), (127, .iand, 1), (128, .sipush 256, 3), (131, .imul, 1), (132, .aload_n 0, 1), (133, .getfield 46, 3), (136, .iconst 3, 1), (137, .iload 5, 2), (139, .imul, 1), (140, .iconst 2, 1), (141, .iadd, 1), (142, .baload, 1), (143, .sipush 255, 3), (146, .iand, 1), (147, .iadd, 1), (148, .iload_n 3, 1), (149, .isub, 1), (150, .invokestatic 151, 3), (153, .istore 4, 2), (155, .iload 6, 2), (157, .istore_n 2, 1), (158, .iinc 5 1, 3), (161, .goto (-92), 3), (164, .iload 4, 2), (166, .ifCond .ge 8, 3), (169, .bipush (-2), 2), (171, .goto 5, 3), (174, .iload 4, 2), (176, .ireturn, 1)] := Tab.of (by decide +kernel)
set_option maxRecDepth 100000 in
theorem T_X12_keep : Tab cX12_keep [(0, .aload_n 0, 1), (1, .iconst 1, 1), (2, .putfield 385, 3), (5, .aload_n 0, 1), (6, .getfield 7, 3), (9, .aload_n 0, 1), (10, .getfield 16, 3), (13, .invokestatic 335, 3), (16, .aload_n 0, 1), (17, .invokevirtual 332, 3), (20, .ireturn, 1)] := Tab.of (by decide +kernel)
set_option maxRecDepth 100000 in
theorem T_X12_undo : Tab cX12_undo [(0, .aload_n 0, 1), (1, .getfield 385, 3), (4, .ifCond .ne 5, 3), (7, .iconst 0, 1), (8, .ireturn, 1), (9, .aload_n 0, 1), (10, .getfield 16, 3), (13, .aload_n 0, 1), (14, .getfield 7, 3), (17, .invokestatic 335, 3), (20, .iconst 1, 1), (21, .ireturn, 1)] := Tab.of (by decide +kernel)
set_option maxRecDepth 100000 in
theorem T_X12_check : Tab cX12_check [(0, .iload_n 1, 1), (1, .iconst 0, 1), (2, .bipush 14, 2), (4, .invokestatic 155, 3), (7, .ifCond .eq 13, 3), (10, .iconst 2, 1), (11, .iload_n 1, 1), (12, .imul, 1), (13, .aload_n 0, 1), (14, .getfield 159, 3), (17, .if_icmp .le 6, 3), (20, .bipush (-2), 2), (22, .ireturn, 1), (23, .aload_n 0, 1), (24, .iconst 0, 1), (25, .putfield 159, 3), (28, .iconst 0, 1), (29, .istore_n 2, 1), (30, .iload_n 2, 1), (31, .iload_n 1, 1), (32, .if_icmp .ge 65, 3), (35, .aload_n 0, 1), (36, .getfield 46, 3), (39, .iconst 2, 1), (40, .iload_n 2, 1), (41, .imul, 1), (42, .baload, 1), (43, .sipush 255, 3), (46, .iand, 1), (47, .sipush 256, 3), (50, .imul, 1), (51, .aload_n 0, 1), (52, .getfield 46, 3), (55, .iconst 2, 1), (56, .iload_n 2, 1), (57, .imul, 1), (58, .iconst 1, 1), (59, .iadd, 1), (60, .baload, 1), (61, .sipush 255, 3), (64, .iand, 1), (65, .iadd, 1), (66, .aload_n 0, 1), (67, .iload_n 2, 1), (68, .invokevirtual 146, 3), (71, .ifCond .eq 14, 3), (74, .aload_n 0, 1), (75, .getfield 7, 3), (78, .iconst 0, 1), (79, .iload_n 2, 1), (80, .iadd, 1), (81, .iaload, 1), (82, .goto 4, 3), (85, .iconst 0, 1), (86, .if_icmp .eq 5, 3), (89, .iload_n 2, 1), (90, .ireturn, 1), (91, .iinc 2 1, 3), (94, .goto (-64), 3), (97, .iconst (-1), 1), (98, .ireturn, 1)] := Tab.of (by decide +kernel)
set_option maxRecDepth 100000 in
theorem T_X12_roadMany : Tab cX12_roadMany [(0, .iconst 0, 1), (1, .istore_n 1, 1), (2, .iconst 0, 1), (3, .istore_n 2, 1), (4, .iload_n 2, 1), (5, .bipush 14, 2), (7, .if_icmp .ge 44, 3), (10, .iconst 0, 1), (11, .istore_n 3, 1), (12, .iload_n 3, 1), (13, .iload_n 2, 1), (14, .if_icmp .ge 31, 3), (17, .iload_n 1, 1), (18, .aload_n 0, 1), (19, .getfield 28, 3), (22, .bipush 14, 2), (24, .iload_n 2, 1), (25, .imul, 1), (26, .iload_n 3, 1), (27, .iadd, 1), (28, .iaload, 1), (29, .ifCond .le 7, 3), (32, .iconst 1, 1), (33, .goto 4, 3), (36, .iconst 0, 1), (37, .iadd, 1), (38, .istore_n 1, 1), (39, .iinc 3 1, 3), (42, .goto (-30), 3), (45, .iinc 2 1, 3), (48, .goto (-44), 3), (51, .iload_n 1, 1), (52, .ireturn, 1)] := Tab.of (by decide +kernel)
set_option maxRecDepth 100000 in
theorem T_X12_streetIs : Tab cX12_streetIs [(0, .aload_n 0, 1), (1, .iload_n 1, 1), (2, .invokevirtual 146, 3), (5, .ifCond .ne 5, 3), (8, .iconst (-1), 1), (9, .ireturn, 1), (10, .iload_n 2, 1), (11, .tableswitch 46 0 2 #[25, 32, 39], 25), (36, .aload_n 0, 1), (37, .getfield 19, 3), (40, .iload_n 1, 1), (41, .iaload, 1), (42, .ireturn, 1), (43, .aload_n 0, 1), (44, .getfield 22, 3), (47, .iload_n 1, 1), (48, .iaload, 1), (49, .ireturn, 1), (50, .aload_n 0, 1), (51, .getfield 25, 3), (54, .iload_n 1, 1), (55, .iaload, 1), (56, .ireturn, 1), (57, .aload_n 0, 1), (58, .getfield 7, 3), (61, .iconst 0, 1), (62, .iload_n 1, 1), (63, .iadd, 1), (64, .iaload, 1), (65, .ireturn, 1)] := Tab.of (by decide +kernel)
set_option maxRecDepth 100000 in
theorem T_X12_count : Tab cX12_count [(0, .iload_n 1, 1), (1, .tableswitch 96 0 7 #[47, 55, 63, 71, 76, 81, 86, 91], 47), (48, .aload_n 0, 1), (49, .getfield 7, 3), (52, .bipush 14, 2), (54, .iaload, 1), (55, .ireturn, 1), (56, .aload_n 0, 1), (57, .getfield 7, 3), (60, .bipush 15, 2), (62, .iaload, 1), (63, .ireturn, 1), (64, .aload_n 0, 1), (65, .getfield 7, 3), (68, .bipush 16, 2), (70, .iaload, 1), (71, .ireturn, 1), (72, .aload_n 0, 1), (73, .getfield 135, 3), (76, .ireturn, 1), (77, .aload_n 0, 1), (78, .getfield 143, 3), (81, .ireturn, 1), (82, .aload_n 0, 1), (83, .getfield 258, 3), (86, .ireturn, 1), (87, .aload_n 0, 1), (88, .getfield 159, 3), (91, .ireturn, 1), (92, .aload_n 0, 1), (93, .invokevirtual 389, 3), (96, .ireturn, 1), (97, .iload_n 1, 1), (98, .bipush 10, 2), (100, .bipush 89, 2), (102, .invokestatic 155, 3), (105, .ifCond .eq 22, 3), (108, .aload_n 0, 1), (109, .iload_n 1, 1), (110, .bipush 10, 2), (112, .isub, 1), (113, .bipush 20, 2), (115, .irem, 1), (116, .iload_n 1, 1), (117, .bipush 10, 2), (119, .isub, 1), (120, .bipush 20, 2), (122, .idiv, 1), (123, .invokevirtual 392, 3), (126, .ireturn, 1), (127, .iload_n 1, 1), (128, .bipush 90, 2), (130, .bipush 94, 2), (132, .invokestatic 155, 3), (135, .ifCond .eq 24, 3), (138, .aload_n 0, 1), (139, .iload_n 1, 1), (140, .bipush 90, 2), (142, .isub, 1), (143, .invokevirtual 317, 3), (146, .ifCond .eq 13, 3), (149, .aload_n 0, 1), (150, .getfield 34, 3), (153, .iload_n 1, 1), (154, .bipush 90, 2), (156, .isub, 1), (157, .iaload, 1), (158, .ireturn, 1), (159, .iload_n 1, 1), (160, .bipush 100, 2), (162, .bipush 104, 2), (164, .invokestatic 155, 3), (167, .ifCond .eq 15, 3), (170, .aload_n 0, 1), (171, .getfield 37, 3), (174, .iload_n 1, 1), (175, .bipush 100, 2), (177, .isub, 1), (178, .iaload, 1), (179, .goto 4, 3), (182, .iconst (-1), 1), (183, .ireturn, 1)] := Tab.of (by decide +kernel)
set_option maxRecDepth 100000 in
theorem T_J6_bitCount_0f7a4 : Tab cJ6_bitCount_0f7a4 [(0, .iload_n 0, 1), (1, .iload_n 0, 1), (2, .iconst 1, 1), (3, .iushr, 1), (4, .ldc_w 265, 3), (7, .iand, 1), (8, .isub, 1), (9, .istore_n 0, 1), (10, .iload_n 0, 1), (11, .ldc_w 266, 3), (14, .iand, 1), (15, .iload_n 0, 1), (16, .iconst 2, 1), (17, .iushr, 1), (18, .ldc_w 266, 3), (21, .iand, 1), (22, .iadd, 1), (23, .istore_n 0, 1), (24, .iload_n 0, 1), (25, .iload_n 0, 1), (26, .iconst 4, 1), (27, .iushr, 1), (28, .iadd, 1), (29, .ldc_w 267, 3), (32, .iand, 1), (33, .istore_n 0, 1), (34, .iload_n 0, 1), (35, .iload_n 0, 1), (36, .bipush 8, 2), (38, .iushr, 1), (39, .iadd, 1), (40, .istore_n 0, 1), (41, .iload_n 0, 1), (42, .iload_n 0, 1), (43, .bipush 16, 2), (45, .iushr, 1), (46, .iadd, 1), (47, .istore_n 0, 1), (48, .iload_n 0, 1), (49, .bipush 63, 2), (51, .iand, 1), (52, .ireturn, 1)] := Tab.of (by decide +kernel)
end
section
/-! WORDS IN WHICH THE METHODS ARE TOLD AS FUNCTIONS, AND WHAT A WALK NEEDS OF THEM -/
def bnd {α β : Type} (x : α) (f : α → Option β) : Option β := f x
def grd {β : Type} (c : Prop) [Decidable c] (x : Option β) : Option β := if c then x else none
def bd {α β : Type} (x : Option (α × Hp)) (f : α → Hp → Option β) : Option β := x.bind fun q => f q.1 q.2
def bv {β : Type} (x : Option Hp) (f : Hp → Option β) : Option β := x.bind f
theorem grd_some {β : Type} {c : Prop} [Decidable c] {x : Option β} {r : β} (H : grd c x = some r) : c ∧ x = some r := by
  unfold grd at H
  split at H
  · exact ⟨by assumption, H⟩
  · cases H
theorem bd_some {α β : Type} {x : Option (α × Hp)} {f : α → Hp → Option β} {r : β} (H : bd x f = some r) : ∃ (a : α) (h : Hp), x = some (a, h) ∧ f a h = some r := by
  unfold bd at H
  cases x with
  | none => cases H
  | some q => exact ⟨q.1, q.2, rfl, H⟩
theorem bv_some {β : Type} {x : Option Hp} {f : Hp → Option β} {r : β} (H : bv x f = some r) : ∃ h : Hp, x = some h ∧ f h = some r := by
  unfold bv at H
  cases x with
  | none => cases H
  | some q => exact ⟨q, rfl, H⟩
theorem ite_p {β : Type} {c : Prop} [Decidable c] {a b r : β} (hc : c) (H : (if c then a else b) = r) : a = r := by rwa [if_pos hc] at H
theorem ite_n {β : Type} {c : Prop} [Decidable c] {a b r : β} (hc : ¬ c) (H : (if c then a else b) = r) : b = r := by rwa [if_neg hc] at H
def Qi (res : Int × Hp) : Option PV → Hp → Prop := fun r h => r = some (.inl res.1) ∧ h = res.2
def Qr (res : Nat × Hp) : Option PV → Hp → Prop := fun r h => r = some (.inr res.1) ∧ h = res.2
def Qv (res : Hp) : Option PV → Hp → Prop := fun r h => r = none ∧ h = res
theorem qi_of {v : Int} {h : Hp} {res : Int × Hp} (H : some (v, h) = some res) : Qi res (some (.inl v)) h := by cases H; exact ⟨rfl, rfl⟩
theorem qr_of {v : Nat} {h : Hp} {res : Nat × Hp} (H : some (v, h) = some res) : Qr res (some (.inr v)) h := by cases H; exact ⟨rfl, rfl⟩
theorem qv_of {h : Hp} {res : Hp} (H : some h = some res) : Qv res none h := by cases H; exact ⟨rfl, rfl⟩
def isRf : FieldType → Bool
  | .int => false
  | .boolean => false
  | _ => true
theorem nR {ty : FieldType} (h : isRf ty = true) : ¬ ty = .int ∧ ¬ ty = .boolean := ⟨fun q => by (rw [q] at h; cases h), fun q => by (rw [q] at h; cases h)⟩
def wk : List (Option PV) → List Bool → List (Option PV)
  | [], _ => []
  | v :: l, [] => v :: l
  | v :: l, true :: m => v :: wk l m
  | _ :: l, false :: m => none :: wk l m
theorem wk_len : ∀ (l : List (Option PV)) (m : List Bool), (wk l m).length = l.length
  | [], _ => rfl
  | v :: l, [] => rfl
  | v :: l, true :: m => by simp [wk, wk_len l m]
  | v :: l, false :: m => by simp [wk, wk_len l m]
theorem wk_get : ∀ (l : List (Option PV)) (m : List Bool) (i : Nat) (v : PV), (wk l m)[i]? = some (some v) → l[i]? = some (some v)
  | [], _, i, v, h => by simp [wk] at h
  | w :: l, [], i, v, h => h
  | w :: l, true :: m, 0, v, h => h
  | w :: l, true :: m, i + 1, v, h => by
    simp only [wk, List.getElem?_cons_succ] at h ⊢
    exact wk_get l m i v h
  | w :: l, false :: m, 0, v, h => by simp [wk] at h
  | w :: l, false :: m, i + 1, v, h => by
    simp only [wk, List.getElem?_cons_succ] at h ⊢
    exact wk_get l m i v h
abbrev cartR (r : Nat) : Prop := r = 22 ∨ r = 26 ∨ r = 30 ∨ r = 34 ∨ r = 38 ∨ r = 54
abbrev refOK (r : Nat) : Prop := r = 0 ∨ cartR r
def isCart (t : Nat) : Prop := t ≤ 60 ∧ L0[t]? = some (.inl (0, [t + 2, t + 3, t + 4, 0, 0])) ∧ L0[t + 1]? = some (.inr (0, 16)) ∧ L0[t + 2]? = some (.inr (0, 16)) ∧ L0[t + 3]? = some (.inr (2, 16))
theorem cartR_spec {r : Nat} (h : cartR r) : ∃ t, r = t + 1 ∧ isCart t := by
  rcases h with rfl | rfl | rfl | rfl | rfl | rfl
  · exact ⟨21, rfl, by decide, rfl, rfl, rfl, rfl⟩
  · exact ⟨25, rfl, by decide, rfl, rfl, rfl, rfl⟩
  · exact ⟨29, rfl, by decide, rfl, rfl, rfl, rfl⟩
  · exact ⟨33, rfl, by decide, rfl, rfl, rfl, rfl⟩
  · exact ⟨37, rfl, by decide, rfl, rfl, rfl, rfl⟩
  · exact ⟨53, rfl, by decide, rfl, rfl, rfl, rfl⟩
theorem refOK_spec {r : Nat} (h : refOK r) : r = 0 ∨ ∃ q rs, r = q + 1 ∧ L0[q]? = some (.inl (0, rs)) := by
  rcases h with h | h
  · exact Or.inl h
  · obtain ⟨t, rfl, h1⟩ := cartR_spec h
    exact Or.inr ⟨t, _, rfl, h1.2.1⟩
theorem isCart53 : isCart 53 := ⟨by decide, rfl, rfl, rfl, rfl⟩
section DEC
variable {M : Mth} {d pc : Nat} {loc : List (Option PV)} {st : List PV} {h : Hp} {Q : Option PV → Hp → Prop}
theorem g_weak (mask : List Bool) (k : Go M d pc (wk loc mask) st h Q) : Go M d pc loc st h Q := by
  intro p l e R s m args below meth c b D cA k0 z H locs ls Z hcx hR hS hL hs hh hF
  exact k p l e R s m args below meth c b D cA k0 z H locs ls Z hcx hR hS ⟨hL.1, hL.2.1, by rw [wk_len]; exact hL.2.2.1, fun i v hi => hL.2.2.2 i v (wk_get _ _ _ _ hi)⟩ hs hh hF
theorem g_bndI {β : Type} {x : Int} {f : Int → Option β} {r : Option β} (H : bnd x f = r) (k : ∀ y, f y = r → Go M d pc loc (.inl y :: st) h Q) : Go M d pc loc (.inl x :: st) h Q := k x H
theorem g_bndR {β : Type} {x : Nat} {f : Nat → Option β} {r : Option β} (H : bnd x f = r) (k : ∀ y, f y = r → Go M d pc loc (.inr y :: st) h Q) : Go M d pc loc (.inr x :: st) h Q := k x H
theorem g_bndH {β : Type} {x : Hp} {f : Hp → Option β} {r : Option β} (H : bnd x f = r) (k : ∀ y, f y = r → Go M d pc loc st y Q) : Go M d pc loc st x Q := k x H
theorem g_iincB {β : Type} {i : Nat} {n x : Int} {f : Int → Option β} {r : Option β} (hdg : decode M.2.1 pc = .ok (.iinc i n, 3)) (hl : loc[i]? = some (some (.inl x))) (hi : i < M.2.2.1) (H : bnd (w32 (x + n)) f = r) (k : ∀ y, f y = r → Go M d (pc + 3) (loc.set i (some (.inl y))) st h Q) : Go M d pc loc st h Q := g_iinc hdg hl hi (k _ H)
theorem g_callVi {M' : Mth} {d' idx n : Nat} {av : List PV} {ci c : Nat} {rs : List Nat} {r : Int} {h1 : Hp} (hdg : decode M.2.1 pc = .ok (.invokevirtual idx, 3)) (hlk : Cond.methodLink M.1.cls idx M'.1 ∈ WS) (hcb : CBv M' ci n) (hc : L0[c]? = some (.inl (ci, rs))) (hn : av.length = n) (hst : st.length ≤ 8) (hd : d' + 1 ≤ d) (hrun : Runs M' d' (.inr (c + 1) :: av) h (Qi (r, h1))) (kk : Go M d (pc + 3) loc (.inl r :: st) h1 Q) : Go M d pc loc (av.reverse ++ .inr (c + 1) :: st) h Q :=
  g_callV hdg hlk hcb hc hn hst hd hrun (fun r h' hq => by obtain ⟨rfl, rfl⟩ := hq; exact kk)
theorem g_callVr {M' : Mth} {d' idx n : Nat} {av : List PV} {ci c : Nat} {rs : List Nat} {r : Nat} {h1 : Hp} (hdg : decode M.2.1 pc = .ok (.invokevirtual idx, 3)) (hlk : Cond.methodLink M.1.cls idx M'.1 ∈ WS) (hcb : CBv M' ci n) (hc : L0[c]? = some (.inl (ci, rs))) (hn : av.length = n) (hst : st.length ≤ 8) (hd : d' + 1 ≤ d) (hrun : Runs M' d' (.inr (c + 1) :: av) h (Qr (r, h1))) (kk : Go M d (pc + 3) loc (.inr r :: st) h1 Q) : Go M d pc loc (av.reverse ++ .inr (c + 1) :: st) h Q :=
  g_callV hdg hlk hcb hc hn hst hd hrun (fun r h' hq => by obtain ⟨rfl, rfl⟩ := hq; exact kk)
theorem g_callVv {M' : Mth} {d' idx n : Nat} {av : List PV} {ci c : Nat} {rs : List Nat} {h1 : Hp} (hdg : decode M.2.1 pc = .ok (.invokevirtual idx, 3)) (hlk : Cond.methodLink M.1.cls idx M'.1 ∈ WS) (hcb : CBv M' ci n) (hc : L0[c]? = some (.inl (ci, rs))) (hn : av.length = n) (hst : st.length ≤ 8) (hd : d' + 1 ≤ d) (hrun : Runs M' d' (.inr (c + 1) :: av) h (Qv h1)) (kk : Go M d (pc + 3) loc st h1 Q) : Go M d pc loc (av.reverse ++ .inr (c + 1) :: st) h Q :=
  g_callV hdg hlk hcb hc hn hst hd hrun (fun r h' hq => by obtain ⟨rfl, rfl⟩ := hq; exact kk)
theorem g_callSi {M' : Mth} {d' idx n : Nat} {av : List PV} {r : Int} {h1 : Hp} (hdg : decode M.2.1 pc = .ok (.invokestatic idx, 3)) (hlk : Cond.methodLink M.1.cls idx M'.1 ∈ WS) (hcb : CBs M' n) (hn : av.length = n) (hst : st.length ≤ 8) (hd : d' + 1 ≤ d) (hrun : Runs M' d' (av) h (Qi (r, h1))) (kk : Go M d (pc + 3) loc (.inl r :: st) h1 Q) : Go M d pc loc (av.reverse ++ st) h Q :=
  g_callS hdg hlk hcb hn hst hd hrun (fun r h' hq => by obtain ⟨rfl, rfl⟩ := hq; exact kk)
theorem g_callSr {M' : Mth} {d' idx n : Nat} {av : List PV} {r : Nat} {h1 : Hp} (hdg : decode M.2.1 pc = .ok (.invokestatic idx, 3)) (hlk : Cond.methodLink M.1.cls idx M'.1 ∈ WS) (hcb : CBs M' n) (hn : av.length = n) (hst : st.length ≤ 8) (hd : d' + 1 ≤ d) (hrun : Runs M' d' (av) h (Qr (r, h1))) (kk : Go M d (pc + 3) loc (.inr r :: st) h1 Q) : Go M d pc loc (av.reverse ++ st) h Q :=
  g_callS hdg hlk hcb hn hst hd hrun (fun r h' hq => by obtain ⟨rfl, rfl⟩ := hq; exact kk)
theorem g_callSv {M' : Mth} {d' idx n : Nat} {av : List PV} {h1 : Hp} (hdg : decode M.2.1 pc = .ok (.invokestatic idx, 3)) (hlk : Cond.methodLink M.1.cls idx M'.1 ∈ WS) (hcb : CBs M' n) (hn : av.length = n) (hst : st.length ≤ 8) (hd : d' + 1 ≤ d) (hrun : Runs M' d' (av) h (Qv h1)) (kk : Go M d (pc + 3) loc st h1 Q) : Go M d pc loc (av.reverse ++ st) h Q :=
  g_callS hdg hlk hcb hn hst hd hrun (fun r h' hq => by obtain ⟨rfl, rfl⟩ := hq; exact kk)
theorem g_callSNi {M' : Mth} {d' idx n : Nat} {av : List PV} {host : String} {r : Int} {h1 : Hp} (hdg : decode M.2.1 pc = .ok (.invokestatic idx, 3)) (hlk : Cond.methodLinkNest M.1.cls idx M'.1 host ∈ NW) (hcb : CBs M' n) (hn : av.length = n) (hst : st.length ≤ 8) (hd : d' + 1 ≤ d) (hrun : Runs M' d' (av) h (Qi (r, h1))) (kk : Go M d (pc + 3) loc (.inl r :: st) h1 Q) : Go M d pc loc (av.reverse ++ st) h Q :=
  g_callSN hdg hlk hcb hn hst hd hrun (fun r h' hq => by obtain ⟨rfl, rfl⟩ := hq; exact kk)
theorem g_callSNr {M' : Mth} {d' idx n : Nat} {av : List PV} {host : String} {r : Nat} {h1 : Hp} (hdg : decode M.2.1 pc = .ok (.invokestatic idx, 3)) (hlk : Cond.methodLinkNest M.1.cls idx M'.1 host ∈ NW) (hcb : CBs M' n) (hn : av.length = n) (hst : st.length ≤ 8) (hd : d' + 1 ≤ d) (hrun : Runs M' d' (av) h (Qr (r, h1))) (kk : Go M d (pc + 3) loc (.inr r :: st) h1 Q) : Go M d pc loc (av.reverse ++ st) h Q :=
  g_callSN hdg hlk hcb hn hst hd hrun (fun r h' hq => by obtain ⟨rfl, rfl⟩ := hq; exact kk)
theorem g_callSNv {M' : Mth} {d' idx n : Nat} {av : List PV} {host : String} {h1 : Hp} (hdg : decode M.2.1 pc = .ok (.invokestatic idx, 3)) (hlk : Cond.methodLinkNest M.1.cls idx M'.1 host ∈ NW) (hcb : CBs M' n) (hn : av.length = n) (hst : st.length ≤ 8) (hd : d' + 1 ≤ d) (hrun : Runs M' d' (av) h (Qv h1)) (kk : Go M d (pc + 3) loc st h1 Q) : Go M d pc loc (av.reverse ++ st) h Q :=
  g_callSN hdg hlk hcb hn hst hd hrun (fun r h' hq => by obtain ⟨rfl, rfl⟩ := hq; exact kk)
end DEC
end
section
/-! THE TEXT'S OWN METHODS: String.indexOf over the reader's constant. Words and tables by program -/
abbrev MS_ioI : Mth := (yJ0_indexOf_0f7a4, cJ0_indexOf_0f7a4, 2, some .int)
set_option maxRecDepth 100000 in
theorem TS_ioI : Tab cJ0_indexOf_0f7a4 [(0, .aload_n 0, 1), (1, .iload_n 1, 1), (2, .iconst 0, 1), (3, .invokevirtual 633, 3), (6, .ireturn, 1)] := Tab.of (by decide +kernel)
theorem cs_ioI : CB MS_ioI 1 ∧ Cond.instanceMethod MS_ioI.1 ∈ WS ∧ Cond.selects MS_ioI.1.cls MS_ioI.1 MS_ioI.1 ∈ WS := ⟨⟨(inB3 86 rfl rfl), (inB1 15 rfl rfl), by decide +kernel, by decide +kernel, by decide +kernel, by decide⟩, (inB3 84 rfl rfl), (inB3 85 rfl rfl)⟩
abbrev MS_ioII : Mth := (yJ0_indexOf_7cf53, cJ0_indexOf_7cf53, 3, some .int)
set_option maxRecDepth 100000 in
theorem TS_ioII : Tab cJ0_indexOf_7cf53 [(0, .aload_n 0, 1), (1, .invokevirtual 492, 3), (4, .ifCond .eq 19, 3), (7, .aload_n 0, 1), (8, .getfield 9, 3), (11, .iload_n 1, 1), (12, .iload_n 2, 1), (13, .aload_n 0, 1), (14, .invokevirtual 505, 3), (17, .invokestatic 637, 3), (20, .goto 16, 3), (23, .aload_n 0, 1), (24, .getfield 9, 3), (27, .iload_n 1, 1), (28, .iload_n 2, 1), (29, .aload_n 0, 1), (30, .invokevirtual 505, 3), (33, .invokestatic 640, 3), (36, .ireturn, 1)] := Tab.of (by decide +kernel)
theorem cs_ioII : CB MS_ioII 2 ∧ Cond.instanceMethod MS_ioII.1 ∈ WS ∧ Cond.selects MS_ioII.1.cls MS_ioII.1 MS_ioII.1 ∈ WS := ⟨⟨(inB3 90 rfl rfl), (inB1 15 rfl rfl), by decide +kernel, by decide +kernel, by decide +kernel, by decide⟩, (inB3 88 rfl rfl), (inB3 89 rfl rfl)⟩
abbrev MS_isL : Mth := (yJ0_isLatin1_aae02, cJ0_isLatin1_aae02, 1, some .boolean)
set_option maxRecDepth 100000 in
theorem TS_isL : Tab cJ0_isLatin1_aae02 [(0, .getstatic 38, 3), (3, .ifCond .eq 14, 3), (6, .aload_n 0, 1), (7, .getfield 15, 3), (10, .ifCond .ne 7, 3), (13, .iconst 1, 1), (14, .goto 4, 3), (17, .iconst 0, 1), (18, .ireturn, 1)] := Tab.of (by decide +kernel)
theorem cs_isL : CB MS_isL 0 ∧ Cond.instanceMethod MS_isL.1 ∈ WS ∧ Cond.selects MS_isL.1.cls MS_isL.1 MS_isL.1 ∈ WS := ⟨⟨(inB3 94 rfl rfl), (inB1 15 rfl rfl), by decide +kernel, by decide +kernel, by decide +kernel, by decide⟩, (inB3 92 rfl rfl), (inB3 93 rfl rfl)⟩
abbrev MS_len : Mth := (yJ0_length_8abf5, cJ0_length_8abf5, 1, some .int)
set_option maxRecDepth 100000 in
theorem TS_len : Tab cJ0_length_8abf5 [(0, .aload_n 0, 1), (1, .getfield 9, 3), (4, .arraylength, 1), (5, .aload_n 0, 1), (6, .invokevirtual 335, 3), (9, .ishr, 1), (10, .ireturn, 1)] := Tab.of (by decide +kernel)
theorem cs_len : CB MS_len 0 ∧ Cond.instanceMethod MS_len.1 ∈ WS ∧ Cond.selects MS_len.1.cls MS_len.1 MS_len.1 ∈ WS := ⟨⟨(inB3 100 rfl rfl), (inB1 15 rfl rfl), by decide +kernel, by decide +kernel, by decide +kernel, by decide⟩, (inB3 98 rfl rfl), (inB3 99 rfl rfl)⟩
abbrev MS_cod : Mth := (yJ0_coder_7d493, cJ0_coder_7d493, 1, some .byte)
set_option maxRecDepth 100000 in
theorem TS_cod : Tab cJ0_coder_7d493 [(0, .getstatic 38, 3), (3, .ifCond .eq 10, 3), (6, .aload_n 0, 1), (7, .getfield 15, 3), (10, .goto 4, 3), (13, .iconst 1, 1), (14, .ireturn, 1)] := Tab.of (by decide +kernel)
theorem cs_cod : CB MS_cod 0 ∧ Cond.instanceMethod MS_cod.1 ∈ WS ∧ Cond.selects MS_cod.1.cls MS_cod.1 MS_cod.1 ∈ WS := ⟨⟨(inB3 104 rfl rfl), (inB1 15 rfl rfl), by decide +kernel, by decide +kernel, by decide +kernel, by decide⟩, (inB3 102 rfl rfl), (inB3 103 rfl rfl)⟩
abbrev MS_lat : Mth := (yJ1_indexOf_4cfef, cJ1_indexOf_4cfef, 4, some .int)
set_option maxRecDepth 100000 in
theorem TS_lat : Tab cJ1_indexOf_4cfef [(0, .iload_n 1, 1), (1, .invokestatic 88, 3), (4, .ifCond .ne 5, 3), (7, .iconst (-1), 1), (8, .ireturn, 1), (9, .iload_n 2, 1), (10, .iconst 0, 1), (11, .invokestatic 92, 3), (14, .istore_n 2, 1), (15, .iload_n 3, 1), (16, .aload_n 0, 1), (17, .arraylength, 1), (18, .invokestatic 38, 3), (21, .istore_n 3, 1), (22, .iload_n 2, 1), (23, .iload_n 3, 1), (24, .if_icmp .lt 5, 3), (27, .iconst (-1), 1), (28, .ireturn, 1), (29, .aload_n 0, 1), (30, .iload_n 1, 1), (31, .iload_n 2, 1), (32, .iload_n 3, 1), (33, .invokestatic 95, 3), (36, .ireturn, 1)] := Tab.of (by decide +kernel)
theorem cs_lat : CBs MS_lat 4 := ⟨⟨(inB3 107 rfl rfl), (inB1 16 rfl rfl), by decide +kernel, by decide +kernel, by decide +kernel, by decide⟩, (inB3 106 rfl rfl)⟩
abbrev MS_chr : Mth := (yJ1_indexOfChar_4cfef, cJ1_indexOfChar_4cfef, 6, some .int)
set_option maxRecDepth 100000 in
theorem TS_chr : Tab cJ1_indexOfChar_4cfef [(0, .iload_n 1, 1), (1, .i2b, 1), (2, .istore 4, 2), (4, .iload_n 2, 1), (5, .istore 5, 2), (7, .iload 5, 2), (9, .iload_n 3, 1), (10, .if_icmp .ge 21, 3), (13, .aload_n 0, 1), (14, .iload 5, 2), (16, .baload, 1), (17, .iload 4, 2), (19, .if_icmp .ne 6, 3), (22, .iload 5, 2), (24, .ireturn, 1), (25, .iinc 5 1, 3), (28, .goto (-21), 3), (31, .iconst (-1), 1), (32, .ireturn, 1)] := Tab.of (by decide +kernel)
theorem cs_chr : CBs MS_chr 4 := ⟨⟨(inB3 117 rfl rfl), (inB1 16 rfl rfl), by decide +kernel, by decide +kernel, by decide +kernel, by decide⟩, (inB3 116 rfl rfl)⟩
abbrev MS_can : Mth := (yJ1_canEncode_9a6ad, cJ1_canEncode_9a6ad, 1, some .boolean)
set_option maxRecDepth 100000 in
theorem TS_can : Tab cJ1_canEncode_9a6ad [(0, .iload_n 0, 1), (1, .ifCond .lt 14, 3), (4, .iload_n 0, 1), (5, .sipush 255, 3), (8, .if_icmp .gt 7, 3), (11, .iconst 1, 1), (12, .goto 4, 3), (15, .iconst 0, 1), (16, .ireturn, 1)] := Tab.of (by decide +kernel)
theorem cs_can : CBs MS_can 1 := ⟨⟨(inB3 110 rfl rfl), (inB1 16 rfl rfl), by decide +kernel, by decide +kernel, by decide +kernel, by decide⟩, (inB3 109 rfl rfl)⟩
theorem mls_ioII_isL : Cond.methodLink "java/lang/String" 492 yJ0_isLatin1_aae02 ∈ WS := (inB3 91 rfl rfl)
theorem mls_ioII_len : Cond.methodLink "java/lang/String" 505 yJ0_length_8abf5 ∈ WS := (inB3 97 rfl rfl)
theorem mls_ioII_lat : Cond.methodLink "java/lang/String" 637 yJ1_indexOf_4cfef ∈ WS := (inB3 105 rfl rfl)
theorem mls_len_cod : Cond.methodLink "java/lang/String" 335 yJ0_coder_7d493 ∈ WS := (inB3 101 rfl rfl)
theorem mls_ioI_ioII : Cond.methodLink "java/lang/String" 633 yJ0_indexOf_7cf53 ∈ WS := (inB3 87 rfl rfl)
theorem mls_lat_can : Cond.methodLink "java/lang/StringLatin1" 88 yJ1_canEncode_9a6ad ∈ WS := (inB3 108 rfl rfl)
theorem mls_lat_chr : Cond.methodLink "java/lang/StringLatin1" 95 yJ1_indexOfChar_4cfef ∈ WS := (inB3 115 rfl rfl)
theorem mls_rf_ioI : Cond.methodLink "NightCarts$LawReader" 102 yJ0_indexOf_0f7a4 ∈ WS := (inB3 83 rfl rfl)
theorem mls_max : Cond.methodLink "java/lang/StringLatin1" 92 Lib.Math.max.name ∈ WS := (inB3 111 rfl rfl)
theorem mls_min : Cond.methodLink "java/lang/StringLatin1" 38 Lib.Math.min.name ∈ WS := (inB3 114 rfl rfl)
theorem fls_cs : Cond.fieldLink "java/lang/String" 38 "java/lang/String" "COMPACT_STRINGS" "Z" ∈ WS := (inB3 95 rfl rfl)
theorem fls_co : Cond.fieldLink "java/lang/String" 15 "java/lang/String" "coder" "B" ∈ WS := (inB8 205 rfl rfl)
theorem fls_va : Cond.fieldLink "java/lang/String" 9 "java/lang/String" "value" "[B" ∈ WS := (inB8 206 rfl rfl)
/-- what the text's methods stand on -/
def Sx (b : Nat) (aS aV : Nat → Nat) (U : State) : Prop := vk_S 1 [8] [strB] aS aV (fun q => b ≤ q) U U.heap ∧ va_Z "java/lang/String" "COMPACT_STRINGS" "Z" (.int 1) (fun q => b ≤ q) U U.heap
def SMet (M : Mth) (d : Nat) (av : List Value) (b : Nat) (aS aV : Nat → Nat) (v : Int32) : Prop := ∀ l : Launch, Met l M.1 (wsM M) (rmD d) (va_Pc av (Sx b aS aV)) (QcRead v) 0 0 (fun _ => False)
theorem Sx.blind {b : Nat} {aS aV : Nat → Nat} {av : List Value} : FrameBlind (va_Pc av (Sx b aS aV)) := by
  intro a U g mk q
  obtain ⟨q0, h2, h3⟩ := q
  exact ⟨q0, vk_S.moved (u := U) (U := U.calling g mk a) (Vm.Alike.refl U.vm) h2, va_Z.moved (u := U) (U := U.calling g mk a) (Vm.Alike.refl U.vm) h3⟩
theorem Sx.warm {b : Nat} {aS aV : Nat → Nat} {s U : State} {H : Heap} {locs : List Loc} (hW : s.WarmedH U.vm) (hS : va_S (fun q => b ≤ q) s.heap H locs) (hU : U.heap = H) (h : Sx b aS aV s) : Sx b aS aV U :=
  ⟨by rw [hU]; exact vk_S.moved hW.alike (h.1.kept hS.2.1), by rw [hU]; exact va_Z.moved hW.alike (h.2.kept hS.2.1)⟩
section RO
variable {p : Program} {l : Launch} {e : Env} {R : Room} {s : State} {m : MethodId} {args : Array Value} {below : List Frame} {meth : Method} {c : Code} {H : Heap} {locs : List Loc} {cells slots : Nat} {Z : State → Prop} {cc : ByteArray} {nL pc : Nat} {ls : Array Slot} {own : String} {aS aV : Nat → Nat} {b : Nat} {rest : List Value}
theorem ro_callV {M' : Mth} {d' idx n : Nat} {As : List Value} {v : Int32} (S : CallFix p m c cc nL s args WS own) (hE : Sx b aS aV s) (hS : va_S (fun q => b ≤ q) s.heap H locs) (hM : SMet M' d' (.ref (aS 0) :: As) b aS aV v) (hlk : Cond.methodLink own idx M'.1 ∈ WS) (hcb : CB M' n ∧ Cond.instanceMethod M'.1 ∈ WS ∧ Cond.selects M'.1.cls M'.1 M'.1 ∈ WS) (hC : M'.1.cls = "java/lang/String") (hn : As.length = n) (hsz : ls.size = nL) (hrm : (rest.map fun v => v.category).sum ≤ 8) (hd : d' + 1 ≤ R.frames ∧ 64 * (d' + 1) ≤ R.locals ∧ cells ≤ R.cells ∧ slots ≤ R.slots) (hdg : decode cc pc = .ok (.invokevirtual idx, 3))
    (kk : W p l e R s m args below meth c H locs cells slots Z (F0 m (pc + 3) ls (.int v :: rest))) : W p l e R s m args below meth c H locs cells slots Z (F0 m pc ls (As.reverse ++ .ref (aS 0) :: rest)) := by
  obtain ⟨⟨hcode, hini, hy1, hy2, hpar, hml⟩, hinst, hsel⟩ := hcb
  obtain ⟨cell, h1, h2, h3⟩ := vk_recv (i := 0) hE.1 (by decide) hS
  have cw : CallW R s args own M'.1.cls idx M'.1 M'.2.1 M'.2.2.1 M'.2.2.2 (wsM M') (rmD d') 0 0 n := by
    refine cwV n S.2.2.2.2 (Ts := WS) (fun w hw => ?_) rfl rfl rfl ⟨rfl, hy1, hy2, hpar⟩ ⟨by show d' + 1 ≤ R.frames; omega, by show 8 + (M'.2.2.1 + 11) + 64 * d' ≤ R.locals; omega⟩
    rcases List.mem_append.mp hw with h | h
    · simp only [List.mem_cons, List.not_mem_nil, or_false] at h
      rcases h with rfl | rfl | rfl | rfl
      · exact ⟨hlk, WS_good _ hlk⟩
      · exact ⟨hinst, WS_good _ hinst⟩
      · exact ⟨hsel, WS_good _ hsel⟩
      · exact ⟨hini, WS_good _ hini⟩
    · exact good_ws (M := M') hcode w h
  exact W.callR (W.runV (As := As) (rest := rest) (b := aS 0) S (hM l) cw ⟨Sx.blind, ⟨cell, h1, h2, by rw [hC]; exact h3⟩, fun U hU hW => ⟨rfl, hE.warm hW hS hU⟩⟩ rfl hn hsz rfl (lv_room hrm) hdg ⟨hd.2.2.1, hd.2.2.2⟩) kk
theorem ro_callS {M' : Mth} {d' idx n : Nat} {As : List Value} {v : Int32} (S : CallFix p m c cc nL s args WS own) (hE : Sx b aS aV s) (hS : va_S (fun q => b ≤ q) s.heap H locs) (hM : SMet M' d' As b aS aV v) (hlk : Cond.methodLink own idx M'.1 ∈ WS) (hcb : CBs M' n) (hn : As.length = n) (hsz : ls.size = nL) (hrm : (rest.map fun v => v.category).sum ≤ 8) (hd : d' + 1 ≤ R.frames ∧ 64 * (d' + 1) ≤ R.locals ∧ cells ≤ R.cells ∧ slots ≤ R.slots) (hdg : decode cc pc = .ok (.invokestatic idx, 3))
    (kk : W p l e R s m args below meth c H locs cells slots Z (F0 m (pc + 3) ls (.int v :: rest))) : W p l e R s m args below meth c H locs cells slots Z (F0 m pc ls (As.reverse ++ rest)) := by
  obtain ⟨⟨hcode, hini, hy1, hy2, hpar, hml⟩, hst1⟩ := hcb
  have cw : CallB R s args own idx M'.1 M'.2.1 M'.2.2.1 M'.2.2.2 (wsM M') (rmD d') 0 0 n ∧ (Cond.static M'.1).before args s = true := by
    refine va_cwS n S.2.2.2.2 (Ts := WS) (fun w hw => ?_) rfl rfl rfl ⟨hy1, hy2, hpar⟩ ⟨by show d' + 1 ≤ R.frames; omega, by show 8 + (M'.2.2.1 + 11) + 64 * d' ≤ R.locals; omega⟩
    rcases List.mem_append.mp hw with h | h
    · simp only [List.mem_cons, List.not_mem_nil, or_false] at h
      rcases h with rfl | rfl | rfl
      · exact ⟨hlk, WS_good _ hlk⟩
      · exact ⟨hst1, WS_good _ hst1⟩
      · exact ⟨hini, WS_good _ hini⟩
    · exact good_ws (M := M') hcode w h
  exact W.callR (W.runS (As := As) (rest := rest) S (hM l) cw ⟨Sx.blind, fun U hU hW => ⟨rfl, hE.warm hW hS hU⟩⟩ rfl hn hsz rfl (lv_room hrm) hdg ⟨hd.2.2.1, hd.2.2.2⟩) kk
end RO
set_option maxRecDepth 100000 in
set_option maxHeartbeats 4000000 in
theorem sm_isL (b : Nat) (aS aV : Nat → Nat) : SMet MS_isL 1 [.ref (aS 0)] b aS aV 1 := by
  intro l
  refine Met.ofW (cc := cJ0_isLatin1_aae02) (maxL := 1) (ret := some .boolean) (by decide +kernel) rfl ?_
  intro p e s m args below meth c s₁ B hml hv
  obtain ⟨rfl, hE⟩ := hv
  have hx := B.exec
  have hb := B.bytes
  have hr := B.returns
  have hts := atoms_spec (ws := wsM MS_isL) B.pre
  have hts' : ∀ w ∈ WS, w.before _ s = true := fun w hw => hts w (List.mem_cons_of_mem _ hw)
  have hown : s.vm.findClass "java/lang/String" = some m.cls := findClass_of_methodNamed B.named
  have hlocks := B.notSynchronized
  have hS : va_S (fun q => b ≤ q) s.heap s.heap [] := va_S.rf
  have hl := lv_entry ([.ref (aS 0)]) (n := 1) (Nat.le_of_ble_eq_true rfl)
  rw [lg_entry_eq]
  generalize (lg_sl ([.ref (aS 0)]) ++ List.replicate (1 - (lg_sl ([.ref (aS 0)])).length) Slot.unset).toArray = ls at hl ⊢
  have hl : lv_has ls 1 [(0, .ref (aS 0))] := hl
  refine va_gets hx hb hE.2 hS hown (hts' _ fls_cs) (fun _ q => q) (TS_isL 0 _ _ _ rfl) ?_
  refine lv_if_eq (tgt := 17) hx hb (TS_isL 1 _ _ _ rfl) (by decide) (fun cc => absurd cc (by decide)) (fun _ => ?_)
  refine lv_aload_n hx hb (TS_isL 2 _ _ _ rfl) rfl (lv_at hl 0 rfl) ?_
  refine vk_getf hx hb (hE.1.1 0 (by decide)).2.1 hS hown (hts' _ fls_co) (fun _ q => q) (TS_isL 3 _ _ _ rfl) ?_
  refine lv_if_ne (tgt := 17) hx hb (TS_isL 4 _ _ _ rfl) (by decide) (fun cc => absurd rfl cc) (fun _ => ?_)
  refine lv_iconst (v := 1) hx hb (TS_isL 5 _ _ _ rfl) rfl ?_
  refine lv_goto (tgt := 18) hx hb (TS_isL 6 _ _ _ rfl) (by decide) ?_
  exact W.zret hx hb hr rfl (fun t ht _ => ⟨rfl, ht⟩) (fun q hq => by cases hq) (TS_isL 8 _ _ _ rfl) hlocks

set_option maxRecDepth 100000 in
set_option maxHeartbeats 4000000 in
theorem sm_cod (b : Nat) (aS aV : Nat → Nat) : SMet MS_cod 1 [.ref (aS 0)] b aS aV 0 := by
  intro l
  refine Met.ofW (cc := cJ0_coder_7d493) (maxL := 1) (ret := some .byte) (by decide +kernel) rfl ?_
  intro p e s m args below meth c s₁ B hml hv
  obtain ⟨rfl, hE⟩ := hv
  have hx := B.exec
  have hb := B.bytes
  have hr := B.returns
  have hts := atoms_spec (ws := wsM MS_cod) B.pre
  have hts' : ∀ w ∈ WS, w.before _ s = true := fun w hw => hts w (List.mem_cons_of_mem _ hw)
  have hown : s.vm.findClass "java/lang/String" = some m.cls := findClass_of_methodNamed B.named
  have hlocks := B.notSynchronized
  have hS : va_S (fun q => b ≤ q) s.heap s.heap [] := va_S.rf
  have hl := lv_entry ([.ref (aS 0)]) (n := 1) (Nat.le_of_ble_eq_true rfl)
  rw [lg_entry_eq]
  generalize (lg_sl ([.ref (aS 0)]) ++ List.replicate (1 - (lg_sl ([.ref (aS 0)])).length) Slot.unset).toArray = ls at hl ⊢
  have hl : lv_has ls 1 [(0, .ref (aS 0))] := hl
  refine va_gets hx hb hE.2 hS hown (hts' _ fls_cs) (fun _ q => q) (TS_cod 0 _ _ _ rfl) ?_
  refine lv_if_eq (tgt := 13) hx hb (TS_cod 1 _ _ _ rfl) (by decide) (fun cc => absurd cc (by decide)) (fun _ => ?_)
  refine lv_aload_n hx hb (TS_cod 2 _ _ _ rfl) rfl (lv_at hl 0 rfl) ?_
  refine vk_getf hx hb (hE.1.1 0 (by decide)).2.1 hS hown (hts' _ fls_co) (fun _ q => q) (TS_cod 3 _ _ _ rfl) ?_
  refine lv_goto (tgt := 14) hx hb (TS_cod 4 _ _ _ rfl) (by decide) ?_
  exact W.zret hx hb hr rfl (fun t ht _ => ⟨rfl, ht⟩) (fun q hq => by cases hq) (TS_cod 6 _ _ _ rfl) hlocks

set_option maxRecDepth 100000 in
set_option maxHeartbeats 4000000 in
theorem sm_len (b : Nat) (aS aV : Nat → Nat) : SMet MS_len 2 [.ref (aS 0)] b aS aV 8 := by
  intro l
  refine Met.ofW (cc := cJ0_length_8abf5) (maxL := 1) (ret := some .int) (by decide +kernel) rfl ?_
  intro p e s m args below meth c s₁ B hml hv
  obtain ⟨rfl, hE⟩ := hv
  have hx := B.exec
  have hb := B.bytes
  have hr := B.returns
  have hts := atoms_spec (ws := wsM MS_len) B.pre
  have hts' : ∀ w ∈ WS, w.before _ s = true := fun w hw => hts w (List.mem_cons_of_mem _ hw)
  have hown : s.vm.findClass "java/lang/String" = some m.cls := findClass_of_methodNamed B.named
  have hlocks := B.notSynchronized
  have hS : va_S (fun q => b ≤ q) s.heap s.heap [] := va_S.rf
  have hl := lv_entry ([.ref (aS 0)]) (n := 1) (Nat.le_of_ble_eq_true rfl)
  rw [lg_entry_eq]
  generalize (lg_sl ([.ref (aS 0)]) ++ List.replicate (1 - (lg_sl ([.ref (aS 0)])).length) Slot.unset).toArray = ls at hl ⊢
  have hl : lv_has ls 1 [(0, .ref (aS 0))] := hl
  refine lv_aload_n hx hb (TS_len 0 _ _ _ rfl) rfl (lv_at hl 0 rfl) ?_
  refine vk_getf hx hb (hE.1.1 0 (by decide)).2.2.1 hS hown (hts' _ fls_va) (fun _ q => q) (TS_len 1 _ _ _ rfl) ?_
  refine va_tlen hx hb (v := 8) (hE.1.1 0 (by decide)).2.2.2 hS rfl (TS_len 2 _ _ _ rfl) ?_
  refine lv_aload_n hx hb (TS_len 3 _ _ _ rfl) rfl (lv_at hl 0 rfl) ?_
  refine ro_callV (M' := MS_cod) (As := []) (rest := [.int 8]) ⟨hx, hb, hml, hown, hts'⟩ hE hS (sm_cod b aS aV) mls_len_cod cs_cod rfl rfl hl.1 (by decide) ⟨by decide, by decide, by decide, by decide⟩ (TS_len 4 _ _ _ rfl) ?_
  refine lv_ishr hx hb (TS_len 5 _ _ _ rfl) ?_
  refine lv_topi fun y ey => ?_
  have ey : y = 8 := by rw [ey]; decide
  subst ey
  exact W.iret hx hb hr (fun t ht _ => ⟨rfl, ht⟩) (fun q hq => by cases hq) (TS_len 6 _ _ _ rfl) hlocks

set_option maxRecDepth 100000 in
set_option maxHeartbeats 4000000 in
theorem sm_can (b : Nat) (aS aV : Nat → Nat) (x : Int) (hxx : 0 ≤ x ∧ x < 65536) : SMet MS_can 1 [.int (Int32.ofInt x)] b aS aV (if x ≤ 255 then 1 else 0) := by
  intro l
  refine Met.ofW (cc := cJ1_canEncode_9a6ad) (maxL := 1) (ret := some .boolean) (by decide +kernel) rfl ?_
  intro p e s m args below meth c s₁ B hml hv
  obtain ⟨rfl, hE⟩ := hv
  have hx := B.exec
  have hb := B.bytes
  have hr := B.returns
  have hts := atoms_spec (ws := wsM MS_can) B.pre
  have hts' : ∀ w ∈ WS, w.before _ s = true := fun w hw => hts w (List.mem_cons_of_mem _ hw)
  have hown : s.vm.findClass "java/lang/StringLatin1" = some m.cls := findClass_of_methodNamed B.named
  have hlocks := B.notSynchronized
  have hS : va_S (fun q => b ≤ q) s.heap s.heap [] := va_S.rf
  have hl := lv_entry ([.int (Int32.ofInt x)]) (n := 1) (Nat.le_of_ble_eq_true rfl)
  rw [lg_entry_eq]
  generalize (lg_sl ([.int (Int32.ofInt x)]) ++ List.replicate (1 - (lg_sl ([.int (Int32.ofInt x)])).length) Slot.unset).toArray = ls at hl ⊢
  have hl : lv_has ls 1 [(0, .int (Int32.ofInt x))] := hl
  have hrx : inR x := ⟨by omega, by omega⟩
  refine lv_iload_n hx hb (TS_can 0 _ _ _ rfl) rfl (lv_at hl 0 rfl) ?_
  refine lv_if_lt (tgt := 15) hx hb (TS_can 1 _ _ _ rfl) (by decide) (fun cc => absurd ((lt_of hrx inR_0).mp cc) (by omega)) (fun _ => ?_)
  refine lv_iload_n hx hb (TS_can 2 _ _ _ rfl) rfl (lv_at hl 0 rfl) ?_
  refine lv_sipush (v := Int32.ofInt 255) hx hb (TS_can 3 _ _ _ rfl) rfl ?_
  refine lv_icmp_gt (tgt := 15) hx hb (TS_can 4 _ _ _ rfl) (by decide) (fun cc => ?_) (fun cc => ?_)
  · have h2 := (lt_of (x := 255) (y := x) ⟨by decide, by decide⟩ hrx).mp cc
    rw [if_neg (by omega)]
    refine lv_iconst (v := 0) hx hb (TS_can 7 _ _ _ rfl) rfl ?_
    exact W.zret hx hb hr rfl (fun t ht _ => ⟨rfl, ht⟩) (fun q hq => by cases hq) (TS_can 8 _ _ _ rfl) hlocks
  · have h2 := (not_congr (lt_of (x := 255) (y := x) ⟨by decide, by decide⟩ hrx)).mp cc
    rw [if_pos (by omega)]
    refine lv_iconst (v := 1) hx hb (TS_can 5 _ _ _ rfl) rfl ?_
    refine lv_goto (tgt := 16) hx hb (TS_can 6 _ _ _ rfl) (by decide) ?_
    exact W.zret hx hb hr rfl (fun t ht _ => ⟨rfl, ht⟩) (fun q hq => by cases hq) (TS_can 8 _ _ _ rfl) hlocks

def sIdx (x : Int) : Int := if x = 105 then 0 else if x = 104 then 1 else if x = 108 then 2 else if x = 100 then 3 else if x = 103 then 4 else if x = 114 then 5 else if x = 110 then 6 else if x = 107 then 7 else -1
theorem sb8 : ∀ n : Nat, n < 256 → ((105 = (nI n).toInt8.toInt32) ↔ n = 105) ∧ ((104 = (nI n).toInt8.toInt32) ↔ n = 104) ∧ ((108 = (nI n).toInt8.toInt32) ↔ n = 108) ∧ ((100 = (nI n).toInt8.toInt32) ↔ n = 100) ∧ ((103 = (nI n).toInt8.toInt32) ↔ n = 103) ∧ ((114 = (nI n).toInt8.toInt32) ↔ n = 114) ∧ ((110 = (nI n).toInt8.toInt32) ↔ n = 110) ∧ ((107 = (nI n).toInt8.toInt32) ↔ n = 107) := by decide +kernel
set_option maxRecDepth 100000 in
set_option maxHeartbeats 4000000 in
theorem sm_chr (b : Nat) (aS aV : Nat → Nat) (x : Int) (hxx : 0 ≤ x ∧ x < 256) : SMet MS_chr 1 [.ref (aV 0), .int (Int32.ofInt x), .int 0, .int 8] b aS aV (Int32.ofInt (sIdx x)) := by
  obtain ⟨g0, g1, g2, g3, g4, g5, g6, g7⟩ := sb8 x.toNat (by omega)
  have ex : x = (x.toNat : Int) := by omega
  have ec : (nI x.toNat).toInt8.toInt32 = (Int32.ofInt x).toInt8.toInt32 := by
    have e9 : nI x.toNat = Int32.ofInt (x.toNat : Int) := rfl
    rw [e9, ← ex]
  rw [ec] at g0 g1 g2 g3 g4 g5 g6 g7
  intro l
  refine Met.ofW (cc := cJ1_indexOfChar_4cfef) (maxL := 6) (ret := some .int) (by decide +kernel) rfl ?_
  intro p e s m args below meth c s₁ B hml hv
  obtain ⟨rfl, hE⟩ := hv
  have hx := B.exec
  have hb := B.bytes
  have hr := B.returns
  have hts := atoms_spec (ws := wsM MS_chr) B.pre
  have hts' : ∀ w ∈ WS, w.before _ s = true := fun w hw => hts w (List.mem_cons_of_mem _ hw)
  have hown : s.vm.findClass "java/lang/StringLatin1" = some m.cls := findClass_of_methodNamed B.named
  have hlocks := B.notSynchronized
  have hS : va_S (fun q => b ≤ q) s.heap s.heap [] := va_S.rf
  have hl := lv_entry ([.ref (aV 0), .int (Int32.ofInt x), .int 0, .int 8]) (n := 6) (Nat.le_of_ble_eq_true rfl)
  rw [lg_entry_eq]
  generalize (lg_sl ([.ref (aV 0), .int (Int32.ofInt x), .int 0, .int 8]) ++ List.replicate (6 - (lg_sl ([.ref (aV 0), .int (Int32.ofInt x), .int 0, .int 8])).length) Slot.unset).toArray = ls at hl ⊢
  have hl : lv_has ls 6 [(0, .ref (aV 0)), (1, .int (Int32.ofInt x)), (2, .int 0), (3, .int 8)] := hl
  have hT := (hE.1.1 0 (by decide)).2.2.2
  refine lv_iload_n hx hb (TS_chr 0 _ _ _ rfl) rfl (lv_at hl 1 rfl) ?_
  refine lv_i2b hx hb (TS_chr 1 _ _ _ rfl) rfl ?_
  generalize (Int32.ofInt x).toInt8.toInt32 = c8 at g0 g1 g2 g3 g4 g5 g6 g7 ⊢
  refine lv_istore (lv' := [(4, .int c8), (0, .ref (aV 0)), (1, .int (Int32.ofInt x)), (2, .int 0), (3, .int 8)]) hx hb (TS_chr 2 _ _ _ rfl) hl (by decide) rfl (fun ls hl => ?_)
  refine lv_iload_n hx hb (TS_chr 3 _ _ _ rfl) rfl (lv_at hl 3 rfl) ?_
  refine lv_istore (lv' := [(5, .int 0), (4, .int c8), (0, .ref (aV 0)), (1, .int (Int32.ofInt x)), (2, .int 0), (3, .int 8)]) hx hb (TS_chr 4 _ _ _ rfl) hl (by decide) rfl (fun ls hl => ?_)
  refine lv_iload hx hb (TS_chr 5 _ _ _ rfl) (lv_at hl 0 rfl) ?_
  refine lv_iload_n hx hb (TS_chr 6 _ _ _ rfl) rfl (lv_at hl 5 rfl) ?_
  refine lv_icmp_ge (tgt := 31) hx hb (TS_chr 7 _ _ _ rfl) (by decide) (fun cc => absurd cc (by decide)) (fun _ => ?_)
  refine lv_aload_n hx hb (TS_chr 8 _ _ _ rfl) rfl (lv_at hl 2 rfl) ?_
  refine lv_iload hx hb (TS_chr 9 _ _ _ rfl) (lv_at hl 0 rfl) ?_
  refine va_tb hx hb hT hS (i := 0) (v := .int 105) (vp_in_iff.mpr (by decide)) rfl (TS_chr 10 _ _ _ rfl) ?_
  refine lv_iload hx hb (TS_chr 11 _ _ _ rfl) (lv_at hl 1 rfl) ?_
  refine lv_icmp_ne (tgt := 25) hx hb (TS_chr 12 _ _ _ rfl) (by decide) (fun n0 => ?_) (fun cc => ?_)
  rotate_left
  · have hv : Int32.ofInt (sIdx x) = 0 := by
      have e1 : x = 105 := by have := g0.mp cc; omega
      rw [e1]; decide
    rw [hv]
    refine lv_iload hx hb (TS_chr 13 _ _ _ rfl) (lv_at hl 0 rfl) ?_
    exact W.iret hx hb hr (fun t ht _ => ⟨rfl, ht⟩) (fun q hq => by cases hq) (TS_chr 14 _ _ _ rfl) hlocks
  refine lv_iinc (v := 1) (lv' := [(5, .int 1), (4, .int c8), (0, .ref (aV 0)), (1, .int (Int32.ofInt x)), (2, .int 0), (3, .int 8)]) hx hb (TS_chr 15 _ _ _ rfl) hl (k := 0) rfl rfl (by decide) rfl (fun ls hl => ?_)
  refine lv_goto (tgt := 7) hx hb (TS_chr 16 _ _ _ rfl) (by decide) ?_
  refine lv_iload hx hb (TS_chr 5 _ _ _ rfl) (lv_at hl 0 rfl) ?_
  refine lv_iload_n hx hb (TS_chr 6 _ _ _ rfl) rfl (lv_at hl 5 rfl) ?_
  refine lv_icmp_ge (tgt := 31) hx hb (TS_chr 7 _ _ _ rfl) (by decide) (fun cc => absurd cc (by decide)) (fun _ => ?_)
  refine lv_aload_n hx hb (TS_chr 8 _ _ _ rfl) rfl (lv_at hl 2 rfl) ?_
  refine lv_iload hx hb (TS_chr 9 _ _ _ rfl) (lv_at hl 0 rfl) ?_
  refine va_tb hx hb hT hS (i := 1) (v := .int 104) (vp_in_iff.mpr (by decide)) rfl (TS_chr 10 _ _ _ rfl) ?_
  refine lv_iload hx hb (TS_chr 11 _ _ _ rfl) (lv_at hl 1 rfl) ?_
  refine lv_icmp_ne (tgt := 25) hx hb (TS_chr 12 _ _ _ rfl) (by decide) (fun n1 => ?_) (fun cc => ?_)
  rotate_left
  · have hv : Int32.ofInt (sIdx x) = 1 := by
      have e1 : x = 104 := by have := g1.mp cc; omega
      rw [e1]; decide
    rw [hv]
    refine lv_iload hx hb (TS_chr 13 _ _ _ rfl) (lv_at hl 0 rfl) ?_
    exact W.iret hx hb hr (fun t ht _ => ⟨rfl, ht⟩) (fun q hq => by cases hq) (TS_chr 14 _ _ _ rfl) hlocks
  refine lv_iinc (v := 2) (lv' := [(5, .int 2), (4, .int c8), (0, .ref (aV 0)), (1, .int (Int32.ofInt x)), (2, .int 0), (3, .int 8)]) hx hb (TS_chr 15 _ _ _ rfl) hl (k := 0) rfl rfl (by decide) rfl (fun ls hl => ?_)
  refine lv_goto (tgt := 7) hx hb (TS_chr 16 _ _ _ rfl) (by decide) ?_
  refine lv_iload hx hb (TS_chr 5 _ _ _ rfl) (lv_at hl 0 rfl) ?_
  refine lv_iload_n hx hb (TS_chr 6 _ _ _ rfl) rfl (lv_at hl 5 rfl) ?_
  refine lv_icmp_ge (tgt := 31) hx hb (TS_chr 7 _ _ _ rfl) (by decide) (fun cc => absurd cc (by decide)) (fun _ => ?_)
  refine lv_aload_n hx hb (TS_chr 8 _ _ _ rfl) rfl (lv_at hl 2 rfl) ?_
  refine lv_iload hx hb (TS_chr 9 _ _ _ rfl) (lv_at hl 0 rfl) ?_
  refine va_tb hx hb hT hS (i := 2) (v := .int 108) (vp_in_iff.mpr (by decide)) rfl (TS_chr 10 _ _ _ rfl) ?_
  refine lv_iload hx hb (TS_chr 11 _ _ _ rfl) (lv_at hl 1 rfl) ?_
  refine lv_icmp_ne (tgt := 25) hx hb (TS_chr 12 _ _ _ rfl) (by decide) (fun n2 => ?_) (fun cc => ?_)
  rotate_left
  · have hv : Int32.ofInt (sIdx x) = 2 := by
      have e1 : x = 108 := by have := g2.mp cc; omega
      rw [e1]; decide
    rw [hv]
    refine lv_iload hx hb (TS_chr 13 _ _ _ rfl) (lv_at hl 0 rfl) ?_
    exact W.iret hx hb hr (fun t ht _ => ⟨rfl, ht⟩) (fun q hq => by cases hq) (TS_chr 14 _ _ _ rfl) hlocks
  refine lv_iinc (v := 3) (lv' := [(5, .int 3), (4, .int c8), (0, .ref (aV 0)), (1, .int (Int32.ofInt x)), (2, .int 0), (3, .int 8)]) hx hb (TS_chr 15 _ _ _ rfl) hl (k := 0) rfl rfl (by decide) rfl (fun ls hl => ?_)
  refine lv_goto (tgt := 7) hx hb (TS_chr 16 _ _ _ rfl) (by decide) ?_
  refine lv_iload hx hb (TS_chr 5 _ _ _ rfl) (lv_at hl 0 rfl) ?_
  refine lv_iload_n hx hb (TS_chr 6 _ _ _ rfl) rfl (lv_at hl 5 rfl) ?_
  refine lv_icmp_ge (tgt := 31) hx hb (TS_chr 7 _ _ _ rfl) (by decide) (fun cc => absurd cc (by decide)) (fun _ => ?_)
  refine lv_aload_n hx hb (TS_chr 8 _ _ _ rfl) rfl (lv_at hl 2 rfl) ?_
  refine lv_iload hx hb (TS_chr 9 _ _ _ rfl) (lv_at hl 0 rfl) ?_
  refine va_tb hx hb hT hS (i := 3) (v := .int 100) (vp_in_iff.mpr (by decide)) rfl (TS_chr 10 _ _ _ rfl) ?_
  refine lv_iload hx hb (TS_chr 11 _ _ _ rfl) (lv_at hl 1 rfl) ?_
  refine lv_icmp_ne (tgt := 25) hx hb (TS_chr 12 _ _ _ rfl) (by decide) (fun n3 => ?_) (fun cc => ?_)
  rotate_left
  · have hv : Int32.ofInt (sIdx x) = 3 := by
      have e1 : x = 100 := by have := g3.mp cc; omega
      rw [e1]; decide
    rw [hv]
    refine lv_iload hx hb (TS_chr 13 _ _ _ rfl) (lv_at hl 0 rfl) ?_
    exact W.iret hx hb hr (fun t ht _ => ⟨rfl, ht⟩) (fun q hq => by cases hq) (TS_chr 14 _ _ _ rfl) hlocks
  refine lv_iinc (v := 4) (lv' := [(5, .int 4), (4, .int c8), (0, .ref (aV 0)), (1, .int (Int32.ofInt x)), (2, .int 0), (3, .int 8)]) hx hb (TS_chr 15 _ _ _ rfl) hl (k := 0) rfl rfl (by decide) rfl (fun ls hl => ?_)
  refine lv_goto (tgt := 7) hx hb (TS_chr 16 _ _ _ rfl) (by decide) ?_
  refine lv_iload hx hb (TS_chr 5 _ _ _ rfl) (lv_at hl 0 rfl) ?_
  refine lv_iload_n hx hb (TS_chr 6 _ _ _ rfl) rfl (lv_at hl 5 rfl) ?_
  refine lv_icmp_ge (tgt := 31) hx hb (TS_chr 7 _ _ _ rfl) (by decide) (fun cc => absurd cc (by decide)) (fun _ => ?_)
  refine lv_aload_n hx hb (TS_chr 8 _ _ _ rfl) rfl (lv_at hl 2 rfl) ?_
  refine lv_iload hx hb (TS_chr 9 _ _ _ rfl) (lv_at hl 0 rfl) ?_
  refine va_tb hx hb hT hS (i := 4) (v := .int 103) (vp_in_iff.mpr (by decide)) rfl (TS_chr 10 _ _ _ rfl) ?_
  refine lv_iload hx hb (TS_chr 11 _ _ _ rfl) (lv_at hl 1 rfl) ?_
  refine lv_icmp_ne (tgt := 25) hx hb (TS_chr 12 _ _ _ rfl) (by decide) (fun n4 => ?_) (fun cc => ?_)
  rotate_left
  · have hv : Int32.ofInt (sIdx x) = 4 := by
      have e1 : x = 103 := by have := g4.mp cc; omega
      rw [e1]; decide
    rw [hv]
    refine lv_iload hx hb (TS_chr 13 _ _ _ rfl) (lv_at hl 0 rfl) ?_
    exact W.iret hx hb hr (fun t ht _ => ⟨rfl, ht⟩) (fun q hq => by cases hq) (TS_chr 14 _ _ _ rfl) hlocks
  refine lv_iinc (v := 5) (lv' := [(5, .int 5), (4, .int c8), (0, .ref (aV 0)), (1, .int (Int32.ofInt x)), (2, .int 0), (3, .int 8)]) hx hb (TS_chr 15 _ _ _ rfl) hl (k := 0) rfl rfl (by decide) rfl (fun ls hl => ?_)
  refine lv_goto (tgt := 7) hx hb (TS_chr 16 _ _ _ rfl) (by decide) ?_
  refine lv_iload hx hb (TS_chr 5 _ _ _ rfl) (lv_at hl 0 rfl) ?_
  refine lv_iload_n hx hb (TS_chr 6 _ _ _ rfl) rfl (lv_at hl 5 rfl) ?_
  refine lv_icmp_ge (tgt := 31) hx hb (TS_chr 7 _ _ _ rfl) (by decide) (fun cc => absurd cc (by decide)) (fun _ => ?_)
  refine lv_aload_n hx hb (TS_chr 8 _ _ _ rfl) rfl (lv_at hl 2 rfl) ?_
  refine lv_iload hx hb (TS_chr 9 _ _ _ rfl) (lv_at hl 0 rfl) ?_
  refine va_tb hx hb hT hS (i := 5) (v := .int 114) (vp_in_iff.mpr (by decide)) rfl (TS_chr 10 _ _ _ rfl) ?_
  refine lv_iload hx hb (TS_chr 11 _ _ _ rfl) (lv_at hl 1 rfl) ?_
  refine lv_icmp_ne (tgt := 25) hx hb (TS_chr 12 _ _ _ rfl) (by decide) (fun n5 => ?_) (fun cc => ?_)
  rotate_left
  · have hv : Int32.ofInt (sIdx x) = 5 := by
      have e1 : x = 114 := by have := g5.mp cc; omega
      rw [e1]; decide
    rw [hv]
    refine lv_iload hx hb (TS_chr 13 _ _ _ rfl) (lv_at hl 0 rfl) ?_
    exact W.iret hx hb hr (fun t ht _ => ⟨rfl, ht⟩) (fun q hq => by cases hq) (TS_chr 14 _ _ _ rfl) hlocks
  refine lv_iinc (v := 6) (lv' := [(5, .int 6), (4, .int c8), (0, .ref (aV 0)), (1, .int (Int32.ofInt x)), (2, .int 0), (3, .int 8)]) hx hb (TS_chr 15 _ _ _ rfl) hl (k := 0) rfl rfl (by decide) rfl (fun ls hl => ?_)
  refine lv_goto (tgt := 7) hx hb (TS_chr 16 _ _ _ rfl) (by decide) ?_
  refine lv_iload hx hb (TS_chr 5 _ _ _ rfl) (lv_at hl 0 rfl) ?_
  refine lv_iload_n hx hb (TS_chr 6 _ _ _ rfl) rfl (lv_at hl 5 rfl) ?_
  refine lv_icmp_ge (tgt := 31) hx hb (TS_chr 7 _ _ _ rfl) (by decide) (fun cc => absurd cc (by decide)) (fun _ => ?_)
  refine lv_aload_n hx hb (TS_chr 8 _ _ _ rfl) rfl (lv_at hl 2 rfl) ?_
  refine lv_iload hx hb (TS_chr 9 _ _ _ rfl) (lv_at hl 0 rfl) ?_
  refine va_tb hx hb hT hS (i := 6) (v := .int 110) (vp_in_iff.mpr (by decide)) rfl (TS_chr 10 _ _ _ rfl) ?_
  refine lv_iload hx hb (TS_chr 11 _ _ _ rfl) (lv_at hl 1 rfl) ?_
  refine lv_icmp_ne (tgt := 25) hx hb (TS_chr 12 _ _ _ rfl) (by decide) (fun n6 => ?_) (fun cc => ?_)
  rotate_left
  · have hv : Int32.ofInt (sIdx x) = 6 := by
      have e1 : x = 110 := by have := g6.mp cc; omega
      rw [e1]; decide
    rw [hv]
    refine lv_iload hx hb (TS_chr 13 _ _ _ rfl) (lv_at hl 0 rfl) ?_
    exact W.iret hx hb hr (fun t ht _ => ⟨rfl, ht⟩) (fun q hq => by cases hq) (TS_chr 14 _ _ _ rfl) hlocks
  refine lv_iinc (v := 7) (lv' := [(5, .int 7), (4, .int c8), (0, .ref (aV 0)), (1, .int (Int32.ofInt x)), (2, .int 0), (3, .int 8)]) hx hb (TS_chr 15 _ _ _ rfl) hl (k := 0) rfl rfl (by decide) rfl (fun ls hl => ?_)
  refine lv_goto (tgt := 7) hx hb (TS_chr 16 _ _ _ rfl) (by decide) ?_
  refine lv_iload hx hb (TS_chr 5 _ _ _ rfl) (lv_at hl 0 rfl) ?_
  refine lv_iload_n hx hb (TS_chr 6 _ _ _ rfl) rfl (lv_at hl 5 rfl) ?_
  refine lv_icmp_ge (tgt := 31) hx hb (TS_chr 7 _ _ _ rfl) (by decide) (fun cc => absurd cc (by decide)) (fun _ => ?_)
  refine lv_aload_n hx hb (TS_chr 8 _ _ _ rfl) rfl (lv_at hl 2 rfl) ?_
  refine lv_iload hx hb (TS_chr 9 _ _ _ rfl) (lv_at hl 0 rfl) ?_
  refine va_tb hx hb hT hS (i := 7) (v := .int 107) (vp_in_iff.mpr (by decide)) rfl (TS_chr 10 _ _ _ rfl) ?_
  refine lv_iload hx hb (TS_chr 11 _ _ _ rfl) (lv_at hl 1 rfl) ?_
  refine lv_icmp_ne (tgt := 25) hx hb (TS_chr 12 _ _ _ rfl) (by decide) (fun n7 => ?_) (fun cc => ?_)
  rotate_left
  · have hv : Int32.ofInt (sIdx x) = 7 := by
      have e1 : x = 107 := by have := g7.mp cc; omega
      rw [e1]; decide
    rw [hv]
    refine lv_iload hx hb (TS_chr 13 _ _ _ rfl) (lv_at hl 0 rfl) ?_
    exact W.iret hx hb hr (fun t ht _ => ⟨rfl, ht⟩) (fun q hq => by cases hq) (TS_chr 14 _ _ _ rfl) hlocks
  refine lv_iinc (v := 8) (lv' := [(5, .int 8), (4, .int c8), (0, .ref (aV 0)), (1, .int (Int32.ofInt x)), (2, .int 0), (3, .int 8)]) hx hb (TS_chr 15 _ _ _ rfl) hl (k := 0) rfl rfl (by decide) rfl (fun ls hl => ?_)
  refine lv_goto (tgt := 7) hx hb (TS_chr 16 _ _ _ rfl) (by decide) ?_
  refine lv_iload hx hb (TS_chr 5 _ _ _ rfl) (lv_at hl 0 rfl) ?_
  refine lv_iload_n hx hb (TS_chr 6 _ _ _ rfl) rfl (lv_at hl 5 rfl) ?_
  refine lv_icmp_ge (tgt := 31) hx hb (TS_chr 7 _ _ _ rfl) (by decide) (fun _ => ?_) (fun cc => absurd (by decide) cc)
  have hv : Int32.ofInt (sIdx x) = -1 := by
    unfold sIdx
    rw [if_neg (fun q => n0 (g0.mpr (by omega))), if_neg (fun q => n1 (g1.mpr (by omega))), if_neg (fun q => n2 (g2.mpr (by omega))), if_neg (fun q => n3 (g3.mpr (by omega))), if_neg (fun q => n4 (g4.mpr (by omega))), if_neg (fun q => n5 (g5.mpr (by omega))), if_neg (fun q => n6 (g6.mpr (by omega))), if_neg (fun q => n7 (g7.mpr (by omega)))]
    rfl
  rw [hv]
  refine lv_iconst (v := -1) hx hb (TS_chr 17 _ _ _ rfl) rfl ?_
  exact W.iret hx hb hr (fun t ht _ => ⟨rfl, ht⟩) (fun q hq => by cases hq) (TS_chr 18 _ _ _ rfl) hlocks

set_option maxRecDepth 100000 in
set_option maxHeartbeats 4000000 in
theorem sm_lat (b : Nat) (aS aV : Nat → Nat) (x : Int) (hxx : 0 ≤ x ∧ x < 65536) : SMet MS_lat 2 [.ref (aV 0), .int (Int32.ofInt x), .int 0, .int 8] b aS aV (Int32.ofInt (sIdx x)) := by
  intro l
  refine Met.ofW (cc := cJ1_indexOf_4cfef) (maxL := 4) (ret := some .int) (by decide +kernel) rfl ?_
  intro p e s m args below meth c s₁ B hml hv
  obtain ⟨rfl, hE⟩ := hv
  have hx := B.exec
  have hb := B.bytes
  have hr := B.returns
  have hts := atoms_spec (ws := wsM MS_lat) B.pre
  have hts' : ∀ w ∈ WS, w.before _ s = true := fun w hw => hts w (List.mem_cons_of_mem _ hw)
  have hown : s.vm.findClass "java/lang/StringLatin1" = some m.cls := findClass_of_methodNamed B.named
  have hlocks := B.notSynchronized
  have hS : va_S (fun q => b ≤ q) s.heap s.heap [] := va_S.rf
  have hl := lv_entry ([.ref (aV 0), .int (Int32.ofInt x), .int 0, .int 8]) (n := 4) (Nat.le_of_ble_eq_true rfl)
  rw [lg_entry_eq]
  generalize (lg_sl ([.ref (aV 0), .int (Int32.ofInt x), .int 0, .int 8]) ++ List.replicate (4 - (lg_sl ([.ref (aV 0), .int (Int32.ofInt x), .int 0, .int 8])).length) Slot.unset).toArray = ls at hl ⊢
  have hl : lv_has ls 4 [(0, .ref (aV 0)), (1, .int (Int32.ofInt x)), (2, .int 0), (3, .int 8)] := hl
  refine lv_iload_n hx hb (TS_lat 0 _ _ _ rfl) rfl (lv_at hl 1 rfl) ?_
  refine ro_callS (M' := MS_can) (As := [.int (Int32.ofInt x)]) (rest := []) ⟨hx, hb, hml, hown, hts'⟩ hE hS (sm_can b aS aV x hxx) mls_lat_can cs_can rfl hl.1 (by decide) ⟨by decide, by decide, by decide, by decide⟩ (TS_lat 1 _ _ _ rfl) ?_
  by_cases h255 : x ≤ 255
  · rw [if_pos h255]
    refine lv_if_ne (tgt := 9) hx hb (TS_lat 2 _ _ _ rfl) (by decide) (fun _ => ?_) (fun cc => absurd cc (by decide))
    refine lv_iload_n hx hb (TS_lat 5 _ _ _ rfl) rfl (lv_at hl 2 rfl) ?_
    refine lv_iconst (v := 0) hx hb (TS_lat 6 _ _ _ rfl) rfl ?_
    refine va_mmax (rest := []) hx hb (by rw [hml]; exact hl.1.symm) hown (hts' _ mls_max) (hts' _ wmax.1) (hts' _ wmax.2.1) (hts' _ wmax.2.2) (by decide) (by decide) (by decide) (by decide) (TS_lat 7 _ _ _ rfl) ?_
    refine lv_topi fun y ey => ?_
    have ey : y = 0 := by rw [ey]; decide
    subst ey
    refine lv_istore_n (lv' := [(2, .int 0), (0, .ref (aV 0)), (1, .int (Int32.ofInt x)), (3, .int 8)]) hx hb (TS_lat 8 _ _ _ rfl) rfl hl (by decide) rfl (fun ls hl => ?_)
    refine lv_iload_n hx hb (TS_lat 9 _ _ _ rfl) rfl (lv_at hl 3 rfl) ?_
    refine lv_aload_n hx hb (TS_lat 10 _ _ _ rfl) rfl (lv_at hl 1 rfl) ?_
    refine va_tlen hx hb (v := 8) (hE.1.1 0 (by decide)).2.2.2 hS rfl (TS_lat 11 _ _ _ rfl) ?_
    refine va_mmin (rest := []) hx hb (by rw [hml]; exact hl.1.symm) hown (hts' _ mls_min) (hts' _ wmin.1) (hts' _ wmin.2.1) (hts' _ wmin.2.2) (by decide) (by decide) (by decide) (by decide) (TS_lat 12 _ _ _ rfl) ?_
    refine lv_topi fun y ey => ?_
    have ey : y = 8 := by rw [ey]; decide
    subst ey
    refine lv_istore_n (lv' := [(3, .int 8), (2, .int 0), (0, .ref (aV 0)), (1, .int (Int32.ofInt x))]) hx hb (TS_lat 13 _ _ _ rfl) rfl hl (by decide) rfl (fun ls hl => ?_)
    refine lv_iload_n hx hb (TS_lat 14 _ _ _ rfl) rfl (lv_at hl 1 rfl) ?_
    refine lv_iload_n hx hb (TS_lat 15 _ _ _ rfl) rfl (lv_at hl 0 rfl) ?_
    refine lv_icmp_lt (tgt := 29) hx hb (TS_lat 16 _ _ _ rfl) (by decide) (fun _ => ?_) (fun cc => absurd (by decide) cc)
    refine lv_aload_n hx hb (TS_lat 19 _ _ _ rfl) rfl (lv_at hl 2 rfl) ?_
    refine lv_iload_n hx hb (TS_lat 20 _ _ _ rfl) rfl (lv_at hl 3 rfl) ?_
    refine lv_iload_n hx hb (TS_lat 21 _ _ _ rfl) rfl (lv_at hl 1 rfl) ?_
    refine lv_iload_n hx hb (TS_lat 22 _ _ _ rfl) rfl (lv_at hl 0 rfl) ?_
    refine ro_callS (M' := MS_chr) (As := [.ref (aV 0), .int (Int32.ofInt x), .int 0, .int 8]) (rest := []) ⟨hx, hb, hml, hown, hts'⟩ hE hS (sm_chr b aS aV x ⟨by omega, by omega⟩) mls_lat_chr cs_chr rfl hl.1 (by decide) ⟨by decide, by decide, by decide, by decide⟩ (TS_lat 23 _ _ _ rfl) ?_
    exact W.iret hx hb hr (fun t ht _ => ⟨rfl, ht⟩) (fun q hq => by cases hq) (TS_lat 24 _ _ _ rfl) hlocks
  · rw [if_neg h255]
    refine lv_if_ne (tgt := 9) hx hb (TS_lat 2 _ _ _ rfl) (by decide) (fun cc => absurd rfl cc) (fun _ => ?_)
    have hv : Int32.ofInt (sIdx x) = -1 := by
      unfold sIdx
      rw [if_neg (by omega), if_neg (by omega), if_neg (by omega), if_neg (by omega), if_neg (by omega), if_neg (by omega), if_neg (by omega), if_neg (by omega)]
      rfl
    rw [hv]
    refine lv_iconst (v := -1) hx hb (TS_lat 3 _ _ _ rfl) rfl ?_
    exact W.iret hx hb hr (fun t ht _ => ⟨rfl, ht⟩) (fun q hq => by cases hq) (TS_lat 4 _ _ _ rfl) hlocks

set_option maxRecDepth 100000 in
set_option maxHeartbeats 4000000 in
theorem sm_ioII (b : Nat) (aS aV : Nat → Nat) (x : Int) (hxx : 0 ≤ x ∧ x < 65536) : SMet MS_ioII 3 [.ref (aS 0), .int (Int32.ofInt x), .int 0] b aS aV (Int32.ofInt (sIdx x)) := by
  intro l
  refine Met.ofW (cc := cJ0_indexOf_7cf53) (maxL := 3) (ret := some .int) (by decide +kernel) rfl ?_
  intro p e s m args below meth c s₁ B hml hv
  obtain ⟨rfl, hE⟩ := hv
  have hx := B.exec
  have hb := B.bytes
  have hr := B.returns
  have hts := atoms_spec (ws := wsM MS_ioII) B.pre
  have hts' : ∀ w ∈ WS, w.before _ s = true := fun w hw => hts w (List.mem_cons_of_mem _ hw)
  have hown : s.vm.findClass "java/lang/String" = some m.cls := findClass_of_methodNamed B.named
  have hlocks := B.notSynchronized
  have hS : va_S (fun q => b ≤ q) s.heap s.heap [] := va_S.rf
  have hl := lv_entry ([.ref (aS 0), .int (Int32.ofInt x), .int 0]) (n := 3) (Nat.le_of_ble_eq_true rfl)
  rw [lg_entry_eq]
  generalize (lg_sl ([.ref (aS 0), .int (Int32.ofInt x), .int 0]) ++ List.replicate (3 - (lg_sl ([.ref (aS 0), .int (Int32.ofInt x), .int 0])).length) Slot.unset).toArray = ls at hl ⊢
  have hl : lv_has ls 3 [(0, .ref (aS 0)), (1, .int (Int32.ofInt x)), (2, .int 0)] := hl
  refine lv_aload_n hx hb (TS_ioII 0 _ _ _ rfl) rfl (lv_at hl 0 rfl) ?_
  refine ro_callV (M' := MS_isL) (As := []) (rest := []) ⟨hx, hb, hml, hown, hts'⟩ hE hS (sm_isL b aS aV) mls_ioII_isL cs_isL rfl rfl hl.1 (by decide) ⟨by decide, by decide, by decide, by decide⟩ (TS_ioII 1 _ _ _ rfl) ?_
  refine lv_if_eq (tgt := 23) hx hb (TS_ioII 2 _ _ _ rfl) (by decide) (fun cc => absurd cc (by decide)) (fun _ => ?_)
  refine lv_aload_n hx hb (TS_ioII 3 _ _ _ rfl) rfl (lv_at hl 0 rfl) ?_
  refine vk_getf hx hb (hE.1.1 0 (by decide)).2.2.1 hS hown (hts' _ fls_va) (fun _ q => q) (TS_ioII 4 _ _ _ rfl) ?_
  refine lv_iload_n hx hb (TS_ioII 5 _ _ _ rfl) rfl (lv_at hl 1 rfl) ?_
  refine lv_iload_n hx hb (TS_ioII 6 _ _ _ rfl) rfl (lv_at hl 2 rfl) ?_
  refine lv_aload_n hx hb (TS_ioII 7 _ _ _ rfl) rfl (lv_at hl 0 rfl) ?_
  refine ro_callV (M' := MS_len) (As := []) (rest := [.int 0, .int (Int32.ofInt x), .ref (aV 0)]) ⟨hx, hb, hml, hown, hts'⟩ hE hS (sm_len b aS aV) mls_ioII_len cs_len rfl rfl hl.1 (Nat.le_of_ble_eq_true rfl) ⟨by decide, by decide, by decide, by decide⟩ (TS_ioII 8 _ _ _ rfl) ?_
  refine ro_callS (M' := MS_lat) (As := [.ref (aV 0), .int (Int32.ofInt x), .int 0, .int 8]) (rest := []) ⟨hx, hb, hml, hown, hts'⟩ hE hS (sm_lat b aS aV x hxx) mls_ioII_lat cs_lat rfl hl.1 (by decide) ⟨by decide, by decide, by decide, by decide⟩ (TS_ioII 9 _ _ _ rfl) ?_
  refine lv_goto (tgt := 36) hx hb (TS_ioII 10 _ _ _ rfl) (by decide) ?_
  exact W.iret hx hb hr (fun t ht _ => ⟨rfl, ht⟩) (fun q hq => by cases hq) (TS_ioII 18 _ _ _ rfl) hlocks

set_option maxRecDepth 100000 in
set_option maxHeartbeats 4000000 in
theorem sm_ioI (b : Nat) (aS aV : Nat → Nat) (x : Int) (hxx : 0 ≤ x ∧ x < 65536) : SMet MS_ioI 4 [.ref (aS 0), .int (Int32.ofInt x)] b aS aV (Int32.ofInt (sIdx x)) := by
  intro l
  refine Met.ofW (cc := cJ0_indexOf_0f7a4) (maxL := 2) (ret := some .int) (by decide +kernel) rfl ?_
  intro p e s m args below meth c s₁ B hml hv
  obtain ⟨rfl, hE⟩ := hv
  have hx := B.exec
  have hb := B.bytes
  have hr := B.returns
  have hts := atoms_spec (ws := wsM MS_ioI) B.pre
  have hts' : ∀ w ∈ WS, w.before _ s = true := fun w hw => hts w (List.mem_cons_of_mem _ hw)
  have hown : s.vm.findClass "java/lang/String" = some m.cls := findClass_of_methodNamed B.named
  have hlocks := B.notSynchronized
  have hS : va_S (fun q => b ≤ q) s.heap s.heap [] := va_S.rf
  have hl := lv_entry ([.ref (aS 0), .int (Int32.ofInt x)]) (n := 2) (Nat.le_of_ble_eq_true rfl)
  rw [lg_entry_eq]
  generalize (lg_sl ([.ref (aS 0), .int (Int32.ofInt x)]) ++ List.replicate (2 - (lg_sl ([.ref (aS 0), .int (Int32.ofInt x)])).length) Slot.unset).toArray = ls at hl ⊢
  have hl : lv_has ls 2 [(0, .ref (aS 0)), (1, .int (Int32.ofInt x))] := hl
  refine lv_aload_n hx hb (TS_ioI 0 _ _ _ rfl) rfl (lv_at hl 0 rfl) ?_
  refine lv_iload_n hx hb (TS_ioI 1 _ _ _ rfl) rfl (lv_at hl 1 rfl) ?_
  refine lv_iconst (v := 0) hx hb (TS_ioI 2 _ _ _ rfl) rfl ?_
  refine ro_callV (M' := MS_ioII) (As := [.int (Int32.ofInt x), .int 0]) (rest := []) ⟨hx, hb, hml, hown, hts'⟩ hE hS (sm_ioII b aS aV x hxx) mls_ioI_ioII cs_ioII rfl rfl hl.1 (by decide) ⟨by decide, by decide, by decide, by decide⟩ (TS_ioI 3 _ _ _ rfl) ?_
  exact W.iret hx hb hr (fun t ht _ => ⟨rfl, ht⟩) (fun q hq => by cases hq) (TS_ioI 4 _ _ _ rfl) hlocks

set_option maxRecDepth 100000 in
set_option maxHeartbeats 4000000 in
theorem g_readIdx {d d' pc : Nat} {loc : List (Option PV)} {h h1 : Hp} {Q : Option PV → Hp → Prop} {y : Int} (hd5 : 5 ≤ d) (hd' : d' + 1 ≤ d) (hl1 : loc[1]? = some (some (.inr 42))) (t1 : decode cX3_readFact pc = .ok (.ldc 100, 2)) (t2 : decode cX3_readFact (pc + 2) = .ok (.aload_n 1, 1)) (t3 : decode cX3_readFact (pc + 3) = .ok (.invokevirtual 45, 3)) (t4 : decode cX3_readFact (pc + 6) = .ok (.i2c, 1)) (t5 : decode cX3_readFact (pc + 7) = .ok (.invokevirtual 102, 3))
    (hrun : Runs M_X10_sign d' [.inr 42] h (Qi (y, h1))) (k : Go M_X3_readFact d (pc + 10) loc [.inl (sIdx (i2c y))] h1 Q) : Go M_X3_readFact d pc loc [] h Q := by
  intro p l e R s m args below meth cd b D cA k0 z H locs ls Z hcx hR hS hL hs hh hF
  obtain ⟨x1, x2, x3, x4, x5, x6, x7, x8, x9, x10, x11, x12, x13⟩ := id hcx
  obtain ⟨aS, aV, v1, v2, v3⟩ := x9.2
  have hlv := (hL.at hl1).1
  rw [show cV b (.inr 42) = .ref (b + 41) from cV_s b 41] at hlv
  refine va_ldcS x1 x2 x5 v1 t1 ?_
  refine lv_aload_n x1 x2 t2 rfl hlv ?_
  obtain ⟨⟨hcode, hini, hy1, hy2, hpar, hml⟩, hinst, hsel, T, N, hcl⟩ := cb_X10_sign
  have hM := hrun l D cA b hh (fun v hv => by rcases List.mem_cons.mp hv with rfl | hv; exact (by decide : (42 : Nat) ≤ 1000); cases hv)
  have cw : CallW R s args RX3 M_X10_sign.1.cls 45 M_X10_sign.1 M_X10_sign.2.1 M_X10_sign.2.2.1 M_X10_sign.2.2.2 (wsM M_X10_sign) (rmD d') 0 0 0 := by
    refine cwV 0 x6 (Ts := WS) (fun w hw => ?_) rfl rfl rfl ⟨rfl, hy1, hy2, hpar⟩ ⟨by show d' + 1 ≤ R.frames; omega, by show 8 + (1 + 11) + 64 * d' ≤ R.locals; omega⟩
    rcases List.mem_append.mp hw with h | h
    · simp only [List.mem_cons, List.not_mem_nil, or_false] at h
      rcases h with rfl | rfl | rfl | rfl
      · exact ⟨ml_X3_45, WS_good _ ml_X3_45⟩
      · exact ⟨hinst, WS_good _ hinst⟩
      · exact ⟨hsel, WS_good _ hsel⟩
      · exact ⟨hini, WS_good _ hini⟩
    · exact good_ws (M := M_X10_sign) hcode w h
  have hrecv := va_recv x8 hR hcl (wd_get (c := 41) (d := .inl (10, [43, 0, 0, 0, 0, 0])) rfl)
  refine call_go (va_runV (As := []) (rest := [.ref (aS 0)]) ⟨x1, x2, x4, x5, x6⟩ hM cw ⟨blind, hrecv, fun U hU hW => ⟨by rw [List.map_cons, show cV b (.inr 42) = .ref (b + 41) from cV_s b 41]; rfl, by show Rp D cA b h U.heap; rw [hU]; exact hR, va_K.moved hW.alike x8, Nx.warm hW hS hU x9⟩⟩ rfl rfl hL.1 rfl (lv_room (Nat.le_of_ble_eq_true rfl)) t3 ⟨x12, x13⟩) hS ?_
  intro r2 h' H1 locs1 hq ho hor hR1 hS1
  obtain ⟨rfl, rfl⟩ := hq
  refine lv_i2c x1 x2 t4 rfl ?_
  have ec : (((Int32.ofInt y).toUInt32 % 65536).toInt32 : Int32) = Int32.ofInt (i2c y) := by unfold i2c; rw [Int32.ofInt_toInt]
  have hb2 : 0 ≤ i2c y ∧ i2c y < 65536 := by
    have e2 := pk_char (Int32.ofInt y)
    have e3 : (Int32.ofInt y).toBitVec.toNat % 65536 < 65536 := Nat.mod_lt _ (by decide)
    unfold i2c
    rw [e2, nI_toInt (by omega)]
    omega
  show W _ _ _ _ _ _ _ _ _ _ _ _ _ _ _ (F0 m _ ls (.int (((Int32.ofInt y).toUInt32 % 65536).toInt32) :: [.ref (aS 0)]))
  rw [ec]
  refine ro_callV (M' := MS_ioI) (As := [.int (Int32.ofInt (i2c y))]) (rest := []) ⟨x1, x2, x4, x5, x6⟩ ⟨v2, v3⟩ hS1 (sm_ioI b aS aV (i2c y) hb2) mls_rf_ioI cs_ioI rfl rfl hL.1 (by decide) ⟨by omega, by omega, x12, x13⟩ t5 ?_
  have hsr : okV (.inl (sIdx (i2c y))) := by
    show inR (sIdx (i2c y))
    unfold sIdx
    repeat (first | split | exact ⟨by decide, by decide⟩)
  exact k p l e R s m args below meth cd b D cA k0 z H1 locs1 ls Z hcx hR1 hS1 hL (fun v hv => by rcases List.mem_cons.mp hv with rfl | hv; exact hsr; cases hv) ho hF
end
section
/-! by program: the methods as functions, and the walks that show it -/
def F_X11_isWithin (N : Nat) (x0 : Int) (x1 : Int) (x2 : Int) (h : Hp) : Option (Int × Hp) :=
  if x0 < x1 then
    some (0, h)
  else
  if x2 < x0 then
    some (0, h)
  else
  some (1, h)
set_option maxRecDepth 100000 in
set_option maxHeartbeats 4000000 in
theorem R_X11_isWithin (N : Nat) (x0 : Int) (x1 : Int) (x2 : Int) (h : Hp) (res : Int × Hp) (H : F_X11_isWithin N x0 x1 x2 h = some res) : Runs M_X11_isWithin 1 [.inl x0, .inl x1, .inl x2] h (Qi res) := by
  refine Runs.of rfl (Nat.le_of_ble_eq_true rfl) ?_
  show Go M_X11_isWithin 1 0 [some (.inl x0), some (.inl x1), some (.inl x2)] [] h (Qi res)
  unfold F_X11_isWithin at H
  refine g_iload_n (T_X11_isWithin 0 _ _ _ rfl) rfl ?_
  refine g_iload_n (T_X11_isWithin 1 _ _ _ rfl) rfl ?_
  refine g_icmp_lt (tgt := 14) (T_X11_isWithin 2 _ _ _ rfl) (by decide) (fun cc => ?_) (fun cc => ?_)
  · replace H := ite_p cc H
    refine g_iconst (T_X11_isWithin 8 _ _ _ rfl) ⟨by decide, by decide⟩ ?_
    exact g_zret (T_X11_isWithin 9 _ _ _ rfl) rfl (by decide) (qi_of H)
  · replace H := ite_n cc H
    refine g_iload_n (T_X11_isWithin 3 _ _ _ rfl) rfl ?_
    refine g_iload_n (T_X11_isWithin 4 _ _ _ rfl) rfl ?_
    refine g_icmp_gt (tgt := 14) (T_X11_isWithin 5 _ _ _ rfl) (by decide) (fun cc => ?_) (fun cc => ?_)
    · replace H := ite_p cc H
      refine g_iconst (T_X11_isWithin 8 _ _ _ rfl) ⟨by decide, by decide⟩ ?_
      exact g_zret (T_X11_isWithin 9 _ _ _ rfl) rfl (by decide) (qi_of H)
    · replace H := ite_n cc H
      refine g_iconst (T_X11_isWithin 6 _ _ _ rfl) ⟨by decide, by decide⟩ ?_
      refine g_goto (tgt := 15) (T_X11_isWithin 7 _ _ _ rfl) (by decide) ?_
      exact g_zret (T_X11_isWithin 9 _ _ _ rfl) rfl (by decide) (qi_of H)
def F_X1_tell (N : Nat) (x1 : Int) (x2 : Int) (x3 : Int) (x4 : Int) (h : Hp) : Option (Hp) :=
  bd (F_X11_isWithin N x1 0 13 h) fun y2 h1 =>
  if y2 = 0 then
    some h1
  else
  grd (0 ≤ x1 ∧ x1 < 14) <|
  bnd (hw h1 2 x1.toNat x2) fun h3 =>
  grd (0 ≤ x1 ∧ x1 < 14) <|
  bnd (hw h3 3 x1.toNat x3) fun h4 =>
  grd (0 ≤ x1 ∧ x1 < 14) <|
  bnd (hw h4 4 x1.toNat x4) fun h5 =>
  bnd (hw h5 1 4 (ior (h5 1 4) (ishl 1 x1))) fun h6 =>
  some h6
set_option maxRecDepth 100000 in
set_option maxHeartbeats 4000000 in
theorem R_X1_tell (N : Nat) (x1 : Int) (x2 : Int) (x3 : Int) (x4 : Int) (h : Hp) (res : Hp) (H : F_X1_tell N x1 x2 x3 x4 h = some res) : Runs M_X1_tell 2 [.inr 2, .inl x1, .inl x2, .inl x3, .inl x4] h (Qv res) := by
  refine Runs.of rfl (Nat.le_of_ble_eq_true rfl) ?_
  show Go M_X1_tell 2 0 [some (.inr 2), some (.inl x1), some (.inl x2), some (.inl x3), some (.inl x4)] [] h (Qv res)
  unfold F_X1_tell at H
  refine g_iload_n (T_X1_tell 0 _ _ _ rfl) rfl ?_
  refine g_iconst (T_X1_tell 1 _ _ _ rfl) ⟨by decide, by decide⟩ ?_
  refine g_bipush (T_X1_tell 2 _ _ _ rfl) (by decide) ?_
  obtain ⟨y2, h1, hq, H⟩ := bd_some H
  refine g_callSNi (M' := M_X11_isWithin) (av := [.inl x1, .inl 0, .inl 13]) (st := []) (T_X1_tell 3 _ _ _ rfl) ml_X1_37 cb_X11_isWithin rfl (Nat.le_of_ble_eq_true rfl) (by omega) (R_X11_isWithin N _ _ _ _ _ hq) ?_
  refine g_if_eq (tgt := 44) (T_X1_tell 4 _ _ _ rfl) (by decide) (fun cc => ?_) (fun cc => ?_)
  · replace H := ite_p cc H
    exact g_vret (T_X1_tell 28 _ _ _ rfl) rfl (qv_of H)
  · replace H := ite_n cc H
    refine g_aload_n (T_X1_tell 5 _ _ _ rfl) rfl ?_
    refine g_getR (c := 1) (r := 3) (T_X1_tell 6 _ _ _ rfl) fl_X1_9 rfl (nR rfl) rfl (by decide) ?_
    refine g_iload_n (T_X1_tell 7 _ _ _ rfl) rfl ?_
    refine g_iload_n (T_X1_tell 8 _ _ _ rfl) rfl ?_
    obtain ⟨hg, H⟩ := grd_some H
    refine g_iast (c := 2) (T_X1_tell 9 _ _ _ rfl) rfl hg ?_
    refine g_bndH H fun h3 H => ?_
    refine g_aload_n (T_X1_tell 10 _ _ _ rfl) rfl ?_
    refine g_getR (c := 1) (r := 4) (T_X1_tell 11 _ _ _ rfl) fl_X1_15 rfl (nR rfl) rfl (by decide) ?_
    refine g_iload_n (T_X1_tell 12 _ _ _ rfl) rfl ?_
    refine g_iload_n (T_X1_tell 13 _ _ _ rfl) rfl ?_
    obtain ⟨hg, H⟩ := grd_some H
    refine g_iast (c := 3) (T_X1_tell 14 _ _ _ rfl) rfl hg ?_
    refine g_bndH H fun h4 H => ?_
    refine g_aload_n (T_X1_tell 15 _ _ _ rfl) rfl ?_
    refine g_getR (c := 1) (r := 5) (T_X1_tell 16 _ _ _ rfl) fl_X1_18 rfl (nR rfl) rfl (by decide) ?_
    refine g_iload_n (T_X1_tell 17 _ _ _ rfl) rfl ?_
    refine g_iload (T_X1_tell 18 _ _ _ rfl) rfl ?_
    obtain ⟨hg, H⟩ := grd_some H
    refine g_iast (c := 4) (T_X1_tell 19 _ _ _ rfl) rfl hg ?_
    refine g_bndH H fun h5 H => ?_
    refine g_aload_n (T_X1_tell 20 _ _ _ rfl) rfl ?_
    refine g_dup (T_X1_tell 21 _ _ _ rfl) ?_
    refine g_getI (c := 1) (T_X1_tell 22 _ _ _ rfl) fl_X1_27 rfl (Or.inl rfl) ?_
    refine g_iconst (T_X1_tell 23 _ _ _ rfl) ⟨by decide, by decide⟩ ?_
    refine g_iload_n (T_X1_tell 24 _ _ _ rfl) rfl ?_
    refine g_ishl (T_X1_tell 25 _ _ _ rfl) ?_
    refine g_ior (T_X1_tell 26 _ _ _ rfl) ?_
    refine g_put (c := 1) (T_X1_tell 27 _ _ _ rfl) fl_X1_27 rfl (Or.inl rfl) ?_
    refine g_bndH H fun h6 H => ?_
    exact g_vret (T_X1_tell 28 _ _ _ rfl) rfl (qv_of H)
def F_X11_street (N : Nat) (x1 : Int) (x2 : Int) (x3 : Int) (x4 : Int) (h : Hp) : Option (Int × Hp) :=
  bd (F_X11_isWithin N x1 0 13 h) fun y2 h1 =>
  if y2 = 0 then
    some (0, h1)
  else
  bd (F_X11_isWithin N x2 0 99 h1) fun y4 h3 =>
  if y4 = 0 then
    some (0, h3)
  else
  bd (F_X11_isWithin N x3 0 9 h3) fun y6 h5 =>
  if y6 = 0 then
    some (0, h5)
  else
  bd (F_X11_isWithin N x4 0 99 h5) fun y8 h7 =>
  if y8 = 0 then
    some (0, h7)
  else
  bv (F_X1_tell N x1 x2 x3 x4 h7) fun h9 =>
  some (1, h9)
set_option maxRecDepth 100000 in
set_option maxHeartbeats 4000000 in
theorem R_X11_street (N : Nat) (x1 : Int) (x2 : Int) (x3 : Int) (x4 : Int) (h : Hp) (res : Int × Hp) (H : F_X11_street N x1 x2 x3 x4 h = some res) : Runs M_X11_street 3 [.inr 1, .inl x1, .inl x2, .inl x3, .inl x4] h (Qi res) := by
  refine Runs.of rfl (Nat.le_of_ble_eq_true rfl) ?_
  show Go M_X11_street 3 0 [some (.inr 1), some (.inl x1), some (.inl x2), some (.inl x3), some (.inl x4)] [] h (Qi res)
  unfold F_X11_street at H
  refine g_iload_n (T_X11_street 0 _ _ _ rfl) rfl ?_
  refine g_iconst (T_X11_street 1 _ _ _ rfl) ⟨by decide, by decide⟩ ?_
  refine g_bipush (T_X11_street 2 _ _ _ rfl) (by decide) ?_
  obtain ⟨y2, h1, hq, H⟩ := bd_some H
  refine g_callSi (M' := M_X11_isWithin) (av := [.inl x1, .inl 0, .inl 13]) (st := []) (T_X11_street 3 _ _ _ rfl) ml_X11_96 cb_X11_isWithin rfl (Nat.le_of_ble_eq_true rfl) (by omega) (R_X11_isWithin N _ _ _ _ _ hq) ?_
  refine g_if_eq (tgt := 41) (T_X11_street 4 _ _ _ rfl) (by decide) (fun cc => ?_) (fun cc => ?_)
  · replace H := ite_p cc H
    refine g_iconst (T_X11_street 20 _ _ _ rfl) ⟨by decide, by decide⟩ ?_
    exact g_zret (T_X11_street 21 _ _ _ rfl) rfl (by decide) (qi_of H)
  · replace H := ite_n cc H
    refine g_iload_n (T_X11_street 5 _ _ _ rfl) rfl ?_
    refine g_iconst (T_X11_street 6 _ _ _ rfl) ⟨by decide, by decide⟩ ?_
    refine g_bipush (T_X11_street 7 _ _ _ rfl) (by decide) ?_
    obtain ⟨y4, h3, hq, H⟩ := bd_some H
    refine g_callSi (M' := M_X11_isWithin) (av := [.inl x2, .inl 0, .inl 99]) (st := []) (T_X11_street 8 _ _ _ rfl) ml_X11_96 cb_X11_isWithin rfl (Nat.le_of_ble_eq_true rfl) (by omega) (R_X11_isWithin N _ _ _ _ _ hq) ?_
    refine g_if_eq (tgt := 41) (T_X11_street 9 _ _ _ rfl) (by decide) (fun cc => ?_) (fun cc => ?_)
    · replace H := ite_p cc H
      refine g_iconst (T_X11_street 20 _ _ _ rfl) ⟨by decide, by decide⟩ ?_
      exact g_zret (T_X11_street 21 _ _ _ rfl) rfl (by decide) (qi_of H)
    · replace H := ite_n cc H
      refine g_iload_n (T_X11_street 10 _ _ _ rfl) rfl ?_
      refine g_iconst (T_X11_street 11 _ _ _ rfl) ⟨by decide, by decide⟩ ?_
      refine g_bipush (T_X11_street 12 _ _ _ rfl) (by decide) ?_
      obtain ⟨y6, h5, hq, H⟩ := bd_some H
      refine g_callSi (M' := M_X11_isWithin) (av := [.inl x3, .inl 0, .inl 9]) (st := []) (T_X11_street 13 _ _ _ rfl) ml_X11_96 cb_X11_isWithin rfl (Nat.le_of_ble_eq_true rfl) (by omega) (R_X11_isWithin N _ _ _ _ _ hq) ?_
      refine g_if_eq (tgt := 41) (T_X11_street 14 _ _ _ rfl) (by decide) (fun cc => ?_) (fun cc => ?_)
      · replace H := ite_p cc H
        refine g_iconst (T_X11_street 20 _ _ _ rfl) ⟨by decide, by decide⟩ ?_
        exact g_zret (T_X11_street 21 _ _ _ rfl) rfl (by decide) (qi_of H)
      · replace H := ite_n cc H
        refine g_iload (T_X11_street 15 _ _ _ rfl) rfl ?_
        refine g_iconst (T_X11_street 16 _ _ _ rfl) ⟨by decide, by decide⟩ ?_
        refine g_bipush (T_X11_street 17 _ _ _ rfl) (by decide) ?_
        obtain ⟨y8, h7, hq, H⟩ := bd_some H
        refine g_callSi (M' := M_X11_isWithin) (av := [.inl x4, .inl 0, .inl 99]) (st := []) (T_X11_street 18 _ _ _ rfl) ml_X11_96 cb_X11_isWithin rfl (Nat.le_of_ble_eq_true rfl) (by omega) (R_X11_isWithin N _ _ _ _ _ hq) ?_
        refine g_if_ne (tgt := 43) (T_X11_street 19 _ _ _ rfl) (by decide) (fun cc => ?_) (fun cc => ?_)
        · replace H := ite_n cc H
          refine g_aload_n (T_X11_street 22 _ _ _ rfl) rfl ?_
          refine g_getR (c := 0) (r := 2) (T_X11_street 23 _ _ _ rfl) fl_X11_28 rfl (nR rfl) rfl (by decide) ?_
          refine g_iload_n (T_X11_street 24 _ _ _ rfl) rfl ?_
          refine g_iload_n (T_X11_street 25 _ _ _ rfl) rfl ?_
          refine g_iload_n (T_X11_street 26 _ _ _ rfl) rfl ?_
          refine g_iload (T_X11_street 27 _ _ _ rfl) rfl ?_
          obtain ⟨h9, hq, H⟩ := bv_some H
          refine g_callVv (M' := M_X1_tell) (c := 1) (av := [.inl x1, .inl x2, .inl x3, .inl x4]) (st := []) (T_X11_street 28 _ _ _ rfl) ml_X11_100 cb_X1_tell rfl rfl (Nat.le_of_ble_eq_true rfl) (by omega) (R_X1_tell N _ _ _ _ _ _ hq) ?_
          refine g_iconst (T_X11_street 29 _ _ _ rfl) ⟨by decide, by decide⟩ ?_
          exact g_zret (T_X11_street 30 _ _ _ rfl) rfl (by decide) (qi_of H)
        · replace H := ite_p cc H
          refine g_iconst (T_X11_street 20 _ _ _ rfl) ⟨by decide, by decide⟩ ?_
          exact g_zret (T_X11_street 21 _ _ _ rfl) rfl (by decide) (qi_of H)
def F_X11_cartAt (N : Nat) (x1 : Int) (h : Hp) : Option (Nat × Hp) :=
  bd (F_X11_isWithin N x1 0 4 h) fun y2 h1 =>
  if y2 = 0 then
    some (0, h1)
  else
  grd (0 ≤ x1 ∧ x1 < 5 ∧ (h1 20 x1.toNat).toNat ≤ 1000) <|
  bnd ((h1 20 x1.toNat).toNat) fun z3 =>
  some (z3, h1)
set_option maxRecDepth 100000 in
set_option maxHeartbeats 4000000 in
theorem R_X11_cartAt (N : Nat) (x1 : Int) (h : Hp) (res : Nat × Hp) (H : F_X11_cartAt N x1 h = some res) : Runs M_X11_cartAt 2 [.inr 1, .inl x1] h (Qr res) := by
  refine Runs.of rfl (Nat.le_of_ble_eq_true rfl) ?_
  show Go M_X11_cartAt 2 0 [some (.inr 1), some (.inl x1)] [] h (Qr res)
  unfold F_X11_cartAt at H
  refine g_iload_n (T_X11_cartAt 0 _ _ _ rfl) rfl ?_
  refine g_iconst (T_X11_cartAt 1 _ _ _ rfl) ⟨by decide, by decide⟩ ?_
  refine g_iconst (T_X11_cartAt 2 _ _ _ rfl) ⟨by decide, by decide⟩ ?_
  obtain ⟨y2, h1, hq, H⟩ := bd_some H
  refine g_callSi (M' := M_X11_isWithin) (av := [.inl x1, .inl 0, .inl 4]) (st := []) (T_X11_cartAt 3 _ _ _ rfl) ml_X11_96 cb_X11_isWithin rfl (Nat.le_of_ble_eq_true rfl) (by omega) (R_X11_isWithin N _ _ _ _ _ hq) ?_
  refine g_if_eq (tgt := 18) (T_X11_cartAt 4 _ _ _ rfl) (by decide) (fun cc => ?_) (fun cc => ?_)
  · replace H := ite_p cc H
    refine g_null (T_X11_cartAt 10 _ _ _ rfl) ?_
    exact g_aret (T_X11_cartAt 11 _ _ _ rfl) rfl (qr_of H)
  · replace H := ite_n cc H
    refine g_aload_n (T_X11_cartAt 5 _ _ _ rfl) rfl ?_
    refine g_getR (c := 0) (r := 21) (T_X11_cartAt 6 _ _ _ rfl) fl_X11_47 rfl (nR rfl) rfl (by decide) ?_
    refine g_iload_n (T_X11_cartAt 7 _ _ _ rfl) rfl ?_
    obtain ⟨hg, H⟩ := grd_some H
    refine g_aald (c := 20) (T_X11_cartAt 8 _ _ _ rfl) rfl ⟨hg.1, hg.2.1⟩ hg.2.2 ?_
    refine g_bndR H fun z3 H => ?_
    refine g_goto (tgt := 19) (T_X11_cartAt 9 _ _ _ rfl) (by decide) ?_
    exact g_aret (T_X11_cartAt 11 _ _ _ rfl) rfl (qr_of H)
def F_X0_tellRoom (N : Nat) (t : Nat) (x1 : Int) (h : Hp) : Option (Hp) :=
  bnd (hw h t 4 x1) fun h1 =>
  some h1
set_option maxRecDepth 100000 in
set_option maxHeartbeats 4000000 in
theorem R_X0_tellRoom (N : Nat) (t : Nat) (ht : isCart t) (x1 : Int) (h : Hp) (res : Hp) (H : F_X0_tellRoom N t x1 h = some res) : Runs M_X0_tellRoom 1 [.inr (t + 1), .inl x1] h (Qv res) := by
  refine Runs.of rfl (Nat.le_of_ble_eq_true rfl) ?_
  show Go M_X0_tellRoom 1 0 [some (.inr (t + 1)), some (.inl x1)] [] h (Qv res)
  unfold F_X0_tellRoom at H
  refine g_aload_n (T_X0_tellRoom 0 _ _ _ rfl) rfl ?_
  refine g_iload_n (T_X0_tellRoom 1 _ _ _ rfl) rfl ?_
  refine g_put (c := t) (T_X0_tellRoom 2 _ _ _ rfl) fl_X0_22 ht.2.1 (Or.inl rfl) ?_
  refine g_bndH H fun h1 H => ?_
  exact g_vret (T_X0_tellRoom 3 _ _ _ rfl) rfl (qv_of H)
def F_X11_cart (N : Nat) (x1 : Int) (x2 : Int) (h : Hp) : Option (Int × Hp) :=
  bd (F_X11_cartAt N x1 h) fun z2 h1 =>
  if z2 = 0 then
    some (0, h1)
  else
  bd (F_X11_isWithin N x2 1 99 h1) fun y4 h3 =>
  if y4 = 0 then
    some (0, h3)
  else
  grd (cartR z2) <|
  bv (F_X0_tellRoom N (z2 - 1) x2 h3) fun h6 =>
  some (1, h6)
set_option maxRecDepth 100000 in
set_option maxHeartbeats 4000000 in
theorem R_X11_cart (N : Nat) (x1 : Int) (x2 : Int) (h : Hp) (res : Int × Hp) (H : F_X11_cart N x1 x2 h = some res) : Runs M_X11_cart 3 [.inr 1, .inl x1, .inl x2] h (Qi res) := by
  refine Runs.of rfl (Nat.le_of_ble_eq_true rfl) ?_
  show Go M_X11_cart 3 0 [some (.inr 1), some (.inl x1), some (.inl x2), none] [] h (Qi res)
  unfold F_X11_cart at H
  refine g_aload_n (T_X11_cart 0 _ _ _ rfl) rfl ?_
  refine g_iload_n (T_X11_cart 1 _ _ _ rfl) rfl ?_
  obtain ⟨z2, h1, hq, H⟩ := bd_some H
  refine g_callVr (M' := M_X11_cartAt) (c := 0) (av := [.inl x1]) (st := []) (T_X11_cart 2 _ _ _ rfl) ml_X11_104 cb_X11_cartAt rfl rfl (Nat.le_of_ble_eq_true rfl) (by omega) (R_X11_cartAt N _ _ _ hq) ?_
  refine g_astore_n (T_X11_cart 3 _ _ _ rfl) (by decide) ?_
  refine g_aload_n (T_X11_cart 4 _ _ _ rfl) rfl ?_
  refine g_ifnull (tgt := 20) (T_X11_cart 5 _ _ _ rfl) (by decide) (fun cc => ?_) (fun cc => ?_)
  · replace H := ite_p cc H
    refine g_iconst (T_X11_cart 11 _ _ _ rfl) ⟨by decide, by decide⟩ ?_
    exact g_zret (T_X11_cart 12 _ _ _ rfl) rfl (by decide) (qi_of H)
  · replace H := ite_n cc H
    refine g_iload_n (T_X11_cart 6 _ _ _ rfl) rfl ?_
    refine g_iconst (T_X11_cart 7 _ _ _ rfl) ⟨by decide, by decide⟩ ?_
    refine g_bipush (T_X11_cart 8 _ _ _ rfl) (by decide) ?_
    obtain ⟨y4, h3, hq, H⟩ := bd_some H
    refine g_callSi (M' := M_X11_isWithin) (av := [.inl x2, .inl 1, .inl 99]) (st := []) (T_X11_cart 9 _ _ _ rfl) ml_X11_96 cb_X11_isWithin rfl (Nat.le_of_ble_eq_true rfl) (by omega) (R_X11_isWithin N _ _ _ _ _ hq) ?_
    refine g_if_ne (tgt := 22) (T_X11_cart 10 _ _ _ rfl) (by decide) (fun cc => ?_) (fun cc => ?_)
    · replace H := ite_n cc H
      refine g_aload_n (T_X11_cart 13 _ _ _ rfl) rfl ?_
      refine g_iload_n (T_X11_cart 14 _ _ _ rfl) rfl ?_
      obtain ⟨hg, H⟩ := grd_some H
      obtain ⟨t5, rfl, ht5⟩ := cartR_spec hg
      simp only [Nat.add_sub_cancel] at H
      obtain ⟨h6, hq, H⟩ := bv_some H
      refine g_callVv (M' := M_X0_tellRoom) (c := t5) (av := [.inl x2]) (st := []) (T_X11_cart 15 _ _ _ rfl) ml_X11_108 cb_X0_tellRoom ht5.2.1 rfl (Nat.le_of_ble_eq_true rfl) (by omega) (R_X0_tellRoom N t5 ht5 _ _ _ hq) ?_
      refine g_iconst (T_X11_cart 16 _ _ _ rfl) ⟨by decide, by decide⟩ ?_
      exact g_zret (T_X11_cart 17 _ _ _ rfl) rfl (by decide) (qi_of H)
    · replace H := ite_p cc H
      refine g_iconst (T_X11_cart 11 _ _ _ rfl) ⟨by decide, by decide⟩ ?_
      exact g_zret (T_X11_cart 12 _ _ _ rfl) rfl (by decide) (qi_of H)
def F_X1_isTold (N : Nat) (x1 : Int) (h : Hp) : Option (Int × Hp) :=
  if x1 < 0 then
    some (0, h)
  else
  if 14 ≤ x1 then
    some (0, h)
  else
  if (iand (ishr (h 1 4) x1) 1) = 1 then
    some (1, h)
  else
  some (0, h)
set_option maxRecDepth 100000 in
set_option maxHeartbeats 4000000 in
theorem R_X1_isTold (N : Nat) (x1 : Int) (h : Hp) (res : Int × Hp) (H : F_X1_isTold N x1 h = some res) : Runs M_X1_isTold 1 [.inr 2, .inl x1] h (Qi res) := by
  refine Runs.of rfl (Nat.le_of_ble_eq_true rfl) ?_
  show Go M_X1_isTold 1 0 [some (.inr 2), some (.inl x1)] [] h (Qi res)
  unfold F_X1_isTold at H
  refine g_iload_n (T_X1_isTold 0 _ _ _ rfl) rfl ?_
  refine g_if_lt (tgt := 26) (T_X1_isTold 1 _ _ _ rfl) (by decide) (fun cc => ?_) (fun cc => ?_)
  · replace H := ite_p cc H
    refine g_iconst (T_X1_isTold 15 _ _ _ rfl) ⟨by decide, by decide⟩ ?_
    exact g_zret (T_X1_isTold 16 _ _ _ rfl) rfl (by decide) (qi_of H)
  · replace H := ite_n cc H
    refine g_iload_n (T_X1_isTold 2 _ _ _ rfl) rfl ?_
    refine g_bipush (T_X1_isTold 3 _ _ _ rfl) (by decide) ?_
    refine g_icmp_ge (tgt := 26) (T_X1_isTold 4 _ _ _ rfl) (by decide) (fun cc => ?_) (fun cc => ?_)
    · replace H := ite_p cc H
      refine g_iconst (T_X1_isTold 15 _ _ _ rfl) ⟨by decide, by decide⟩ ?_
      exact g_zret (T_X1_isTold 16 _ _ _ rfl) rfl (by decide) (qi_of H)
    · replace H := ite_n cc H
      refine g_aload_n (T_X1_isTold 5 _ _ _ rfl) rfl ?_
      refine g_getI (c := 1) (T_X1_isTold 6 _ _ _ rfl) fl_X1_27 rfl (Or.inl rfl) ?_
      refine g_iload_n (T_X1_isTold 7 _ _ _ rfl) rfl ?_
      refine g_ishr (T_X1_isTold 8 _ _ _ rfl) ?_
      refine g_iconst (T_X1_isTold 9 _ _ _ rfl) ⟨by decide, by decide⟩ ?_
      refine g_iand (T_X1_isTold 10 _ _ _ rfl) ?_
      refine g_iconst (T_X1_isTold 11 _ _ _ rfl) ⟨by decide, by decide⟩ ?_
      refine g_icmp_ne (tgt := 26) (T_X1_isTold 12 _ _ _ rfl) (by decide) (fun cc => ?_) (fun cc => ?_)
      · replace H := ite_n cc H
        refine g_iconst (T_X1_isTold 15 _ _ _ rfl) ⟨by decide, by decide⟩ ?_
        exact g_zret (T_X1_isTold 16 _ _ _ rfl) rfl (by decide) (qi_of H)
      · replace H := ite_p cc H
        refine g_iconst (T_X1_isTold 13 _ _ _ rfl) ⟨by decide, by decide⟩ ?_
        refine g_goto (tgt := 27) (T_X1_isTold 14 _ _ _ rfl) (by decide) ?_
        exact g_zret (T_X1_isTold 16 _ _ _ rfl) rfl (by decide) (qi_of H)
def F_X1_depthOf (N : Nat) (x1 : Int) (h : Hp) : Option (Int × Hp) :=
  if x1 < 0 then
    some (0, h)
  else
  if 14 ≤ x1 then
    some (0, h)
  else
  grd (0 ≤ x1 ∧ x1 < 14) <|
  some ((h 5 x1.toNat), h)
set_option maxRecDepth 100000 in
set_option maxHeartbeats 4000000 in
theorem R_X1_depthOf (N : Nat) (x1 : Int) (h : Hp) (res : Int × Hp) (H : F_X1_depthOf N x1 h = some res) : Runs M_X1_depthOf 1 [.inr 2, .inl x1] h (Qi res) := by
  refine Runs.of rfl (Nat.le_of_ble_eq_true rfl) ?_
  show Go M_X1_depthOf 1 0 [some (.inr 2), some (.inl x1)] [] h (Qi res)
  unfold F_X1_depthOf at H
  refine g_iload_n (T_X1_depthOf 0 _ _ _ rfl) rfl ?_
  refine g_if_lt (tgt := 19) (T_X1_depthOf 1 _ _ _ rfl) (by decide) (fun cc => ?_) (fun cc => ?_)
  · replace H := ite_p cc H
    refine g_iconst (T_X1_depthOf 10 _ _ _ rfl) ⟨by decide, by decide⟩ ?_
    exact g_iret (T_X1_depthOf 11 _ _ _ rfl) rfl (qi_of H)
  · replace H := ite_n cc H
    refine g_iload_n (T_X1_depthOf 2 _ _ _ rfl) rfl ?_
    refine g_bipush (T_X1_depthOf 3 _ _ _ rfl) (by decide) ?_
    refine g_icmp_ge (tgt := 19) (T_X1_depthOf 4 _ _ _ rfl) (by decide) (fun cc => ?_) (fun cc => ?_)
    · replace H := ite_p cc H
      refine g_iconst (T_X1_depthOf 10 _ _ _ rfl) ⟨by decide, by decide⟩ ?_
      exact g_iret (T_X1_depthOf 11 _ _ _ rfl) rfl (qi_of H)
    · replace H := ite_n cc H
      refine g_aload_n (T_X1_depthOf 5 _ _ _ rfl) rfl ?_
      refine g_getR (c := 1) (r := 6) (T_X1_depthOf 6 _ _ _ rfl) fl_X1_21 rfl (nR rfl) rfl (by decide) ?_
      refine g_iload_n (T_X1_depthOf 7 _ _ _ rfl) rfl ?_
      obtain ⟨hg, H⟩ := grd_some H
      refine g_iald (c := 5) (T_X1_depthOf 8 _ _ _ rfl) rfl hg ?_
      refine g_goto (tgt := 20) (T_X1_depthOf 9 _ _ _ rfl) (by decide) ?_
      exact g_iret (T_X1_depthOf 11 _ _ _ rfl) rfl (qi_of H)
def J_X1_deepen_28 (N : Nat) (x1 : Int) (h : Hp) : Option (Int × Hp) :=
  bd (F_X1_depthOf N x1 h) fun y2 h1 =>
  some (y2, h1)
set_option maxRecDepth 100000 in
set_option maxHeartbeats 4000000 in
theorem R_J_X1_deepen_28 (N : Nat) (x1 : Int) (h : Hp) (res : Int × Hp) (H : J_X1_deepen_28 N x1 h = some res) : Go M_X1_deepen 2 28 [some (.inr 2), some (.inl x1), none] [] h (Qi res) := by
  unfold J_X1_deepen_28 at H
  refine g_aload_n (T_X1_deepen 16 _ _ _ rfl) rfl ?_
  refine g_iload_n (T_X1_deepen 17 _ _ _ rfl) rfl ?_
  obtain ⟨y2, h1, hq, H⟩ := bd_some H
  refine g_callVi (M' := M_X1_depthOf) (c := 1) (av := [.inl x1]) (st := []) (T_X1_deepen 18 _ _ _ rfl) ml_X1_51 cb_X1_depthOf rfl rfl (Nat.le_of_ble_eq_true rfl) (by omega) (R_X1_depthOf N _ _ _ hq) ?_
  exact g_iret (T_X1_deepen 19 _ _ _ rfl) rfl (qi_of H)
def F_X1_deepen (N : Nat) (x1 : Int) (x2 : Int) (h : Hp) : Option (Int × Hp) :=
  bd (F_X1_isTold N x1 h) fun y2 h1 =>
  if y2 = 0 then
    J_X1_deepen_28 N  x1 h1
  else
  grd (0 ≤ x1 ∧ x1 < 14) <|
  grd (0 ≤ x1 ∧ x1 < 14) <|
  bnd (hw h1 5 x1.toNat (imin 999 (w32 ((h1 5 x1.toNat) + x2)))) fun h3 =>
  J_X1_deepen_28 N  x1 h3
set_option maxRecDepth 100000 in
set_option maxHeartbeats 4000000 in
theorem R_X1_deepen (N : Nat) (x1 : Int) (x2 : Int) (h : Hp) (res : Int × Hp) (H : F_X1_deepen N x1 x2 h = some res) : Runs M_X1_deepen 2 [.inr 2, .inl x1, .inl x2] h (Qi res) := by
  refine Runs.of rfl (Nat.le_of_ble_eq_true rfl) ?_
  show Go M_X1_deepen 2 0 [some (.inr 2), some (.inl x1), some (.inl x2)] [] h (Qi res)
  unfold F_X1_deepen at H
  refine g_aload_n (T_X1_deepen 0 _ _ _ rfl) rfl ?_
  refine g_iload_n (T_X1_deepen 1 _ _ _ rfl) rfl ?_
  obtain ⟨y2, h1, hq, H⟩ := bd_some H
  refine g_callVi (M' := M_X1_isTold) (c := 1) (av := [.inl x1]) (st := []) (T_X1_deepen 2 _ _ _ rfl) ml_X1_41 cb_X1_isTold rfl rfl (Nat.le_of_ble_eq_true rfl) (by omega) (R_X1_isTold N _ _ _ hq) ?_
  refine g_if_eq (tgt := 28) (T_X1_deepen 3 _ _ _ rfl) (by decide) (fun cc => ?_) (fun cc => ?_)
  · replace H := ite_p cc H
    refine g_weak [true, true, false] ?_
    exact R_J_X1_deepen_28 N   _ _ _ H
  · replace H := ite_n cc H
    refine g_aload_n (T_X1_deepen 4 _ _ _ rfl) rfl ?_
    refine g_getR (c := 1) (r := 6) (T_X1_deepen 5 _ _ _ rfl) fl_X1_21 rfl (nR rfl) rfl (by decide) ?_
    refine g_iload_n (T_X1_deepen 6 _ _ _ rfl) rfl ?_
    refine g_sipush (T_X1_deepen 7 _ _ _ rfl) (by decide) ?_
    refine g_aload_n (T_X1_deepen 8 _ _ _ rfl) rfl ?_
    refine g_getR (c := 1) (r := 6) (T_X1_deepen 9 _ _ _ rfl) fl_X1_21 rfl (nR rfl) rfl (by decide) ?_
    refine g_iload_n (T_X1_deepen 10 _ _ _ rfl) rfl ?_
    obtain ⟨hg, H⟩ := grd_some H
    refine g_iald (c := 5) (T_X1_deepen 11 _ _ _ rfl) rfl hg ?_
    refine g_iload_n (T_X1_deepen 12 _ _ _ rfl) rfl ?_
    refine g_iadd (T_X1_deepen 13 _ _ _ rfl) ?_
    refine g_min (st := [.inl x1, .inr 6]) (T_X1_deepen 14 _ _ _ rfl) ml_X1_45 wmin (Nat.le_of_ble_eq_true rfl) (by omega) ?_
    obtain ⟨hg, H⟩ := grd_some H
    refine g_iast (c := 5) (T_X1_deepen 15 _ _ _ rfl) rfl hg ?_
    refine g_bndH H fun h3 H => ?_
    refine g_weak [true, true, false] ?_
    exact R_J_X1_deepen_28 N   _ _ _ H
def F_X11_pour (N : Nat) (x1 : Int) (x2 : Int) (h : Hp) : Option (Int × Hp) :=
  bd (F_X1_isTold N x1 h) fun y2 h1 =>
  if y2 = 0 then
    some ((-1), h1)
  else
  bd (F_X11_isWithin N x2 0 999 h1) fun y4 h3 =>
  if y4 = 0 then
    some ((-1), h3)
  else
  bd (F_X1_deepen N x1 x2 h3) fun y6 h5 =>
  some (y6, h5)
set_option maxRecDepth 100000 in
set_option maxHeartbeats 4000000 in
theorem R_X11_pour (N : Nat) (x1 : Int) (x2 : Int) (h : Hp) (res : Int × Hp) (H : F_X11_pour N x1 x2 h = some res) : Runs M_X11_pour 3 [.inr 1, .inl x1, .inl x2] h (Qi res) := by
  refine Runs.of rfl (Nat.le_of_ble_eq_true rfl) ?_
  show Go M_X11_pour 3 0 [some (.inr 1), some (.inl x1), some (.inl x2)] [] h (Qi res)
  unfold F_X11_pour at H
  refine g_aload_n (T_X11_pour 0 _ _ _ rfl) rfl ?_
  refine g_getR (c := 0) (r := 2) (T_X11_pour 1 _ _ _ rfl) fl_X11_28 rfl (nR rfl) rfl (by decide) ?_
  refine g_iload_n (T_X11_pour 2 _ _ _ rfl) rfl ?_
  obtain ⟨y2, h1, hq, H⟩ := bd_some H
  refine g_callVi (M' := M_X1_isTold) (c := 1) (av := [.inl x1]) (st := []) (T_X11_pour 3 _ _ _ rfl) ml_X11_112 cb_X1_isTold rfl rfl (Nat.le_of_ble_eq_true rfl) (by omega) (R_X1_isTold N _ _ _ hq) ?_
  refine g_if_eq (tgt := 22) (T_X11_pour 4 _ _ _ rfl) (by decide) (fun cc => ?_) (fun cc => ?_)
  · replace H := ite_p cc H
    refine g_iconst (T_X11_pour 10 _ _ _ rfl) ⟨by decide, by decide⟩ ?_
    exact g_iret (T_X11_pour 11 _ _ _ rfl) rfl (qi_of H)
  · replace H := ite_n cc H
    refine g_iload_n (T_X11_pour 5 _ _ _ rfl) rfl ?_
    refine g_iconst (T_X11_pour 6 _ _ _ rfl) ⟨by decide, by decide⟩ ?_
    refine g_sipush (T_X11_pour 7 _ _ _ rfl) (by decide) ?_
    obtain ⟨y4, h3, hq, H⟩ := bd_some H
    refine g_callSi (M' := M_X11_isWithin) (av := [.inl x2, .inl 0, .inl 999]) (st := []) (T_X11_pour 8 _ _ _ rfl) ml_X11_96 cb_X11_isWithin rfl (Nat.le_of_ble_eq_true rfl) (by omega) (R_X11_isWithin N _ _ _ _ _ hq) ?_
    refine g_if_ne (tgt := 24) (T_X11_pour 9 _ _ _ rfl) (by decide) (fun cc => ?_) (fun cc => ?_)
    · replace H := ite_n cc H
      refine g_aload_n (T_X11_pour 12 _ _ _ rfl) rfl ?_
      refine g_getR (c := 0) (r := 2) (T_X11_pour 13 _ _ _ rfl) fl_X11_28 rfl (nR rfl) rfl (by decide) ?_
      refine g_iload_n (T_X11_pour 14 _ _ _ rfl) rfl ?_
      refine g_iload_n (T_X11_pour 15 _ _ _ rfl) rfl ?_
      obtain ⟨y6, h5, hq, H⟩ := bd_some H
      refine g_callVi (M' := M_X1_deepen) (c := 1) (av := [.inl x1, .inl x2]) (st := []) (T_X11_pour 16 _ _ _ rfl) ml_X11_116 cb_X1_deepen rfl rfl (Nat.le_of_ble_eq_true rfl) (by omega) (R_X1_deepen N _ _ _ _ hq) ?_
      exact g_iret (T_X11_pour 17 _ _ _ rfl) rfl (qi_of H)
    · replace H := ite_p cc H
      refine g_iconst (T_X11_pour 10 _ _ _ rfl) ⟨by decide, by decide⟩ ?_
      exact g_iret (T_X11_pour 11 _ _ _ rfl) rfl (qi_of H)
def F_X10_hasRoomFor (N : Nat) (x1 : Int) (h : Hp) : Option (Int × Hp) :=
  if 260 < (w32 ((h 41 1) + x1)) then
    some (0, h)
  else
  some (1, h)
set_option maxRecDepth 100000 in
set_option maxHeartbeats 4000000 in
theorem R_X10_hasRoomFor (N : Nat) (x1 : Int) (h : Hp) (res : Int × Hp) (H : F_X10_hasRoomFor N x1 h = some res) : Runs M_X10_hasRoomFor 1 [.inr 42, .inl x1] h (Qi res) := by
  refine Runs.of rfl (Nat.le_of_ble_eq_true rfl) ?_
  show Go M_X10_hasRoomFor 1 0 [some (.inr 42), some (.inl x1)] [] h (Qi res)
  unfold F_X10_hasRoomFor at H
  refine g_aload_n (T_X10_hasRoomFor 0 _ _ _ rfl) rfl ?_
  refine g_getI (c := 41) (T_X10_hasRoomFor 1 _ _ _ rfl) fl_X10_15 rfl (Or.inl rfl) ?_
  refine g_iload_n (T_X10_hasRoomFor 2 _ _ _ rfl) rfl ?_
  refine g_iadd (T_X10_hasRoomFor 3 _ _ _ rfl) ?_
  refine g_sipush (T_X10_hasRoomFor 4 _ _ _ rfl) (by decide) ?_
  refine g_icmp_gt (tgt := 16) (T_X10_hasRoomFor 5 _ _ _ rfl) (by decide) (fun cc => ?_) (fun cc => ?_)
  · replace H := ite_p cc H
    refine g_iconst (T_X10_hasRoomFor 8 _ _ _ rfl) ⟨by decide, by decide⟩ ?_
    exact g_zret (T_X10_hasRoomFor 9 _ _ _ rfl) rfl (by decide) (qi_of H)
  · replace H := ite_n cc H
    refine g_iconst (T_X10_hasRoomFor 6 _ _ _ rfl) ⟨by decide, by decide⟩ ?_
    refine g_goto (tgt := 17) (T_X10_hasRoomFor 7 _ _ _ rfl) (by decide) ?_
    exact g_zret (T_X10_hasRoomFor 9 _ _ _ rfl) rfl (by decide) (qi_of H)
def J_X10_addWord_43 (N : Nat) (k3 : Int → Int → Hp → Option (Hp)) (x1 : Int) (x2 : Int) (h : Hp) : Option (Hp) :=
  bnd (w32 (x2 + (-8))) fun y1 =>
  k3 x1 y1 h
set_option maxRecDepth 100000 in
set_option maxHeartbeats 4000000 in
theorem R_J_X10_addWord_43 (N : Nat) (k3 : Int → Int → Hp → Option (Hp)) (hk3 : ∀ (x1 : Int) (x2 : Int) (h : Hp) (res : Hp), k3 x1 x2 h = some res → Go M_X10_addWord 1 3 [some (.inr 42), some (.inl x1), some (.inl x2)] [] h (Qv res)) (x1 : Int) (x2 : Int) (h : Hp) (res : Hp) (H : J_X10_addWord_43 N k3 x1 x2 h = some res) : Go M_X10_addWord 1 43 [some (.inr 42), some (.inl x1), some (.inl x2)] [] h (Qv res) := by
  unfold J_X10_addWord_43 at H
  refine g_iincB (T_X10_addWord 24 _ _ _ rfl) rfl (by decide) H fun y1 H => ?_
  refine g_goto (tgt := 3) (T_X10_addWord 25 _ _ _ rfl) (by decide) ?_
  refine g_weak [true, true, true] ?_
  exact hk3 _ _ _ _ H
def L_X10_addWord_3 (N : Nat) : Nat → Int → Int → Hp → Option (Hp)
  | 0, _, _, _ => none
  | n + 1, x1, x2, h =>
    if x2 < 0 then
      some h
    else
    if 260 ≤ (h 41 1) then
      J_X10_addWord_43 N (L_X10_addWord_3 N n) x1 x2 h
    else
    grd (0 ≤ (h 41 1) ∧ (h 41 1) < 260) <|
    bnd (hw h 42 (h 41 1).toNat (iand (iushr x1 x2) 255)) fun h1 =>
    bnd (hw h1 41 1 (w32 ((h1 41 1) + 1))) fun h2 =>
    J_X10_addWord_43 N (L_X10_addWord_3 N n) x1 x2 h2
set_option maxRecDepth 100000 in
set_option maxHeartbeats 4000000 in
theorem R_L_X10_addWord_3 (N : Nat) : ∀ (n : Nat) (x1 : Int) (x2 : Int) (h : Hp) (res : Hp), L_X10_addWord_3 N n x1 x2 h = some res → Go M_X10_addWord 1 3 [some (.inr 42), some (.inl x1), some (.inl x2)] [] h (Qv res)
  | 0, _, _, _, _, H => by cases H
  | n + 1, x1, x2, h, res, H => by
    have ih := R_L_X10_addWord_3 N n
    simp only [L_X10_addWord_3] at H
    refine g_iload_n (T_X10_addWord 2 _ _ _ rfl) rfl ?_
    refine g_if_lt (tgt := 49) (T_X10_addWord 3 _ _ _ rfl) (by decide) (fun cc => ?_) (fun cc => ?_)
    · replace H := ite_p cc H
      exact g_vret (T_X10_addWord 26 _ _ _ rfl) rfl (qv_of H)
    · replace H := ite_n cc H
      refine g_aload_n (T_X10_addWord 4 _ _ _ rfl) rfl ?_
      refine g_getI (c := 41) (T_X10_addWord 5 _ _ _ rfl) fl_X10_15 rfl (Or.inl rfl) ?_
      refine g_sipush (T_X10_addWord 6 _ _ _ rfl) (by decide) ?_
      refine g_icmp_ge (tgt := 43) (T_X10_addWord 7 _ _ _ rfl) (by decide) (fun cc => ?_) (fun cc => ?_)
      · replace H := ite_p cc H
        refine g_weak [true, true, true] ?_
        exact R_J_X10_addWord_43 N (L_X10_addWord_3 N n) ih _ _ _ _ H
      · replace H := ite_n cc H
        refine g_aload_n (T_X10_addWord 8 _ _ _ rfl) rfl ?_
        refine g_getR (c := 41) (r := 43) (T_X10_addWord 9 _ _ _ rfl) fl_X10_9 rfl (nR rfl) rfl (by decide) ?_
        refine g_aload_n (T_X10_addWord 10 _ _ _ rfl) rfl ?_
        refine g_getI (c := 41) (T_X10_addWord 11 _ _ _ rfl) fl_X10_15 rfl (Or.inl rfl) ?_
        refine g_iload_n (T_X10_addWord 12 _ _ _ rfl) rfl ?_
        refine g_iload_n (T_X10_addWord 13 _ _ _ rfl) rfl ?_
        refine g_iushr (T_X10_addWord 14 _ _ _ rfl) ?_
        refine g_sipush (T_X10_addWord 15 _ _ _ rfl) (by decide) ?_
        refine g_iand (T_X10_addWord 16 _ _ _ rfl) ?_
        obtain ⟨hg, H⟩ := grd_some H
        refine g_iast (c := 42) (T_X10_addWord 17 _ _ _ rfl) rfl hg ?_
        refine g_bndH H fun h1 H => ?_
        refine g_aload_n (T_X10_addWord 18 _ _ _ rfl) rfl ?_
        refine g_dup (T_X10_addWord 19 _ _ _ rfl) ?_
        refine g_getI (c := 41) (T_X10_addWord 20 _ _ _ rfl) fl_X10_15 rfl (Or.inl rfl) ?_
        refine g_iconst (T_X10_addWord 21 _ _ _ rfl) ⟨by decide, by decide⟩ ?_
        refine g_iadd (T_X10_addWord 22 _ _ _ rfl) ?_
        refine g_put (c := 41) (T_X10_addWord 23 _ _ _ rfl) fl_X10_15 rfl (Or.inl rfl) ?_
        refine g_bndH H fun h2 H => ?_
        refine g_weak [true, true, true] ?_
        exact R_J_X10_addWord_43 N (L_X10_addWord_3 N n) ih _ _ _ _ H
def F_X10_addWord (N : Nat) (x1 : Int) (h : Hp) : Option (Hp) :=
  L_X10_addWord_3 N  N x1 24 h
set_option maxRecDepth 100000 in
set_option maxHeartbeats 4000000 in
theorem R_X10_addWord (N : Nat) (x1 : Int) (h : Hp) (res : Hp) (H : F_X10_addWord N x1 h = some res) : Runs M_X10_addWord 1 [.inr 42, .inl x1] h (Qv res) := by
  refine Runs.of rfl (Nat.le_of_ble_eq_true rfl) ?_
  show Go M_X10_addWord 1 0 [some (.inr 42), some (.inl x1), none] [] h (Qv res)
  unfold F_X10_addWord at H
  refine g_bipush (T_X10_addWord 0 _ _ _ rfl) (by decide) ?_
  refine g_istore_n (T_X10_addWord 1 _ _ _ rfl) (by decide) ?_
  refine g_weak [true, true, true] ?_
  refine R_L_X10_addWord_3 N   _ _ _ _ _ H
def F_X10_length (N : Nat) (h : Hp) : Option (Int × Hp) :=
  some ((h 41 1), h)
set_option maxRecDepth 100000 in
set_option maxHeartbeats 4000000 in
theorem R_X10_length (N : Nat) (h : Hp) (res : Int × Hp) (H : F_X10_length N h = some res) : Runs M_X10_length 1 [.inr 42] h (Qi res) := by
  refine Runs.of rfl (Nat.le_of_ble_eq_true rfl) ?_
  show Go M_X10_length 1 0 [some (.inr 42)] [] h (Qi res)
  unfold F_X10_length at H
  refine g_aload_n (T_X10_length 0 _ _ _ rfl) rfl ?_
  refine g_getI (c := 41) (T_X10_length 1 _ _ _ rfl) fl_X10_15 rfl (Or.inl rfl) ?_
  exact g_iret (T_X10_length 2 _ _ _ rfl) rfl (qi_of H)
def F_X11_feed (N : Nat) (x1 : Int) (x2 : Int) (x3 : Int) (x4 : Int) (x5 : Int) (h : Hp) : Option (Int × Hp) :=
  bd (F_X10_hasRoomFor N 20 h) fun y2 h1 =>
  if y2 = 0 then
    some ((-1), h1)
  else
  bv (F_X10_addWord N x1 h1) fun h3 =>
  bv (F_X10_addWord N x2 h3) fun h4 =>
  bv (F_X10_addWord N x3 h4) fun h5 =>
  bv (F_X10_addWord N x4 h5) fun h6 =>
  bv (F_X10_addWord N x5 h6) fun h7 =>
  bd (F_X10_length N h7) fun y9 h8 =>
  some (y9, h8)
set_option maxRecDepth 100000 in
set_option maxHeartbeats 4000000 in
theorem R_X11_feed (N : Nat) (x1 : Int) (x2 : Int) (x3 : Int) (x4 : Int) (x5 : Int) (h : Hp) (res : Int × Hp) (H : F_X11_feed N x1 x2 x3 x4 x5 h = some res) : Runs M_X11_feed 2 [.inr 1, .inl x1, .inl x2, .inl x3, .inl x4, .inl x5] h (Qi res) := by
  refine Runs.of rfl (Nat.le_of_ble_eq_true rfl) ?_
  show Go M_X11_feed 2 0 [some (.inr 1), some (.inl x1), some (.inl x2), some (.inl x3), some (.inl x4), some (.inl x5)] [] h (Qi res)
  unfold F_X11_feed at H
  refine g_aload_n (T_X11_feed 0 _ _ _ rfl) rfl ?_
  refine g_getR (c := 0) (r := 42) (T_X11_feed 1 _ _ _ rfl) fl_X11_24 rfl (nR rfl) rfl (by decide) ?_
  refine g_bipush (T_X11_feed 2 _ _ _ rfl) (by decide) ?_
  obtain ⟨y2, h1, hq, H⟩ := bd_some H
  refine g_callVi (M' := M_X10_hasRoomFor) (c := 41) (av := [.inl 20]) (st := []) (T_X11_feed 3 _ _ _ rfl) ml_X11_120 cb_X10_hasRoomFor rfl rfl (Nat.le_of_ble_eq_true rfl) (by omega) (R_X10_hasRoomFor N _ _ _ hq) ?_
  refine g_if_ne (tgt := 14) (T_X11_feed 4 _ _ _ rfl) (by decide) (fun cc => ?_) (fun cc => ?_)
  · replace H := ite_n cc H
    refine g_aload_n (T_X11_feed 7 _ _ _ rfl) rfl ?_
    refine g_getR (c := 0) (r := 42) (T_X11_feed 8 _ _ _ rfl) fl_X11_24 rfl (nR rfl) rfl (by decide) ?_
    refine g_iload_n (T_X11_feed 9 _ _ _ rfl) rfl ?_
    obtain ⟨h3, hq, H⟩ := bv_some H
    refine g_callVv (M' := M_X10_addWord) (c := 41) (av := [.inl x1]) (st := []) (T_X11_feed 10 _ _ _ rfl) ml_X11_123 cb_X10_addWord rfl rfl (Nat.le_of_ble_eq_true rfl) (by omega) (R_X10_addWord N _ _ _ hq) ?_
    refine g_aload_n (T_X11_feed 11 _ _ _ rfl) rfl ?_
    refine g_getR (c := 0) (r := 42) (T_X11_feed 12 _ _ _ rfl) fl_X11_24 rfl (nR rfl) rfl (by decide) ?_
    refine g_iload_n (T_X11_feed 13 _ _ _ rfl) rfl ?_
    obtain ⟨h4, hq, H⟩ := bv_some H
    refine g_callVv (M' := M_X10_addWord) (c := 41) (av := [.inl x2]) (st := []) (T_X11_feed 14 _ _ _ rfl) ml_X11_123 cb_X10_addWord rfl rfl (Nat.le_of_ble_eq_true rfl) (by omega) (R_X10_addWord N _ _ _ hq) ?_
    refine g_aload_n (T_X11_feed 15 _ _ _ rfl) rfl ?_
    refine g_getR (c := 0) (r := 42) (T_X11_feed 16 _ _ _ rfl) fl_X11_24 rfl (nR rfl) rfl (by decide) ?_
    refine g_iload_n (T_X11_feed 17 _ _ _ rfl) rfl ?_
    obtain ⟨h5, hq, H⟩ := bv_some H
    refine g_callVv (M' := M_X10_addWord) (c := 41) (av := [.inl x3]) (st := []) (T_X11_feed 18 _ _ _ rfl) ml_X11_123 cb_X10_addWord rfl rfl (Nat.le_of_ble_eq_true rfl) (by omega) (R_X10_addWord N _ _ _ hq) ?_
    refine g_aload_n (T_X11_feed 19 _ _ _ rfl) rfl ?_
    refine g_getR (c := 0) (r := 42) (T_X11_feed 20 _ _ _ rfl) fl_X11_24 rfl (nR rfl) rfl (by decide) ?_
    refine g_iload (T_X11_feed 21 _ _ _ rfl) rfl ?_
    obtain ⟨h6, hq, H⟩ := bv_some H
    refine g_callVv (M' := M_X10_addWord) (c := 41) (av := [.inl x4]) (st := []) (T_X11_feed 22 _ _ _ rfl) ml_X11_123 cb_X10_addWord rfl rfl (Nat.le_of_ble_eq_true rfl) (by omega) (R_X10_addWord N _ _ _ hq) ?_
    refine g_aload_n (T_X11_feed 23 _ _ _ rfl) rfl ?_
    refine g_getR (c := 0) (r := 42) (T_X11_feed 24 _ _ _ rfl) fl_X11_24 rfl (nR rfl) rfl (by decide) ?_
    refine g_iload (T_X11_feed 25 _ _ _ rfl) rfl ?_
    obtain ⟨h7, hq, H⟩ := bv_some H
    refine g_callVv (M' := M_X10_addWord) (c := 41) (av := [.inl x5]) (st := []) (T_X11_feed 26 _ _ _ rfl) ml_X11_123 cb_X10_addWord rfl rfl (Nat.le_of_ble_eq_true rfl) (by omega) (R_X10_addWord N _ _ _ hq) ?_
    refine g_aload_n (T_X11_feed 27 _ _ _ rfl) rfl ?_
    refine g_getR (c := 0) (r := 42) (T_X11_feed 28 _ _ _ rfl) fl_X11_24 rfl (nR rfl) rfl (by decide) ?_
    obtain ⟨y9, h8, hq, H⟩ := bd_some H
    refine g_callVi (M' := M_X10_length) (c := 41) (av := []) (st := []) (T_X11_feed 29 _ _ _ rfl) ml_X11_126 cb_X10_length rfl rfl (Nat.le_of_ble_eq_true rfl) (by omega) (R_X10_length N _ _ hq) ?_
    exact g_iret (T_X11_feed 30 _ _ _ rfl) rfl (qi_of H)
  · replace H := ite_p cc H
    refine g_iconst (T_X11_feed 5 _ _ _ rfl) ⟨by decide, by decide⟩ ?_
    exact g_iret (T_X11_feed 6 _ _ _ rfl) rfl (qi_of H)
def F_X10_holds (N : Nat) (x1 : Int) (h : Hp) : Option (Int × Hp) :=
  if (h 41 1) < x1 then
    some (0, h)
  else
  some (1, h)
set_option maxRecDepth 100000 in
set_option maxHeartbeats 4000000 in
theorem R_X10_holds (N : Nat) (x1 : Int) (h : Hp) (res : Int × Hp) (H : F_X10_holds N x1 h = some res) : Runs M_X10_holds 1 [.inr 42, .inl x1] h (Qi res) := by
  refine Runs.of rfl (Nat.le_of_ble_eq_true rfl) ?_
  show Go M_X10_holds 1 0 [some (.inr 42), some (.inl x1)] [] h (Qi res)
  unfold F_X10_holds at H
  refine g_iload_n (T_X10_holds 0 _ _ _ rfl) rfl ?_
  refine g_aload_n (T_X10_holds 1 _ _ _ rfl) rfl ?_
  refine g_getI (c := 41) (T_X10_holds 2 _ _ _ rfl) fl_X10_15 rfl (Or.inl rfl) ?_
  refine g_icmp_gt (tgt := 12) (T_X10_holds 3 _ _ _ rfl) (by decide) (fun cc => ?_) (fun cc => ?_)
  · replace H := ite_p cc H
    refine g_iconst (T_X10_holds 6 _ _ _ rfl) ⟨by decide, by decide⟩ ?_
    exact g_zret (T_X10_holds 7 _ _ _ rfl) rfl (by decide) (qi_of H)
  · replace H := ite_n cc H
    refine g_iconst (T_X10_holds 4 _ _ _ rfl) ⟨by decide, by decide⟩ ?_
    refine g_goto (tgt := 13) (T_X10_holds 5 _ _ _ rfl) (by decide) ?_
    exact g_zret (T_X10_holds 7 _ _ _ rfl) rfl (by decide) (qi_of H)
def F_X10_at (N : Nat) (x1 : Int) (h : Hp) : Option (Int × Hp) :=
  if x1 < 0 then
    some ((-1), h)
  else
  if (h 41 1) ≤ x1 then
    some ((-1), h)
  else
  grd (0 ≤ x1 ∧ x1 < 260) <|
  some ((h 42 x1.toNat), h)
set_option maxRecDepth 100000 in
set_option maxHeartbeats 4000000 in
theorem R_X10_at (N : Nat) (x1 : Int) (h : Hp) (res : Int × Hp) (H : F_X10_at N x1 h = some res) : Runs M_X10_at 1 [.inr 42, .inl x1] h (Qi res) := by
  refine Runs.of rfl (Nat.le_of_ble_eq_true rfl) ?_
  show Go M_X10_at 1 0 [some (.inr 42), some (.inl x1)] [] h (Qi res)
  unfold F_X10_at at H
  refine g_iload_n (T_X10_at 0 _ _ _ rfl) rfl ?_
  refine g_if_lt (tgt := 21) (T_X10_at 1 _ _ _ rfl) (by decide) (fun cc => ?_) (fun cc => ?_)
  · replace H := ite_p cc H
    refine g_iconst (T_X10_at 11 _ _ _ rfl) ⟨by decide, by decide⟩ ?_
    exact g_iret (T_X10_at 12 _ _ _ rfl) rfl (qi_of H)
  · replace H := ite_n cc H
    refine g_iload_n (T_X10_at 2 _ _ _ rfl) rfl ?_
    refine g_aload_n (T_X10_at 3 _ _ _ rfl) rfl ?_
    refine g_getI (c := 41) (T_X10_at 4 _ _ _ rfl) fl_X10_15 rfl (Or.inl rfl) ?_
    refine g_icmp_ge (tgt := 21) (T_X10_at 5 _ _ _ rfl) (by decide) (fun cc => ?_) (fun cc => ?_)
    · replace H := ite_p cc H
      refine g_iconst (T_X10_at 11 _ _ _ rfl) ⟨by decide, by decide⟩ ?_
      exact g_iret (T_X10_at 12 _ _ _ rfl) rfl (qi_of H)
    · replace H := ite_n cc H
      refine g_aload_n (T_X10_at 6 _ _ _ rfl) rfl ?_
      refine g_getR (c := 41) (r := 43) (T_X10_at 7 _ _ _ rfl) fl_X10_9 rfl (nR rfl) rfl (by decide) ?_
      refine g_iload_n (T_X10_at 8 _ _ _ rfl) rfl ?_
      obtain ⟨hg, H⟩ := grd_some H
      refine g_iald (c := 42) (T_X10_at 9 _ _ _ rfl) rfl hg ?_
      refine g_goto (tgt := 22) (T_X10_at 10 _ _ _ rfl) (by decide) ?_
      exact g_iret (T_X10_at 12 _ _ _ rfl) rfl (qi_of H)
def J_X10_open_32 (N : Nat) (s1 : Int) (h : Hp) : Option (Hp) :=
  bnd (hw h 41 4 s1) fun h1 =>
  some h1
set_option maxRecDepth 100000 in
set_option maxHeartbeats 4000000 in
theorem R_J_X10_open_32 (N : Nat) (s1 : Int) (h : Hp) (res : Hp) (H : J_X10_open_32 N s1 h = some res) : Go M_X10_open 2 32 [none, none] [.inl s1, .inr 42] h (Qv res) := by
  unfold J_X10_open_32 at H
  refine g_put (c := 41) (T_X10_open 18 _ _ _ rfl) fl_X10_36 rfl (Or.inl rfl) ?_
  refine g_bndH H fun h1 H => ?_
  exact g_vret (T_X10_open 19 _ _ _ rfl) rfl (qv_of H)
def F_X10_open (N : Nat) (x1 : Int) (h : Hp) : Option (Hp) :=
  bnd (hw h 41 2 0) fun h1 =>
  bnd (hw h1 41 3 x1) fun h2 =>
  bnd (hw h2 41 5 0) fun h3 =>
  if (h3 41 3) ≤ 0 then
    J_X10_open_32 N  (-1) h3
  else
  bd (F_X10_at N 0 h3) fun y5 h4 =>
  J_X10_open_32 N  y5 h4
set_option maxRecDepth 100000 in
set_option maxHeartbeats 4000000 in
theorem R_X10_open (N : Nat) (x1 : Int) (h : Hp) (res : Hp) (H : F_X10_open N x1 h = some res) : Runs M_X10_open 2 [.inr 42, .inl x1] h (Qv res) := by
  refine Runs.of rfl (Nat.le_of_ble_eq_true rfl) ?_
  show Go M_X10_open 2 0 [some (.inr 42), some (.inl x1)] [] h (Qv res)
  unfold F_X10_open at H
  refine g_aload_n (T_X10_open 0 _ _ _ rfl) rfl ?_
  refine g_iconst (T_X10_open 1 _ _ _ rfl) ⟨by decide, by decide⟩ ?_
  refine g_put (c := 41) (T_X10_open 2 _ _ _ rfl) fl_X10_27 rfl (Or.inl rfl) ?_
  refine g_bndH H fun h1 H => ?_
  refine g_aload_n (T_X10_open 3 _ _ _ rfl) rfl ?_
  refine g_iload_n (T_X10_open 4 _ _ _ rfl) rfl ?_
  refine g_put (c := 41) (T_X10_open 5 _ _ _ rfl) fl_X10_30 rfl (Or.inl rfl) ?_
  refine g_bndH H fun h2 H => ?_
  refine g_aload_n (T_X10_open 6 _ _ _ rfl) rfl ?_
  refine g_iconst (T_X10_open 7 _ _ _ rfl) ⟨by decide, by decide⟩ ?_
  refine g_put (c := 41) (T_X10_open 8 _ _ _ rfl) fl_X10_33 rfl (Or.inl rfl) ?_
  refine g_bndH H fun h3 H => ?_
  refine g_aload_n (T_X10_open 9 _ _ _ rfl) rfl ?_
  refine g_aload_n (T_X10_open 10 _ _ _ rfl) rfl ?_
  refine g_getI (c := 41) (T_X10_open 11 _ _ _ rfl) fl_X10_30 rfl (Or.inl rfl) ?_
  refine g_if_le (tgt := 31) (T_X10_open 12 _ _ _ rfl) (by decide) (fun cc => ?_) (fun cc => ?_)
  · replace H := ite_p cc H
    refine g_iconst (T_X10_open 17 _ _ _ rfl) ⟨by decide, by decide⟩ ?_
    refine g_weak [false, false] ?_
    exact R_J_X10_open_32 N   _ _ _ H
  · replace H := ite_n cc H
    refine g_aload_n (T_X10_open 13 _ _ _ rfl) rfl ?_
    refine g_iconst (T_X10_open 14 _ _ _ rfl) ⟨by decide, by decide⟩ ?_
    obtain ⟨y5, h4, hq, H⟩ := bd_some H
    refine g_callVi (M' := M_X10_at) (c := 41) (av := [.inl 0]) (st := [.inr 42]) (T_X10_open 15 _ _ _ rfl) ml_X10_19 cb_X10_at rfl rfl (Nat.le_of_ble_eq_true rfl) (by omega) (R_X10_at N _ _ _ hq) ?_
    refine g_goto (tgt := 32) (T_X10_open 16 _ _ _ rfl) (by decide) ?_
    refine g_weak [false, false] ?_
    exact R_J_X10_open_32 N   _ _ _ H
def F_X2_clear (N : Nat) (h : Hp) : Option (Hp) :=
  bnd (hw h 44 4 0) fun h1 =>
  bnd (hw h1 44 7 0) fun h2 =>
  some h2
set_option maxRecDepth 100000 in
set_option maxHeartbeats 4000000 in
theorem R_X2_clear (N : Nat) (h : Hp) (res : Hp) (H : F_X2_clear N h = some res) : Runs M_X2_clear 1 [.inr 45] h (Qv res) := by
  refine Runs.of rfl (Nat.le_of_ble_eq_true rfl) ?_
  show Go M_X2_clear 1 0 [some (.inr 45)] [] h (Qv res)
  unfold F_X2_clear at H
  refine g_aload_n (T_X2_clear 0 _ _ _ rfl) rfl ?_
  refine g_iconst (T_X2_clear 1 _ _ _ rfl) ⟨by decide, by decide⟩ ?_
  refine g_put (c := 44) (T_X2_clear 2 _ _ _ rfl) fl_X2_36 rfl (Or.inl rfl) ?_
  refine g_bndH H fun h1 H => ?_
  refine g_aload_n (T_X2_clear 3 _ _ _ rfl) rfl ?_
  refine g_iconst (T_X2_clear 4 _ _ _ rfl) ⟨by decide, by decide⟩ ?_
  refine g_put (c := 44) (T_X2_clear 5 _ _ _ rfl) fl_X2_40 rfl (Or.inl rfl) ?_
  refine g_bndH H fun h2 H => ?_
  exact g_vret (T_X2_clear 6 _ _ _ rfl) rfl (qv_of H)
def F_X10_isSound (N : Nat) (h : Hp) : Option (Int × Hp) :=
  if (h 41 5) = 0 then
    some (1, h)
  else
  some (0, h)
set_option maxRecDepth 100000 in
set_option maxHeartbeats 4000000 in
theorem R_X10_isSound (N : Nat) (h : Hp) (res : Int × Hp) (H : F_X10_isSound N h = some res) : Runs M_X10_isSound 1 [.inr 42] h (Qi res) := by
  refine Runs.of rfl (Nat.le_of_ble_eq_true rfl) ?_
  show Go M_X10_isSound 1 0 [some (.inr 42)] [] h (Qi res)
  unfold F_X10_isSound at H
  refine g_aload_n (T_X10_isSound 0 _ _ _ rfl) rfl ?_
  refine g_getI (c := 41) (T_X10_isSound 1 _ _ _ rfl) fl_X10_33 rfl (Or.inl rfl) ?_
  refine g_if_ne (tgt := 11) (T_X10_isSound 2 _ _ _ rfl) (by decide) (fun cc => ?_) (fun cc => ?_)
  · replace H := ite_n cc H
    refine g_iconst (T_X10_isSound 5 _ _ _ rfl) ⟨by decide, by decide⟩ ?_
    exact g_zret (T_X10_isSound 6 _ _ _ rfl) rfl (by decide) (qi_of H)
  · replace H := ite_p cc H
    refine g_iconst (T_X10_isSound 3 _ _ _ rfl) ⟨by decide, by decide⟩ ?_
    refine g_goto (tgt := 12) (T_X10_isSound 4 _ _ _ rfl) (by decide) ?_
    exact g_zret (T_X10_isSound 6 _ _ _ rfl) rfl (by decide) (qi_of H)
def F_X10_fault (N : Nat) (h : Hp) : Option (Int × Hp) :=
  some ((h 41 5), h)
set_option maxRecDepth 100000 in
set_option maxHeartbeats 4000000 in
theorem R_X10_fault (N : Nat) (h : Hp) (res : Int × Hp) (H : F_X10_fault N h = some res) : Runs M_X10_fault 1 [.inr 42] h (Qi res) := by
  refine Runs.of rfl (Nat.le_of_ble_eq_true rfl) ?_
  show Go M_X10_fault 1 0 [some (.inr 42)] [] h (Qi res)
  unfold F_X10_fault at H
  refine g_aload_n (T_X10_fault 0 _ _ _ rfl) rfl ?_
  refine g_getI (c := 41) (T_X10_fault 1 _ _ _ rfl) fl_X10_33 rfl (Or.inl rfl) ?_
  exact g_iret (T_X10_fault 2 _ _ _ rfl) rfl (qi_of H)
def F_X2_clauses (N : Nat) (h : Hp) : Option (Int × Hp) :=
  some ((h 44 4), h)
set_option maxRecDepth 100000 in
set_option maxHeartbeats 4000000 in
theorem R_X2_clauses (N : Nat) (h : Hp) (res : Int × Hp) (H : F_X2_clauses N h = some res) : Runs M_X2_clauses 1 [.inr 45] h (Qi res) := by
  refine Runs.of rfl (Nat.le_of_ble_eq_true rfl) ?_
  show Go M_X2_clauses 1 0 [some (.inr 45)] [] h (Qi res)
  unfold F_X2_clauses at H
  refine g_aload_n (T_X2_clauses 0 _ _ _ rfl) rfl ?_
  refine g_getI (c := 44) (T_X2_clauses 1 _ _ _ rfl) fl_X2_36 rfl (Or.inl rfl) ?_
  exact g_iret (T_X2_clauses 2 _ _ _ rfl) rfl (qi_of H)
def F_X10_sign (N : Nat) (h : Hp) : Option (Int × Hp) :=
  some ((h 41 4), h)
set_option maxRecDepth 100000 in
set_option maxHeartbeats 4000000 in
theorem R_X10_sign (N : Nat) (h : Hp) (res : Int × Hp) (H : F_X10_sign N h = some res) : Runs M_X10_sign 1 [.inr 42] h (Qi res) := by
  refine Runs.of rfl (Nat.le_of_ble_eq_true rfl) ?_
  show Go M_X10_sign 1 0 [some (.inr 42)] [] h (Qi res)
  unfold F_X10_sign at H
  refine g_aload_n (T_X10_sign 0 _ _ _ rfl) rfl ?_
  refine g_getI (c := 41) (T_X10_sign 1 _ _ _ rfl) fl_X10_36 rfl (Or.inl rfl) ?_
  exact g_iret (T_X10_sign 2 _ _ _ rfl) rfl (qi_of H)
def J_X10_step_53 (N : Nat) (s1 : Int) (h : Hp) : Option (Hp) :=
  bnd (hw h 41 4 s1) fun h1 =>
  some h1
set_option maxRecDepth 100000 in
set_option maxHeartbeats 4000000 in
theorem R_J_X10_step_53 (N : Nat) (s1 : Int) (h : Hp) (res : Hp) (H : J_X10_step_53 N s1 h = some res) : Go M_X10_step 1 53 [none] [.inl s1, .inr 42] h (Qv res) := by
  unfold J_X10_step_53 at H
  refine g_put (c := 41) (T_X10_step 27 _ _ _ rfl) fl_X10_36 rfl (Or.inl rfl) ?_
  refine g_bndH H fun h1 H => ?_
  exact g_vret (T_X10_step 28 _ _ _ rfl) rfl (qv_of H)
def F_X10_step (N : Nat) (h : Hp) : Option (Hp) :=
  bnd (hw h 41 2 (w32 ((h 41 2) + 1))) fun h1 =>
  if (h1 41 2) < 0 then
    J_X10_step_53 N  (-1) h1
  else
  if (h1 41 3) ≤ (h1 41 2) then
    J_X10_step_53 N  (-1) h1
  else
  if (h1 41 1) ≤ (h1 41 2) then
    J_X10_step_53 N  (-1) h1
  else
  grd (0 ≤ (h1 41 2) ∧ (h1 41 2) < 260) <|
  J_X10_step_53 N  (h1 42 (h1 41 2).toNat) h1
set_option maxRecDepth 100000 in
set_option maxHeartbeats 4000000 in
theorem R_X10_step (N : Nat) (h : Hp) (res : Hp) (H : F_X10_step N h = some res) : Runs M_X10_step 1 [.inr 42] h (Qv res) := by
  refine Runs.of rfl (Nat.le_of_ble_eq_true rfl) ?_
  show Go M_X10_step 1 0 [some (.inr 42)] [] h (Qv res)
  unfold F_X10_step at H
  refine g_aload_n (T_X10_step 0 _ _ _ rfl) rfl ?_
  refine g_dup (T_X10_step 1 _ _ _ rfl) ?_
  refine g_getI (c := 41) (T_X10_step 2 _ _ _ rfl) fl_X10_27 rfl (Or.inl rfl) ?_
  refine g_iconst (T_X10_step 3 _ _ _ rfl) ⟨by decide, by decide⟩ ?_
  refine g_iadd (T_X10_step 4 _ _ _ rfl) ?_
  refine g_put (c := 41) (T_X10_step 5 _ _ _ rfl) fl_X10_27 rfl (Or.inl rfl) ?_
  refine g_bndH H fun h1 H => ?_
  refine g_aload_n (T_X10_step 6 _ _ _ rfl) rfl ?_
  refine g_aload_n (T_X10_step 7 _ _ _ rfl) rfl ?_
  refine g_getI (c := 41) (T_X10_step 8 _ _ _ rfl) fl_X10_27 rfl (Or.inl rfl) ?_
  refine g_if_lt (tgt := 52) (T_X10_step 9 _ _ _ rfl) (by decide) (fun cc => ?_) (fun cc => ?_)
  · replace H := ite_p cc H
    refine g_iconst (T_X10_step 26 _ _ _ rfl) ⟨by decide, by decide⟩ ?_
    refine g_weak [false] ?_
    exact R_J_X10_step_53 N   _ _ _ H
  · replace H := ite_n cc H
    refine g_aload_n (T_X10_step 10 _ _ _ rfl) rfl ?_
    refine g_getI (c := 41) (T_X10_step 11 _ _ _ rfl) fl_X10_27 rfl (Or.inl rfl) ?_
    refine g_aload_n (T_X10_step 12 _ _ _ rfl) rfl ?_
    refine g_getI (c := 41) (T_X10_step 13 _ _ _ rfl) fl_X10_30 rfl (Or.inl rfl) ?_
    refine g_icmp_ge (tgt := 52) (T_X10_step 14 _ _ _ rfl) (by decide) (fun cc => ?_) (fun cc => ?_)
    · replace H := ite_p cc H
      refine g_iconst (T_X10_step 26 _ _ _ rfl) ⟨by decide, by decide⟩ ?_
      refine g_weak [false] ?_
      exact R_J_X10_step_53 N   _ _ _ H
    · replace H := ite_n cc H
      refine g_aload_n (T_X10_step 15 _ _ _ rfl) rfl ?_
      refine g_getI (c := 41) (T_X10_step 16 _ _ _ rfl) fl_X10_27 rfl (Or.inl rfl) ?_
      refine g_aload_n (T_X10_step 17 _ _ _ rfl) rfl ?_
      refine g_getI (c := 41) (T_X10_step 18 _ _ _ rfl) fl_X10_15 rfl (Or.inl rfl) ?_
      refine g_icmp_ge (tgt := 52) (T_X10_step 19 _ _ _ rfl) (by decide) (fun cc => ?_) (fun cc => ?_)
      · replace H := ite_p cc H
        refine g_iconst (T_X10_step 26 _ _ _ rfl) ⟨by decide, by decide⟩ ?_
        refine g_weak [false] ?_
        exact R_J_X10_step_53 N   _ _ _ H
      · replace H := ite_n cc H
        refine g_aload_n (T_X10_step 20 _ _ _ rfl) rfl ?_
        refine g_getR (c := 41) (r := 43) (T_X10_step 21 _ _ _ rfl) fl_X10_9 rfl (nR rfl) rfl (by decide) ?_
        refine g_aload_n (T_X10_step 22 _ _ _ rfl) rfl ?_
        refine g_getI (c := 41) (T_X10_step 23 _ _ _ rfl) fl_X10_27 rfl (Or.inl rfl) ?_
        obtain ⟨hg, H⟩ := grd_some H
        refine g_iald (c := 42) (T_X10_step 24 _ _ _ rfl) rfl hg ?_
        refine g_goto (tgt := 53) (T_X10_step 25 _ _ _ rfl) (by decide) ?_
        refine g_weak [false] ?_
        exact R_J_X10_step_53 N   _ _ _ H
def F_X2_length (N : Nat) (h : Hp) : Option (Int × Hp) :=
  some ((h 44 7), h)
set_option maxRecDepth 100000 in
set_option maxHeartbeats 4000000 in
theorem R_X2_length (N : Nat) (h : Hp) (res : Int × Hp) (H : F_X2_length N h = some res) : Runs M_X2_length 1 [.inr 45] h (Qi res) := by
  refine Runs.of rfl (Nat.le_of_ble_eq_true rfl) ?_
  show Go M_X2_length 1 0 [some (.inr 45)] [] h (Qi res)
  unfold F_X2_length at H
  refine g_aload_n (T_X2_length 0 _ _ _ rfl) rfl ?_
  refine g_getI (c := 44) (T_X2_length 1 _ _ _ rfl) fl_X2_40 rfl (Or.inl rfl) ?_
  exact g_iret (T_X2_length 2 _ _ _ rfl) rfl (qi_of H)
def F_X10_sees (N : Nat) (x1 : Int) (h : Hp) : Option (Int × Hp) :=
  if (h 41 5) = 0 then
    if (h 41 4) = x1 then
      some (1, h)
    else
    some (0, h)
  else
  some (0, h)
set_option maxRecDepth 100000 in
set_option maxHeartbeats 4000000 in
theorem R_X10_sees (N : Nat) (x1 : Int) (h : Hp) (res : Int × Hp) (H : F_X10_sees N x1 h = some res) : Runs M_X10_sees 1 [.inr 42, .inl x1] h (Qi res) := by
  refine Runs.of rfl (Nat.le_of_ble_eq_true rfl) ?_
  show Go M_X10_sees 1 0 [some (.inr 42), some (.inl x1)] [] h (Qi res)
  unfold F_X10_sees at H
  refine g_aload_n (T_X10_sees 0 _ _ _ rfl) rfl ?_
  refine g_getI (c := 41) (T_X10_sees 1 _ _ _ rfl) fl_X10_33 rfl (Or.inl rfl) ?_
  refine g_if_ne (tgt := 19) (T_X10_sees 2 _ _ _ rfl) (by decide) (fun cc => ?_) (fun cc => ?_)
  · replace H := ite_n cc H
    refine g_iconst (T_X10_sees 9 _ _ _ rfl) ⟨by decide, by decide⟩ ?_
    exact g_zret (T_X10_sees 10 _ _ _ rfl) rfl (by decide) (qi_of H)
  · replace H := ite_p cc H
    refine g_aload_n (T_X10_sees 3 _ _ _ rfl) rfl ?_
    refine g_getI (c := 41) (T_X10_sees 4 _ _ _ rfl) fl_X10_36 rfl (Or.inl rfl) ?_
    refine g_iload_n (T_X10_sees 5 _ _ _ rfl) rfl ?_
    refine g_icmp_ne (tgt := 19) (T_X10_sees 6 _ _ _ rfl) (by decide) (fun cc => ?_) (fun cc => ?_)
    · replace H := ite_n cc H
      refine g_iconst (T_X10_sees 9 _ _ _ rfl) ⟨by decide, by decide⟩ ?_
      exact g_zret (T_X10_sees 10 _ _ _ rfl) rfl (by decide) (qi_of H)
    · replace H := ite_p cc H
      refine g_iconst (T_X10_sees 7 _ _ _ rfl) ⟨by decide, by decide⟩ ?_
      refine g_goto (tgt := 20) (T_X10_sees 8 _ _ _ rfl) (by decide) ?_
      exact g_zret (T_X10_sees 10 _ _ _ rfl) rfl (by decide) (qi_of H)
def F_X10_seesDigit (N : Nat) (h : Hp) : Option (Int × Hp) :=
  if (h 41 5) = 0 then
    if (h 41 4) < 48 then
      some (0, h)
    else
    if 57 < (h 41 4) then
      some (0, h)
    else
    some (1, h)
  else
  some (0, h)
set_option maxRecDepth 100000 in
set_option maxHeartbeats 4000000 in
theorem R_X10_seesDigit (N : Nat) (h : Hp) (res : Int × Hp) (H : F_X10_seesDigit N h = some res) : Runs M_X10_seesDigit 1 [.inr 42] h (Qi res) := by
  refine Runs.of rfl (Nat.le_of_ble_eq_true rfl) ?_
  show Go M_X10_seesDigit 1 0 [some (.inr 42)] [] h (Qi res)
  unfold F_X10_seesDigit at H
  refine g_aload_n (T_X10_seesDigit 0 _ _ _ rfl) rfl ?_
  refine g_getI (c := 41) (T_X10_seesDigit 1 _ _ _ rfl) fl_X10_33 rfl (Or.inl rfl) ?_
  refine g_if_ne (tgt := 29) (T_X10_seesDigit 2 _ _ _ rfl) (by decide) (fun cc => ?_) (fun cc => ?_)
  · replace H := ite_n cc H
    refine g_iconst (T_X10_seesDigit 13 _ _ _ rfl) ⟨by decide, by decide⟩ ?_
    exact g_zret (T_X10_seesDigit 14 _ _ _ rfl) rfl (by decide) (qi_of H)
  · replace H := ite_p cc H
    refine g_aload_n (T_X10_seesDigit 3 _ _ _ rfl) rfl ?_
    refine g_getI (c := 41) (T_X10_seesDigit 4 _ _ _ rfl) fl_X10_36 rfl (Or.inl rfl) ?_
    refine g_bipush (T_X10_seesDigit 5 _ _ _ rfl) (by decide) ?_
    refine g_icmp_lt (tgt := 29) (T_X10_seesDigit 6 _ _ _ rfl) (by decide) (fun cc => ?_) (fun cc => ?_)
    · replace H := ite_p cc H
      refine g_iconst (T_X10_seesDigit 13 _ _ _ rfl) ⟨by decide, by decide⟩ ?_
      exact g_zret (T_X10_seesDigit 14 _ _ _ rfl) rfl (by decide) (qi_of H)
    · replace H := ite_n cc H
      refine g_aload_n (T_X10_seesDigit 7 _ _ _ rfl) rfl ?_
      refine g_getI (c := 41) (T_X10_seesDigit 8 _ _ _ rfl) fl_X10_36 rfl (Or.inl rfl) ?_
      refine g_bipush (T_X10_seesDigit 9 _ _ _ rfl) (by decide) ?_
      refine g_icmp_gt (tgt := 29) (T_X10_seesDigit 10 _ _ _ rfl) (by decide) (fun cc => ?_) (fun cc => ?_)
      · replace H := ite_p cc H
        refine g_iconst (T_X10_seesDigit 13 _ _ _ rfl) ⟨by decide, by decide⟩ ?_
        exact g_zret (T_X10_seesDigit 14 _ _ _ rfl) rfl (by decide) (qi_of H)
      · replace H := ite_n cc H
        refine g_iconst (T_X10_seesDigit 11 _ _ _ rfl) ⟨by decide, by decide⟩ ?_
        refine g_goto (tgt := 30) (T_X10_seesDigit 12 _ _ _ rfl) (by decide) ?_
        exact g_zret (T_X10_seesDigit 14 _ _ _ rfl) rfl (by decide) (qi_of H)
def F_X10_isAtEnd (N : Nat) (h : Hp) : Option (Int × Hp) :=
  if (h 41 2) < (h 41 3) then
    some (0, h)
  else
  some (1, h)
set_option maxRecDepth 100000 in
set_option maxHeartbeats 4000000 in
theorem R_X10_isAtEnd (N : Nat) (h : Hp) (res : Int × Hp) (H : F_X10_isAtEnd N h = some res) : Runs M_X10_isAtEnd 1 [.inr 42] h (Qi res) := by
  refine Runs.of rfl (Nat.le_of_ble_eq_true rfl) ?_
  show Go M_X10_isAtEnd 1 0 [some (.inr 42)] [] h (Qi res)
  unfold F_X10_isAtEnd at H
  refine g_aload_n (T_X10_isAtEnd 0 _ _ _ rfl) rfl ?_
  refine g_getI (c := 41) (T_X10_isAtEnd 1 _ _ _ rfl) fl_X10_27 rfl (Or.inl rfl) ?_
  refine g_aload_n (T_X10_isAtEnd 2 _ _ _ rfl) rfl ?_
  refine g_getI (c := 41) (T_X10_isAtEnd 3 _ _ _ rfl) fl_X10_30 rfl (Or.inl rfl) ?_
  refine g_icmp_lt (tgt := 15) (T_X10_isAtEnd 4 _ _ _ rfl) (by decide) (fun cc => ?_) (fun cc => ?_)
  · replace H := ite_p cc H
    refine g_iconst (T_X10_isAtEnd 7 _ _ _ rfl) ⟨by decide, by decide⟩ ?_
    exact g_zret (T_X10_isAtEnd 8 _ _ _ rfl) rfl (by decide) (qi_of H)
  · replace H := ite_n cc H
    refine g_iconst (T_X10_isAtEnd 5 _ _ _ rfl) ⟨by decide, by decide⟩ ?_
    refine g_goto (tgt := 16) (T_X10_isAtEnd 6 _ _ _ rfl) (by decide) ?_
    exact g_zret (T_X10_isAtEnd 8 _ _ _ rfl) rfl (by decide) (qi_of H)
def F_X10_fail (N : Nat) (x1 : Int) (h : Hp) : Option (Hp) :=
  if (h 41 5) = 0 then
    bnd (hw h 41 5 (w32 ((w32 ((-1000) * x1)) - (h 41 2)))) fun h1 =>
    some h1
  else
  some h
set_option maxRecDepth 100000 in
set_option maxHeartbeats 4000000 in
theorem R_X10_fail (N : Nat) (x1 : Int) (h : Hp) (res : Hp) (H : F_X10_fail N x1 h = some res) : Runs M_X10_fail 1 [.inr 42, .inl x1] h (Qv res) := by
  refine Runs.of rfl (Nat.le_of_ble_eq_true rfl) ?_
  show Go M_X10_fail 1 0 [some (.inr 42), some (.inl x1)] [] h (Qv res)
  unfold F_X10_fail at H
  refine g_aload_n (T_X10_fail 0 _ _ _ rfl) rfl ?_
  refine g_getI (c := 41) (T_X10_fail 1 _ _ _ rfl) fl_X10_33 rfl (Or.inl rfl) ?_
  refine g_if_ne (tgt := 21) (T_X10_fail 2 _ _ _ rfl) (by decide) (fun cc => ?_) (fun cc => ?_)
  · replace H := ite_n cc H
    exact g_vret (T_X10_fail 11 _ _ _ rfl) rfl (qv_of H)
  · replace H := ite_p cc H
    refine g_aload_n (T_X10_fail 3 _ _ _ rfl) rfl ?_
    refine g_sipush (T_X10_fail 4 _ _ _ rfl) (by decide) ?_
    refine g_iload_n (T_X10_fail 5 _ _ _ rfl) rfl ?_
    refine g_imul (T_X10_fail 6 _ _ _ rfl) ?_
    refine g_aload_n (T_X10_fail 7 _ _ _ rfl) rfl ?_
    refine g_getI (c := 41) (T_X10_fail 8 _ _ _ rfl) fl_X10_27 rfl (Or.inl rfl) ?_
    refine g_isub (T_X10_fail 9 _ _ _ rfl) ?_
    refine g_put (c := 41) (T_X10_fail 10 _ _ _ rfl) fl_X10_33 rfl (Or.inl rfl) ?_
    refine g_bndH H fun h1 H => ?_
    exact g_vret (T_X10_fail 11 _ _ _ rfl) rfl (qv_of H)
def F_X2_addSign (N : Nat) (x1 : Int) (x2 : Int) (h : Hp) : Option (Hp) :=
  if 240 ≤ (h 44 7) then
    some h
  else
  grd (0 ≤ (h 44 7) ∧ (h 44 7) < 240) <|
  bnd (hw h 49 (h 44 7).toNat x1) fun h1 =>
  grd (0 ≤ (h1 44 7) ∧ (h1 44 7) < 240) <|
  bnd (hw h1 50 (h1 44 7).toNat x2) fun h2 =>
  bnd (hw h2 44 7 (w32 ((h2 44 7) + 1))) fun h3 =>
  some h3
set_option maxRecDepth 100000 in
set_option maxHeartbeats 4000000 in
theorem R_X2_addSign (N : Nat) (x1 : Int) (x2 : Int) (h : Hp) (res : Hp) (H : F_X2_addSign N x1 x2 h = some res) : Runs M_X2_addSign 1 [.inr 45, .inl x1, .inl x2] h (Qv res) := by
  refine Runs.of rfl (Nat.le_of_ble_eq_true rfl) ?_
  show Go M_X2_addSign 1 0 [some (.inr 45), some (.inl x1), some (.inl x2)] [] h (Qv res)
  unfold F_X2_addSign at H
  refine g_aload_n (T_X2_addSign 0 _ _ _ rfl) rfl ?_
  refine g_getI (c := 44) (T_X2_addSign 1 _ _ _ rfl) fl_X2_40 rfl (Or.inl rfl) ?_
  refine g_sipush (T_X2_addSign 2 _ _ _ rfl) (by decide) ?_
  refine g_icmp_ge (tgt := 40) (T_X2_addSign 3 _ _ _ rfl) (by decide) (fun cc => ?_) (fun cc => ?_)
  · replace H := ite_p cc H
    exact g_vret (T_X2_addSign 22 _ _ _ rfl) rfl (qv_of H)
  · replace H := ite_n cc H
    refine g_aload_n (T_X2_addSign 4 _ _ _ rfl) rfl ?_
    refine g_getR (c := 44) (r := 50) (T_X2_addSign 5 _ _ _ rfl) fl_X2_24 rfl (nR rfl) rfl (by decide) ?_
    refine g_aload_n (T_X2_addSign 6 _ _ _ rfl) rfl ?_
    refine g_getI (c := 44) (T_X2_addSign 7 _ _ _ rfl) fl_X2_40 rfl (Or.inl rfl) ?_
    refine g_iload_n (T_X2_addSign 8 _ _ _ rfl) rfl ?_
    obtain ⟨hg, H⟩ := grd_some H
    refine g_iast (c := 49) (T_X2_addSign 9 _ _ _ rfl) rfl hg ?_
    refine g_bndH H fun h1 H => ?_
    refine g_aload_n (T_X2_addSign 10 _ _ _ rfl) rfl ?_
    refine g_getR (c := 44) (r := 51) (T_X2_addSign 11 _ _ _ rfl) fl_X2_27 rfl (nR rfl) rfl (by decide) ?_
    refine g_aload_n (T_X2_addSign 12 _ _ _ rfl) rfl ?_
    refine g_getI (c := 44) (T_X2_addSign 13 _ _ _ rfl) fl_X2_40 rfl (Or.inl rfl) ?_
    refine g_iload_n (T_X2_addSign 14 _ _ _ rfl) rfl ?_
    obtain ⟨hg, H⟩ := grd_some H
    refine g_iast (c := 50) (T_X2_addSign 15 _ _ _ rfl) rfl hg ?_
    refine g_bndH H fun h2 H => ?_
    refine g_aload_n (T_X2_addSign 16 _ _ _ rfl) rfl ?_
    refine g_dup (T_X2_addSign 17 _ _ _ rfl) ?_
    refine g_getI (c := 44) (T_X2_addSign 18 _ _ _ rfl) fl_X2_40 rfl (Or.inl rfl) ?_
    refine g_iconst (T_X2_addSign 19 _ _ _ rfl) ⟨by decide, by decide⟩ ?_
    refine g_iadd (T_X2_addSign 20 _ _ _ rfl) ?_
    refine g_put (c := 44) (T_X2_addSign 21 _ _ _ rfl) fl_X2_40 rfl (Or.inl rfl) ?_
    refine g_bndH H fun h3 H => ?_
    exact g_vret (T_X2_addSign 22 _ _ _ rfl) rfl (qv_of H)
def J_X3_readFact_27 (N : Nat) (x2 : Int) (h : Hp) : Option Hp :=
  if x2 < 0 then
    bv (F_X10_fail N 1 h) fun h1 =>
    some h1
  else
  bv (F_X2_addSign N 97 x2 h) fun h1 =>
  bv (F_X10_step N h1) fun h2 =>
  some h2
def F_X3_readFact (N : Nat) (h : Hp) : Option Hp :=
  bd (F_X10_isAtEnd N h) fun y1 h2 =>
  if y1 = 0 then
    bd (F_X10_sign N h2) fun y3 h4 =>
    J_X3_readFact_27 N (sIdx (i2c y3)) h4
  else
  J_X3_readFact_27 N (-1) h2
set_option maxRecDepth 100000 in
set_option maxHeartbeats 4000000 in
theorem R_J_X3_readFact_27 (N : Nat) (x2 : Int) (h : Hp) (res : Hp) (H : J_X3_readFact_27 N x2 h = some res) : Go M_X3_readFact 8 21 [some (.inr 44), some (.inr 42), none] [.inl x2] h (Qv res) := by
  unfold J_X3_readFact_27 at H
  refine g_istore_n (T_X3_readFact 10 _ _ _ rfl) (by decide) ?_
  refine g_iload_n (T_X3_readFact 11 _ _ _ rfl) rfl ?_
  refine g_if_ge (tgt := 34) (T_X3_readFact 12 _ _ _ rfl) (by decide) (fun cc => ?_) (fun cc => ?_)
  · replace H := ite_n (by omega) H
    refine g_aload_n (T_X3_readFact 17 _ _ _ rfl) rfl ?_
    refine g_getR (c := 43) (r := 45) (T_X3_readFact 18 _ _ _ rfl) fl_X3_12 rfl (nR rfl) rfl (by decide) ?_
    refine g_bipush (T_X3_readFact 19 _ _ _ rfl) (by decide) ?_
    refine g_iload_n (T_X3_readFact 20 _ _ _ rfl) rfl ?_
    obtain ⟨h1, hq, H⟩ := bv_some H
    refine g_callVv (M' := M_X2_addSign) (c := 44) (av := [.inl 97, .inl x2]) (st := []) (T_X3_readFact 21 _ _ _ rfl) ml_X3_75 cb_X2_addSign rfl rfl (Nat.le_of_ble_eq_true rfl) (by omega) (R_X2_addSign N _ _ _ _ hq) ?_
    refine g_aload_n (T_X3_readFact 22 _ _ _ rfl) rfl ?_
    obtain ⟨h2, hq, H⟩ := bv_some H
    refine g_callVv (M' := M_X10_step) (c := 41) (av := []) (st := []) (T_X3_readFact 23 _ _ _ rfl) ml_X3_51 cb_X10_step rfl rfl (Nat.le_of_ble_eq_true rfl) (by omega) (R_X10_step N _ _ hq) ?_
    exact g_vret (T_X3_readFact 24 _ _ _ rfl) rfl (qv_of H)
  · replace H := ite_p (by omega) H
    refine g_aload_n (T_X3_readFact 13 _ _ _ rfl) rfl ?_
    refine g_iconst (T_X3_readFact 14 _ _ _ rfl) ⟨by decide, by decide⟩ ?_
    obtain ⟨h1, hq, H⟩ := bv_some H
    refine g_callVv (M' := M_X10_fail) (c := 41) (av := [.inl 1]) (st := []) (T_X3_readFact 15 _ _ _ rfl) ml_X3_48 cb_X10_fail rfl rfl (Nat.le_of_ble_eq_true rfl) (by omega) (R_X10_fail N _ _ _ hq) ?_
    refine g_goto (tgt := 48) (T_X3_readFact 16 _ _ _ rfl) (by decide) ?_
    exact g_vret (T_X3_readFact 24 _ _ _ rfl) rfl (qv_of H)
set_option maxRecDepth 100000 in
theorem R_X3_readFact (N : Nat) (h : Hp) (res : Hp) (H : F_X3_readFact N h = some res) : Runs M_X3_readFact 8 [.inr 44, .inr 42] h (Qv res) := by
  refine Runs.of rfl (Nat.le_of_ble_eq_true rfl) ?_
  show Go M_X3_readFact 8 0 [some (.inr 44), some (.inr 42), none] [] h (Qv res)
  unfold F_X3_readFact at H
  refine g_aload_n (T_X3_readFact 0 _ _ _ rfl) rfl ?_
  obtain ⟨y1, h2, hq, H⟩ := bd_some H
  refine g_callVi (M' := M_X10_isAtEnd) (c := 41) (av := []) (st := []) (T_X3_readFact 1 _ _ _ rfl) ml_X3_31 cb_X10_isAtEnd rfl rfl (Nat.le_of_ble_eq_true rfl) (by omega) (R_X10_isAtEnd N _ _ hq) ?_
  refine g_if_eq (tgt := 11) (T_X3_readFact 2 _ _ _ rfl) (by decide) (fun cc => ?_) (fun cc => ?_)
  · replace H := ite_p cc H
    obtain ⟨y3, h4, hq, H⟩ := bd_some H
    refine g_readIdx (d' := 1) (by omega) (by omega) rfl (T_X3_readFact 5 _ _ _ rfl) (T_X3_readFact 6 _ _ _ rfl) (T_X3_readFact 7 _ _ _ rfl) (T_X3_readFact 8 _ _ _ rfl) (T_X3_readFact 9 _ _ _ rfl) (R_X10_sign N _ _ hq) ?_
    exact R_J_X3_readFact_27 N _ _ _ H
  · replace H := ite_n cc H
    refine g_iconst (T_X3_readFact 3 _ _ _ rfl) ⟨by decide, by decide⟩ ?_
    refine g_goto (tgt := 21) (T_X3_readFact 4 _ _ _ rfl) (by decide) ?_
    exact R_J_X3_readFact_27 N _ _ _ H
def L_X10_readNumber_16 (N : Nat) : Nat → Int → Int → Int → Hp → Option (Int × Hp)
  | 0, _, _, _, _ => none
  | n + 1, x1, x2, x3, h =>
    if x1 ≤ x3 then
      some (x2, h)
    else
    bd (F_X10_seesDigit N h) fun y2 h1 =>
    if y2 = 0 then
      some (x2, h1)
    else
    bnd ((w32 ((w32 ((w32 (x2 * 10)) + (h1 41 4))) - 48))) fun y3 =>
    bv (F_X10_step N h1) fun h4 =>
    bnd (w32 (x3 + 1)) fun y5 =>
    (L_X10_readNumber_16 N n) x1 y3 y5 h4
set_option maxRecDepth 100000 in
set_option maxHeartbeats 4000000 in
theorem R_L_X10_readNumber_16 (N : Nat) : ∀ (n : Nat) (x1 : Int) (x2 : Int) (x3 : Int) (h : Hp) (res : Int × Hp), L_X10_readNumber_16 N n x1 x2 x3 h = some res → Go M_X10_readNumber 2 16 [some (.inr 42), some (.inl x1), some (.inl x2), some (.inl x3)] [] h (Qi res)
  | 0, _, _, _, _, _, H => by cases H
  | n + 1, x1, x2, x3, h, res, H => by
    have ih := R_L_X10_readNumber_16 N n
    simp only [L_X10_readNumber_16] at H
    refine g_iload_n (T_X10_readNumber 10 _ _ _ rfl) rfl ?_
    refine g_iload_n (T_X10_readNumber 11 _ _ _ rfl) rfl ?_
    refine g_icmp_ge (tgt := 51) (T_X10_readNumber 12 _ _ _ rfl) (by decide) (fun cc => ?_) (fun cc => ?_)
    · replace H := ite_p cc H
      refine g_iload_n (T_X10_readNumber 29 _ _ _ rfl) rfl ?_
      exact g_iret (T_X10_readNumber 30 _ _ _ rfl) rfl (qi_of H)
    · replace H := ite_n cc H
      refine g_aload_n (T_X10_readNumber 13 _ _ _ rfl) rfl ?_
      obtain ⟨y2, h1, hq, H⟩ := bd_some H
      refine g_callVi (M' := M_X10_seesDigit) (c := 41) (av := []) (st := []) (T_X10_readNumber 14 _ _ _ rfl) ml_X10_50 cb_X10_seesDigit rfl rfl (Nat.le_of_ble_eq_true rfl) (by omega) (R_X10_seesDigit N _ _ hq) ?_
      refine g_if_eq (tgt := 51) (T_X10_readNumber 15 _ _ _ rfl) (by decide) (fun cc => ?_) (fun cc => ?_)
      · replace H := ite_p cc H
        refine g_iload_n (T_X10_readNumber 29 _ _ _ rfl) rfl ?_
        exact g_iret (T_X10_readNumber 30 _ _ _ rfl) rfl (qi_of H)
      · replace H := ite_n cc H
        refine g_iload_n (T_X10_readNumber 16 _ _ _ rfl) rfl ?_
        refine g_bipush (T_X10_readNumber 17 _ _ _ rfl) (by decide) ?_
        refine g_imul (T_X10_readNumber 18 _ _ _ rfl) ?_
        refine g_aload_n (T_X10_readNumber 19 _ _ _ rfl) rfl ?_
        refine g_getI (c := 41) (T_X10_readNumber 20 _ _ _ rfl) fl_X10_36 rfl (Or.inl rfl) ?_
        refine g_iadd (T_X10_readNumber 21 _ _ _ rfl) ?_
        refine g_bipush (T_X10_readNumber 22 _ _ _ rfl) (by decide) ?_
        refine g_isub (T_X10_readNumber 23 _ _ _ rfl) ?_
        refine g_bndI H fun y3 H => ?_
        refine g_istore_n (T_X10_readNumber 24 _ _ _ rfl) (by decide) ?_
        refine g_aload_n (T_X10_readNumber 25 _ _ _ rfl) rfl ?_
        obtain ⟨h4, hq, H⟩ := bv_some H
        refine g_callVv (M' := M_X10_step) (c := 41) (av := []) (st := []) (T_X10_readNumber 26 _ _ _ rfl) ml_X10_43 cb_X10_step rfl rfl (Nat.le_of_ble_eq_true rfl) (by omega) (R_X10_step N _ _ hq) ?_
        refine g_iincB (T_X10_readNumber 27 _ _ _ rfl) rfl (by decide) H fun y5 H => ?_
        refine g_goto (tgt := 16) (T_X10_readNumber 28 _ _ _ rfl) (by decide) ?_
        refine g_weak [true, true, true, true] ?_
        exact ih _ _ _ _ _ H
def J_X10_readNumber_12 (N : Nat) (x1 : Int) (h : Hp) : Option (Int × Hp) :=
  L_X10_readNumber_16 N  N x1 0 0 h
set_option maxRecDepth 100000 in
set_option maxHeartbeats 4000000 in
theorem R_J_X10_readNumber_12 (N : Nat) (x1 : Int) (h : Hp) (res : Int × Hp) (H : J_X10_readNumber_12 N x1 h = some res) : Go M_X10_readNumber 2 12 [some (.inr 42), some (.inl x1), none, none] [] h (Qi res) := by
  unfold J_X10_readNumber_12 at H
  refine g_iconst (T_X10_readNumber 6 _ _ _ rfl) ⟨by decide, by decide⟩ ?_
  refine g_istore_n (T_X10_readNumber 7 _ _ _ rfl) (by decide) ?_
  refine g_iconst (T_X10_readNumber 8 _ _ _ rfl) ⟨by decide, by decide⟩ ?_
  refine g_istore_n (T_X10_readNumber 9 _ _ _ rfl) (by decide) ?_
  refine g_weak [true, true, true, true] ?_
  refine R_L_X10_readNumber_16 N   _ _ _ _ _ _ H
def F_X10_readNumber (N : Nat) (x1 : Int) (h : Hp) : Option (Int × Hp) :=
  bd (F_X10_seesDigit N h) fun y2 h1 =>
  if y2 = 0 then
    bv (F_X10_fail N 1 h1) fun h3 =>
    J_X10_readNumber_12 N  x1 h3
  else
  J_X10_readNumber_12 N  x1 h1
set_option maxRecDepth 100000 in
set_option maxHeartbeats 4000000 in
theorem R_X10_readNumber (N : Nat) (x1 : Int) (h : Hp) (res : Int × Hp) (H : F_X10_readNumber N x1 h = some res) : Runs M_X10_readNumber 2 [.inr 42, .inl x1] h (Qi res) := by
  refine Runs.of rfl (Nat.le_of_ble_eq_true rfl) ?_
  show Go M_X10_readNumber 2 0 [some (.inr 42), some (.inl x1), none, none] [] h (Qi res)
  unfold F_X10_readNumber at H
  refine g_aload_n (T_X10_readNumber 0 _ _ _ rfl) rfl ?_
  obtain ⟨y2, h1, hq, H⟩ := bd_some H
  refine g_callVi (M' := M_X10_seesDigit) (c := 41) (av := []) (st := []) (T_X10_readNumber 1 _ _ _ rfl) ml_X10_50 cb_X10_seesDigit rfl rfl (Nat.le_of_ble_eq_true rfl) (by omega) (R_X10_seesDigit N _ _ hq) ?_
  refine g_if_ne (tgt := 12) (T_X10_readNumber 2 _ _ _ rfl) (by decide) (fun cc => ?_) (fun cc => ?_)
  · replace H := ite_n cc H
    refine g_weak [true, true, false, false] ?_
    exact R_J_X10_readNumber_12 N   _ _ _ H
  · replace H := ite_p cc H
    refine g_aload_n (T_X10_readNumber 3 _ _ _ rfl) rfl ?_
    refine g_iconst (T_X10_readNumber 4 _ _ _ rfl) ⟨by decide, by decide⟩ ?_
    obtain ⟨h3, hq, H⟩ := bv_some H
    refine g_callVv (M' := M_X10_fail) (c := 41) (av := [.inl 1]) (st := []) (T_X10_readNumber 5 _ _ _ rfl) ml_X10_46 cb_X10_fail rfl rfl (Nat.le_of_ble_eq_true rfl) (by omega) (R_X10_fail N _ _ _ hq) ?_
    refine g_weak [true, true, false, false] ?_
    exact R_J_X10_readNumber_12 N   _ _ _ H
def F_X3_opens (N : Nat) (x2 : Int) (h : Hp) : Option (Int × Hp) :=
  if x2 < 6 then
    bv (F_X10_step N h) fun h1 =>
    some (1, h1)
  else
  bv (F_X10_fail N 5 h) fun h2 =>
  some (0, h2)
set_option maxRecDepth 100000 in
set_option maxHeartbeats 4000000 in
theorem R_X3_opens (N : Nat) (x2 : Int) (h : Hp) (res : Int × Hp) (H : F_X3_opens N x2 h = some res) : Runs M_X3_opens 2 [.inr 44, .inr 42, .inl x2] h (Qi res) := by
  refine Runs.of rfl (Nat.le_of_ble_eq_true rfl) ?_
  show Go M_X3_opens 2 0 [some (.inr 44), some (.inr 42), some (.inl x2)] [] h (Qi res)
  unfold F_X3_opens at H
  refine g_iload_n (T_X3_opens 0 _ _ _ rfl) rfl ?_
  refine g_bipush (T_X3_opens 1 _ _ _ rfl) (by decide) ?_
  refine g_icmp_lt (tgt := 13) (T_X3_opens 2 _ _ _ rfl) (by decide) (fun cc => ?_) (fun cc => ?_)
  · replace H := ite_p cc H
    refine g_aload_n (T_X3_opens 8 _ _ _ rfl) rfl ?_
    obtain ⟨h1, hq, H⟩ := bv_some H
    refine g_callVv (M' := M_X10_step) (c := 41) (av := []) (st := []) (T_X3_opens 9 _ _ _ rfl) ml_X3_51 cb_X10_step rfl rfl (Nat.le_of_ble_eq_true rfl) (by omega) (R_X10_step N _ _ hq) ?_
    refine g_iconst (T_X3_opens 10 _ _ _ rfl) ⟨by decide, by decide⟩ ?_
    exact g_zret (T_X3_opens 11 _ _ _ rfl) rfl (by decide) (qi_of H)
  · replace H := ite_n cc H
    refine g_aload_n (T_X3_opens 3 _ _ _ rfl) rfl ?_
    refine g_iconst (T_X3_opens 4 _ _ _ rfl) ⟨by decide, by decide⟩ ?_
    obtain ⟨h2, hq, H⟩ := bv_some H
    refine g_callVv (M' := M_X10_fail) (c := 41) (av := [.inl 5]) (st := []) (T_X3_opens 5 _ _ _ rfl) ml_X3_48 cb_X10_fail rfl rfl (Nat.le_of_ble_eq_true rfl) (by omega) (R_X10_fail N _ _ _ hq) ?_
    refine g_iconst (T_X3_opens 6 _ _ _ rfl) ⟨by decide, by decide⟩ ?_
    exact g_zret (T_X3_opens 7 _ _ _ rfl) rfl (by decide) (qi_of H)
def F_X10_need (N : Nat) (x1 : Int) (h : Hp) : Option (Hp) :=
  bd (F_X10_sees N x1 h) fun y2 h1 =>
  if y2 = 0 then
    bv (F_X10_fail N 1 h1) fun h3 =>
    some h3
  else
  bv (F_X10_step N h1) fun h4 =>
  some h4
set_option maxRecDepth 100000 in
set_option maxHeartbeats 4000000 in
theorem R_X10_need (N : Nat) (x1 : Int) (h : Hp) (res : Hp) (H : F_X10_need N x1 h = some res) : Runs M_X10_need 2 [.inr 42, .inl x1] h (Qv res) := by
  refine Runs.of rfl (Nat.le_of_ble_eq_true rfl) ?_
  show Go M_X10_need 2 0 [some (.inr 42), some (.inl x1)] [] h (Qv res)
  unfold F_X10_need at H
  refine g_aload_n (T_X10_need 0 _ _ _ rfl) rfl ?_
  refine g_iload_n (T_X10_need 1 _ _ _ rfl) rfl ?_
  obtain ⟨y2, h1, hq, H⟩ := bd_some H
  refine g_callVi (M' := M_X10_sees) (c := 41) (av := [.inl x1]) (st := []) (T_X10_need 2 _ _ _ rfl) ml_X10_39 cb_X10_sees rfl rfl (Nat.le_of_ble_eq_true rfl) (by omega) (R_X10_sees N _ _ _ hq) ?_
  refine g_if_eq (tgt := 15) (T_X10_need 3 _ _ _ rfl) (by decide) (fun cc => ?_) (fun cc => ?_)
  · replace H := ite_p cc H
    refine g_aload_n (T_X10_need 7 _ _ _ rfl) rfl ?_
    refine g_iconst (T_X10_need 8 _ _ _ rfl) ⟨by decide, by decide⟩ ?_
    obtain ⟨h3, hq, H⟩ := bv_some H
    refine g_callVv (M' := M_X10_fail) (c := 41) (av := [.inl 1]) (st := []) (T_X10_need 9 _ _ _ rfl) ml_X10_46 cb_X10_fail rfl rfl (Nat.le_of_ble_eq_true rfl) (by omega) (R_X10_fail N _ _ _ hq) ?_
    exact g_vret (T_X10_need 10 _ _ _ rfl) rfl (qv_of H)
  · replace H := ite_n cc H
    refine g_aload_n (T_X10_need 4 _ _ _ rfl) rfl ?_
    obtain ⟨h4, hq, H⟩ := bv_some H
    refine g_callVv (M' := M_X10_step) (c := 41) (av := []) (st := []) (T_X10_need 5 _ _ _ rfl) ml_X10_43 cb_X10_step rfl rfl (Nat.le_of_ble_eq_true rfl) (by omega) (R_X10_step N _ _ hq) ?_
    refine g_goto (tgt := 20) (T_X10_need 6 _ _ _ rfl) (by decide) ?_
    exact g_vret (T_X10_need 10 _ _ _ rfl) rfl (qv_of H)
def F_X3_readFactor (N : Nat) (rc : Int → Hp → Option (Hp)) (x2 : Int) (h : Hp) : Option (Hp) :=
  bd (F_X10_sees N 91 h) fun y2 h1 =>
  if y2 = 0 then
    bd (F_X10_seesDigit N h1) fun y4 h3 =>
    if y4 = 0 then
      bv (F_X3_readFact N h3) fun h5 =>
      some h5
    else
    bd (F_X10_readNumber N 5 h3) fun y7 h6 =>
    bv (F_X2_addSign N 48 y7 h6) fun h8 =>
    bd (F_X10_seesDigit N h8) fun y10 h9 =>
    if y10 = 0 then
      some h9
    else
    bv (F_X10_fail N 2 h9) fun h11 =>
    some h11
  else
  bd (F_X3_opens N x2 h1) fun y13 h12 =>
  if y13 = 0 then
    some h12
  else
  bv (rc (w32 (x2 + 1)) h12) fun h14 =>
  bv (F_X10_need N 93 h14) fun h15 =>
  some h15
set_option maxRecDepth 100000 in
set_option maxHeartbeats 4000000 in
theorem R_X3_readFactor (N : Nat) (rc : Int → Hp → Option (Hp)) (dr : Nat) (hrc : ∀ (a0 : Int) (h : Hp) (res : Hp), rc a0 h = some res → Runs M_X3_readSum dr [.inr 44, .inr 42, .inl a0] h (Qv res)) (x2 : Int) (h : Hp) (res : Hp) (H : F_X3_readFactor N rc x2 h = some res) : Runs M_X3_readFactor (dr + 9) [.inr 44, .inr 42, .inl x2] h (Qv res) := by
  refine Runs.of rfl (Nat.le_of_ble_eq_true rfl) ?_
  show Go M_X3_readFactor (dr + 9) 0 [some (.inr 44), some (.inr 42), some (.inl x2)] [] h (Qv res)
  unfold F_X3_readFactor at H
  refine g_aload_n (T_X3_readFactor 0 _ _ _ rfl) rfl ?_
  refine g_bipush (T_X3_readFactor 1 _ _ _ rfl) (by decide) ?_
  obtain ⟨y2, h1, hq, H⟩ := bd_some H
  refine g_callVi (M' := M_X10_sees) (c := 41) (av := [.inl 91]) (st := []) (T_X3_readFactor 2 _ _ _ rfl) ml_X3_71 cb_X10_sees rfl rfl (Nat.le_of_ble_eq_true rfl) (by omega) (R_X10_sees N _ _ _ hq) ?_
  refine g_if_eq (tgt := 35) (T_X3_readFactor 3 _ _ _ rfl) (by decide) (fun cc => ?_) (fun cc => ?_)
  · replace H := ite_p cc H
    refine g_aload_n (T_X3_readFactor 19 _ _ _ rfl) rfl ?_
    obtain ⟨y4, h3, hq, H⟩ := bd_some H
    refine g_callVi (M' := M_X10_seesDigit) (c := 41) (av := []) (st := []) (T_X3_readFactor 20 _ _ _ rfl) ml_X3_90 cb_X10_seesDigit rfl rfl (Nat.le_of_ble_eq_true rfl) (by omega) (R_X10_seesDigit N _ _ hq) ?_
    refine g_if_eq (tgt := 71) (T_X3_readFactor 21 _ _ _ rfl) (by decide) (fun cc => ?_) (fun cc => ?_)
    · replace H := ite_p cc H
      refine g_aload_n (T_X3_readFactor 36 _ _ _ rfl) rfl ?_
      refine g_aload_n (T_X3_readFactor 37 _ _ _ rfl) rfl ?_
      obtain ⟨h5, hq, H⟩ := bv_some H
      refine g_callVv (M' := M_X3_readFact) (c := 43) (av := [.inr 42]) (st := []) (T_X3_readFactor 38 _ _ _ rfl) ml_X3_97 cb_X3_readFact rfl rfl (Nat.le_of_ble_eq_true rfl) (by omega) (R_X3_readFact N _ _ hq) ?_
      exact g_vret (T_X3_readFactor 39 _ _ _ rfl) rfl (qv_of H)
    · replace H := ite_n cc H
      refine g_aload_n (T_X3_readFactor 22 _ _ _ rfl) rfl ?_
      refine g_getR (c := 43) (r := 45) (T_X3_readFactor 23 _ _ _ rfl) fl_X3_12 rfl (nR rfl) rfl (by decide) ?_
      refine g_bipush (T_X3_readFactor 24 _ _ _ rfl) (by decide) ?_
      refine g_aload_n (T_X3_readFactor 25 _ _ _ rfl) rfl ?_
      refine g_iconst (T_X3_readFactor 26 _ _ _ rfl) ⟨by decide, by decide⟩ ?_
      obtain ⟨y7, h6, hq, H⟩ := bd_some H
      refine g_callVi (M' := M_X10_readNumber) (c := 41) (av := [.inl 5]) (st := [.inl 48, .inr 45]) (T_X3_readFactor 27 _ _ _ rfl) ml_X3_93 cb_X10_readNumber rfl rfl (Nat.le_of_ble_eq_true rfl) (by omega) (R_X10_readNumber N _ _ _ hq) ?_
      obtain ⟨h8, hq, H⟩ := bv_some H
      refine g_callVv (M' := M_X2_addSign) (c := 44) (av := [.inl 48, .inl y7]) (st := []) (T_X3_readFactor 28 _ _ _ rfl) ml_X3_75 cb_X2_addSign rfl rfl (Nat.le_of_ble_eq_true rfl) (by omega) (R_X2_addSign N _ _ _ _ hq) ?_
      refine g_aload_n (T_X3_readFactor 29 _ _ _ rfl) rfl ?_
      obtain ⟨y10, h9, hq, H⟩ := bd_some H
      refine g_callVi (M' := M_X10_seesDigit) (c := 41) (av := []) (st := []) (T_X3_readFactor 30 _ _ _ rfl) ml_X3_90 cb_X10_seesDigit rfl rfl (Nat.le_of_ble_eq_true rfl) (by omega) (R_X10_seesDigit N _ _ hq) ?_
      refine g_if_eq (tgt := 76) (T_X3_readFactor 31 _ _ _ rfl) (by decide) (fun cc => ?_) (fun cc => ?_)
      · replace H := ite_p cc H
        exact g_vret (T_X3_readFactor 39 _ _ _ rfl) rfl (qv_of H)
      · replace H := ite_n cc H
        refine g_aload_n (T_X3_readFactor 32 _ _ _ rfl) rfl ?_
        refine g_iconst (T_X3_readFactor 33 _ _ _ rfl) ⟨by decide, by decide⟩ ?_
        obtain ⟨h11, hq, H⟩ := bv_some H
        refine g_callVv (M' := M_X10_fail) (c := 41) (av := [.inl 2]) (st := []) (T_X3_readFactor 34 _ _ _ rfl) ml_X3_48 cb_X10_fail rfl rfl (Nat.le_of_ble_eq_true rfl) (by omega) (R_X10_fail N _ _ _ hq) ?_
        refine g_goto (tgt := 76) (T_X3_readFactor 35 _ _ _ rfl) (by decide) ?_
        exact g_vret (T_X3_readFactor 39 _ _ _ rfl) rfl (qv_of H)
  · replace H := ite_n cc H
    refine g_aload_n (T_X3_readFactor 4 _ _ _ rfl) rfl ?_
    refine g_aload_n (T_X3_readFactor 5 _ _ _ rfl) rfl ?_
    refine g_iload_n (T_X3_readFactor 6 _ _ _ rfl) rfl ?_
    obtain ⟨y13, h12, hq, H⟩ := bd_some H
    refine g_callVi (M' := M_X3_opens) (c := 43) (av := [.inr 42, .inl x2]) (st := []) (T_X3_readFactor 7 _ _ _ rfl) ml_X3_86 cb_X3_opens rfl rfl (Nat.le_of_ble_eq_true rfl) (by omega) (R_X3_opens N _ _ _ hq) ?_
    refine g_if_eq (tgt := 76) (T_X3_readFactor 8 _ _ _ rfl) (by decide) (fun cc => ?_) (fun cc => ?_)
    · replace H := ite_p cc H
      exact g_vret (T_X3_readFactor 39 _ _ _ rfl) rfl (qv_of H)
    · replace H := ite_n cc H
      refine g_aload_n (T_X3_readFactor 9 _ _ _ rfl) rfl ?_
      refine g_aload_n (T_X3_readFactor 10 _ _ _ rfl) rfl ?_
      refine g_iload_n (T_X3_readFactor 11 _ _ _ rfl) rfl ?_
      refine g_iconst (T_X3_readFactor 12 _ _ _ rfl) ⟨by decide, by decide⟩ ?_
      refine g_iadd (T_X3_readFactor 13 _ _ _ rfl) ?_
      obtain ⟨h14, hq, H⟩ := bv_some H
      refine g_callVv (M' := M_X3_readSum) (c := 43) (av := [.inr 42, .inl (w32 (x2 + 1))]) (st := []) (T_X3_readFactor 14 _ _ _ rfl) ml_X3_57 cb_X3_readSum rfl rfl (Nat.le_of_ble_eq_true rfl) (by omega) (hrc _ _ _ hq) ?_
      refine g_aload_n (T_X3_readFactor 15 _ _ _ rfl) rfl ?_
      refine g_bipush (T_X3_readFactor 16 _ _ _ rfl) (by decide) ?_
      obtain ⟨h15, hq, H⟩ := bv_some H
      refine g_callVv (M' := M_X10_need) (c := 41) (av := [.inl 93]) (st := []) (T_X3_readFactor 17 _ _ _ rfl) ml_X3_34 cb_X10_need rfl rfl (Nat.le_of_ble_eq_true rfl) (by omega) (R_X10_need N _ _ _ hq) ?_
      refine g_goto (tgt := 76) (T_X3_readFactor 18 _ _ _ rfl) (by decide) ?_
      exact g_vret (T_X3_readFactor 39 _ _ _ rfl) rfl (qv_of H)
def F_X3_seesProductSign (N : Nat) (h : Hp) : Option (Int × Hp) :=
  bd (F_X10_sees N 42 h) fun y2 h1 =>
  if y2 = 0 then
    bd (F_X10_sees N 47 h1) fun y4 h3 =>
    if y4 = 0 then
      bd (F_X10_sees N 37 h3) fun y6 h5 =>
      if y6 = 0 then
        some (0, h5)
      else
      some (1, h5)
    else
    some (1, h3)
  else
  some (1, h1)
set_option maxRecDepth 100000 in
set_option maxHeartbeats 4000000 in
theorem R_X3_seesProductSign (N : Nat) (h : Hp) (res : Int × Hp) (H : F_X3_seesProductSign N h = some res) : Runs M_X3_seesProductSign 2 [.inr 42] h (Qi res) := by
  refine Runs.of rfl (Nat.le_of_ble_eq_true rfl) ?_
  show Go M_X3_seesProductSign 2 0 [some (.inr 42)] [] h (Qi res)
  unfold F_X3_seesProductSign at H
  refine g_aload_n (T_X3_seesProductSign 0 _ _ _ rfl) rfl ?_
  refine g_bipush (T_X3_seesProductSign 1 _ _ _ rfl) (by decide) ?_
  obtain ⟨y2, h1, hq, H⟩ := bd_some H
  refine g_callVi (M' := M_X10_sees) (c := 41) (av := [.inl 42]) (st := []) (T_X3_seesProductSign 2 _ _ _ rfl) ml_X3_71 cb_X10_sees rfl rfl (Nat.le_of_ble_eq_true rfl) (by omega) (R_X10_sees N _ _ _ hq) ?_
  refine g_if_ne (tgt := 27) (T_X3_seesProductSign 3 _ _ _ rfl) (by decide) (fun cc => ?_) (fun cc => ?_)
  · replace H := ite_n cc H
    refine g_iconst (T_X3_seesProductSign 12 _ _ _ rfl) ⟨by decide, by decide⟩ ?_
    refine g_goto (tgt := 32) (T_X3_seesProductSign 13 _ _ _ rfl) (by decide) ?_
    exact g_zret (T_X3_seesProductSign 15 _ _ _ rfl) rfl (by decide) (qi_of H)
  · replace H := ite_p cc H
    refine g_aload_n (T_X3_seesProductSign 4 _ _ _ rfl) rfl ?_
    refine g_bipush (T_X3_seesProductSign 5 _ _ _ rfl) (by decide) ?_
    obtain ⟨y4, h3, hq, H⟩ := bd_some H
    refine g_callVi (M' := M_X10_sees) (c := 41) (av := [.inl 47]) (st := []) (T_X3_seesProductSign 6 _ _ _ rfl) ml_X3_71 cb_X10_sees rfl rfl (Nat.le_of_ble_eq_true rfl) (by omega) (R_X10_sees N _ _ _ hq) ?_
    refine g_if_ne (tgt := 27) (T_X3_seesProductSign 7 _ _ _ rfl) (by decide) (fun cc => ?_) (fun cc => ?_)
    · replace H := ite_n cc H
      refine g_iconst (T_X3_seesProductSign 12 _ _ _ rfl) ⟨by decide, by decide⟩ ?_
      refine g_goto (tgt := 32) (T_X3_seesProductSign 13 _ _ _ rfl) (by decide) ?_
      exact g_zret (T_X3_seesProductSign 15 _ _ _ rfl) rfl (by decide) (qi_of H)
    · replace H := ite_p cc H
      refine g_aload_n (T_X3_seesProductSign 8 _ _ _ rfl) rfl ?_
      refine g_bipush (T_X3_seesProductSign 9 _ _ _ rfl) (by decide) ?_
      obtain ⟨y6, h5, hq, H⟩ := bd_some H
      refine g_callVi (M' := M_X10_sees) (c := 41) (av := [.inl 37]) (st := []) (T_X3_seesProductSign 10 _ _ _ rfl) ml_X3_71 cb_X10_sees rfl rfl (Nat.le_of_ble_eq_true rfl) (by omega) (R_X10_sees N _ _ _ hq) ?_
      refine g_if_eq (tgt := 31) (T_X3_seesProductSign 11 _ _ _ rfl) (by decide) (fun cc => ?_) (fun cc => ?_)
      · replace H := ite_p cc H
        refine g_iconst (T_X3_seesProductSign 14 _ _ _ rfl) ⟨by decide, by decide⟩ ?_
        exact g_zret (T_X3_seesProductSign 15 _ _ _ rfl) rfl (by decide) (qi_of H)
      · replace H := ite_n cc H
        refine g_iconst (T_X3_seesProductSign 12 _ _ _ rfl) ⟨by decide, by decide⟩ ?_
        refine g_goto (tgt := 32) (T_X3_seesProductSign 13 _ _ _ rfl) (by decide) ?_
        exact g_zret (T_X3_seesProductSign 15 _ _ _ rfl) rfl (by decide) (qi_of H)
def L_X3_readProduct_8 (N : Nat) (rc : Int → Hp → Option (Hp)) : Nat → Int → Int → Hp → Option (Hp)
  | 0, _, _, _ => none
  | n + 1, x2, x3, h =>
    if 240 ≤ x3 then
      some h
    else
    bd (F_X3_seesProductSign N h) fun y2 h1 =>
    if y2 = 0 then
      some h1
    else
    bd (F_X10_sign N h1) fun y4 h3 =>
    bv (F_X10_step N h3) fun h5 =>
    bv (F_X3_readFactor N rc x2 h5) fun h6 =>
    bv (F_X2_addSign N y4 0 h6) fun h7 =>
    bnd (w32 (x3 + 1)) fun y8 =>
    (L_X3_readProduct_8 N rc n) x2 y8 h7
set_option maxRecDepth 100000 in
set_option maxHeartbeats 4000000 in
theorem R_L_X3_readProduct_8 (N : Nat) (rc : Int → Hp → Option (Hp)) (dr : Nat) (hrc : ∀ (a0 : Int) (h : Hp) (res : Hp), rc a0 h = some res → Runs M_X3_readSum dr [.inr 44, .inr 42, .inl a0] h (Qv res)) : ∀ (n : Nat) (x2 : Int) (x3 : Int) (h : Hp) (res : Hp), L_X3_readProduct_8 N rc n x2 x3 h = some res → Go M_X3_readProduct (dr + 10) 8 [some (.inr 44), some (.inr 42), some (.inl x2), some (.inl x3), none] [] h (Qv res)
  | 0, _, _, _, _, H => by cases H
  | n + 1, x2, x3, h, res, H => by
    have ih := R_L_X3_readProduct_8 N rc dr hrc n
    simp only [L_X3_readProduct_8] at H
    refine g_iload_n (T_X3_readProduct 6 _ _ _ rfl) rfl ?_
    refine g_sipush (T_X3_readProduct 7 _ _ _ rfl) (by decide) ?_
    refine g_icmp_ge (tgt := 54) (T_X3_readProduct 8 _ _ _ rfl) (by decide) (fun cc => ?_) (fun cc => ?_)
    · replace H := ite_p cc H
      exact g_vret (T_X3_readProduct 28 _ _ _ rfl) rfl (qv_of H)
    · replace H := ite_n cc H
      refine g_aload_n (T_X3_readProduct 9 _ _ _ rfl) rfl ?_
      obtain ⟨y2, h1, hq, H⟩ := bd_some H
      refine g_callSi (M' := M_X3_seesProductSign) (av := [.inr 42]) (st := []) (T_X3_readProduct 10 _ _ _ rfl) ml_X3_82 cb_X3_seesProductSign rfl (Nat.le_of_ble_eq_true rfl) (by omega) (R_X3_seesProductSign N _ _ hq) ?_
      refine g_if_eq (tgt := 54) (T_X3_readProduct 11 _ _ _ rfl) (by decide) (fun cc => ?_) (fun cc => ?_)
      · replace H := ite_p cc H
        exact g_vret (T_X3_readProduct 28 _ _ _ rfl) rfl (qv_of H)
      · replace H := ite_n cc H
        refine g_aload_n (T_X3_readProduct 12 _ _ _ rfl) rfl ?_
        obtain ⟨y4, h3, hq, H⟩ := bd_some H
        refine g_callVi (M' := M_X10_sign) (c := 41) (av := []) (st := []) (T_X3_readProduct 13 _ _ _ rfl) ml_X3_45 cb_X10_sign rfl rfl (Nat.le_of_ble_eq_true rfl) (by omega) (R_X10_sign N _ _ hq) ?_
        refine g_istore (T_X3_readProduct 14 _ _ _ rfl) (by decide) ?_
        refine g_aload_n (T_X3_readProduct 15 _ _ _ rfl) rfl ?_
        obtain ⟨h5, hq, H⟩ := bv_some H
        refine g_callVv (M' := M_X10_step) (c := 41) (av := []) (st := []) (T_X3_readProduct 16 _ _ _ rfl) ml_X3_51 cb_X10_step rfl rfl (Nat.le_of_ble_eq_true rfl) (by omega) (R_X10_step N _ _ hq) ?_
        refine g_aload_n (T_X3_readProduct 17 _ _ _ rfl) rfl ?_
        refine g_aload_n (T_X3_readProduct 18 _ _ _ rfl) rfl ?_
        refine g_iload_n (T_X3_readProduct 19 _ _ _ rfl) rfl ?_
        obtain ⟨h6, hq, H⟩ := bv_some H
        refine g_callVv (M' := M_X3_readFactor) (c := 43) (av := [.inr 42, .inl x2]) (st := []) (T_X3_readProduct 20 _ _ _ rfl) ml_X3_79 cb_X3_readFactor rfl rfl (Nat.le_of_ble_eq_true rfl) (by omega) (R_X3_readFactor N rc dr hrc _ _ _ hq) ?_
        refine g_aload_n (T_X3_readProduct 21 _ _ _ rfl) rfl ?_
        refine g_getR (c := 43) (r := 45) (T_X3_readProduct 22 _ _ _ rfl) fl_X3_12 rfl (nR rfl) rfl (by decide) ?_
        refine g_iload (T_X3_readProduct 23 _ _ _ rfl) rfl ?_
        refine g_iconst (T_X3_readProduct 24 _ _ _ rfl) ⟨by decide, by decide⟩ ?_
        obtain ⟨h7, hq, H⟩ := bv_some H
        refine g_callVv (M' := M_X2_addSign) (c := 44) (av := [.inl y4, .inl 0]) (st := []) (T_X3_readProduct 25 _ _ _ rfl) ml_X3_75 cb_X2_addSign rfl rfl (Nat.le_of_ble_eq_true rfl) (by omega) (R_X2_addSign N _ _ _ _ hq) ?_
        refine g_iincB (T_X3_readProduct 26 _ _ _ rfl) rfl (by decide) H fun y8 H => ?_
        refine g_goto (tgt := 8) (T_X3_readProduct 27 _ _ _ rfl) (by decide) ?_
        refine g_weak [true, true, true, true, false] ?_
        exact ih _ _ _ _ H
def F_X3_readProduct (N : Nat) (rc : Int → Hp → Option (Hp)) (x2 : Int) (h : Hp) : Option (Hp) :=
  bv (F_X3_readFactor N rc x2 h) fun h1 =>
  L_X3_readProduct_8 N rc  N x2 0 h1
set_option maxRecDepth 100000 in
set_option maxHeartbeats 4000000 in
theorem R_X3_readProduct (N : Nat) (rc : Int → Hp → Option (Hp)) (dr : Nat) (hrc : ∀ (a0 : Int) (h : Hp) (res : Hp), rc a0 h = some res → Runs M_X3_readSum dr [.inr 44, .inr 42, .inl a0] h (Qv res)) (x2 : Int) (h : Hp) (res : Hp) (H : F_X3_readProduct N rc x2 h = some res) : Runs M_X3_readProduct (dr + 10) [.inr 44, .inr 42, .inl x2] h (Qv res) := by
  refine Runs.of rfl (Nat.le_of_ble_eq_true rfl) ?_
  show Go M_X3_readProduct (dr + 10) 0 [some (.inr 44), some (.inr 42), some (.inl x2), none, none] [] h (Qv res)
  unfold F_X3_readProduct at H
  refine g_aload_n (T_X3_readProduct 0 _ _ _ rfl) rfl ?_
  refine g_aload_n (T_X3_readProduct 1 _ _ _ rfl) rfl ?_
  refine g_iload_n (T_X3_readProduct 2 _ _ _ rfl) rfl ?_
  obtain ⟨h1, hq, H⟩ := bv_some H
  refine g_callVv (M' := M_X3_readFactor) (c := 43) (av := [.inr 42, .inl x2]) (st := []) (T_X3_readProduct 3 _ _ _ rfl) ml_X3_79 cb_X3_readFactor rfl rfl (Nat.le_of_ble_eq_true rfl) (by omega) (R_X3_readFactor N rc dr hrc _ _ _ hq) ?_
  refine g_iconst (T_X3_readProduct 4 _ _ _ rfl) ⟨by decide, by decide⟩ ?_
  refine g_istore_n (T_X3_readProduct 5 _ _ _ rfl) (by decide) ?_
  refine g_weak [true, true, true, true, false] ?_
  refine R_L_X3_readProduct_8 N rc  dr hrc  _ _ _ _ _ H
def J_X3_readSum_33 (N : Nat) (rc : Int → Hp → Option (Hp)) (k8 : Int → Int → Hp → Option (Hp)) (x2 : Int) (x3 : Int) (h : Hp) : Option (Hp) :=
  bd (F_X10_sign N h) fun y2 h1 =>
  bv (F_X10_step N h1) fun h3 =>
  bv (F_X3_readProduct N rc x2 h3) fun h4 =>
  bv (F_X2_addSign N y2 0 h4) fun h5 =>
  bnd (w32 (x3 + 1)) fun y6 =>
  k8 x2 y6 h5
set_option maxRecDepth 100000 in
set_option maxHeartbeats 4000000 in
theorem R_J_X3_readSum_33 (N : Nat) (rc : Int → Hp → Option (Hp)) (k8 : Int → Int → Hp → Option (Hp)) (dr : Nat) (hrc : ∀ (a0 : Int) (h : Hp) (res : Hp), rc a0 h = some res → Runs M_X3_readSum dr [.inr 44, .inr 42, .inl a0] h (Qv res)) (hk8 : ∀ (x2 : Int) (x3 : Int) (h : Hp) (res : Hp), k8 x2 x3 h = some res → Go M_X3_readSum (dr + 11) 8 [some (.inr 44), some (.inr 42), some (.inl x2), some (.inl x3), none] [] h (Qv res)) (x2 : Int) (x3 : Int) (h : Hp) (res : Hp) (H : J_X3_readSum_33 N rc k8 x2 x3 h = some res) : Go M_X3_readSum (dr + 11) 33 [some (.inr 44), some (.inr 42), some (.inl x2), some (.inl x3), none] [] h (Qv res) := by
  unfold J_X3_readSum_33 at H
  refine g_aload_n (T_X3_readSum 17 _ _ _ rfl) rfl ?_
  obtain ⟨y2, h1, hq, H⟩ := bd_some H
  refine g_callVi (M' := M_X10_sign) (c := 41) (av := []) (st := []) (T_X3_readSum 18 _ _ _ rfl) ml_X3_45 cb_X10_sign rfl rfl (Nat.le_of_ble_eq_true rfl) (by omega) (R_X10_sign N _ _ hq) ?_
  refine g_istore (T_X3_readSum 19 _ _ _ rfl) (by decide) ?_
  refine g_aload_n (T_X3_readSum 20 _ _ _ rfl) rfl ?_
  obtain ⟨h3, hq, H⟩ := bv_some H
  refine g_callVv (M' := M_X10_step) (c := 41) (av := []) (st := []) (T_X3_readSum 21 _ _ _ rfl) ml_X3_51 cb_X10_step rfl rfl (Nat.le_of_ble_eq_true rfl) (by omega) (R_X10_step N _ _ hq) ?_
  refine g_aload_n (T_X3_readSum 22 _ _ _ rfl) rfl ?_
  refine g_aload_n (T_X3_readSum 23 _ _ _ rfl) rfl ?_
  refine g_iload_n (T_X3_readSum 24 _ _ _ rfl) rfl ?_
  obtain ⟨h4, hq, H⟩ := bv_some H
  refine g_callVv (M' := M_X3_readProduct) (c := 43) (av := [.inr 42, .inl x2]) (st := []) (T_X3_readSum 25 _ _ _ rfl) ml_X3_68 cb_X3_readProduct rfl rfl (Nat.le_of_ble_eq_true rfl) (by omega) (R_X3_readProduct N rc dr hrc _ _ _ hq) ?_
  refine g_aload_n (T_X3_readSum 26 _ _ _ rfl) rfl ?_
  refine g_getR (c := 43) (r := 45) (T_X3_readSum 27 _ _ _ rfl) fl_X3_12 rfl (nR rfl) rfl (by decide) ?_
  refine g_iload (T_X3_readSum 28 _ _ _ rfl) rfl ?_
  refine g_iconst (T_X3_readSum 29 _ _ _ rfl) ⟨by decide, by decide⟩ ?_
  obtain ⟨h5, hq, H⟩ := bv_some H
  refine g_callVv (M' := M_X2_addSign) (c := 44) (av := [.inl y2, .inl 0]) (st := []) (T_X3_readSum 30 _ _ _ rfl) ml_X3_75 cb_X2_addSign rfl rfl (Nat.le_of_ble_eq_true rfl) (by omega) (R_X2_addSign N _ _ _ _ hq) ?_
  refine g_iincB (T_X3_readSum 31 _ _ _ rfl) rfl (by decide) H fun y6 H => ?_
  refine g_goto (tgt := 8) (T_X3_readSum 32 _ _ _ rfl) (by decide) ?_
  refine g_weak [true, true, true, true, false] ?_
  exact hk8 _ _ _ _ H
def L_X3_readSum_8 (N : Nat) (rc : Int → Hp → Option (Hp)) : Nat → Int → Int → Hp → Option (Hp)
  | 0, _, _, _ => none
  | n + 1, x2, x3, h =>
    if 240 ≤ x3 then
      some h
    else
    bd (F_X10_sees N 43 h) fun y2 h1 =>
    if y2 = 0 then
      bd (F_X10_sees N 45 h1) fun y4 h3 =>
      if y4 = 0 then
        some h3
      else
      J_X3_readSum_33 N rc (L_X3_readSum_8 N rc n) x2 x3 h3
    else
    J_X3_readSum_33 N rc (L_X3_readSum_8 N rc n) x2 x3 h1
set_option maxRecDepth 100000 in
set_option maxHeartbeats 4000000 in
theorem R_L_X3_readSum_8 (N : Nat) (rc : Int → Hp → Option (Hp)) (dr : Nat) (hrc : ∀ (a0 : Int) (h : Hp) (res : Hp), rc a0 h = some res → Runs M_X3_readSum dr [.inr 44, .inr 42, .inl a0] h (Qv res)) : ∀ (n : Nat) (x2 : Int) (x3 : Int) (h : Hp) (res : Hp), L_X3_readSum_8 N rc n x2 x3 h = some res → Go M_X3_readSum (dr + 11) 8 [some (.inr 44), some (.inr 42), some (.inl x2), some (.inl x3), none] [] h (Qv res)
  | 0, _, _, _, _, H => by cases H
  | n + 1, x2, x3, h, res, H => by
    have ih := R_L_X3_readSum_8 N rc dr hrc n
    simp only [L_X3_readSum_8] at H
    refine g_iload_n (T_X3_readSum 6 _ _ _ rfl) rfl ?_
    refine g_sipush (T_X3_readSum 7 _ _ _ rfl) (by decide) ?_
    refine g_icmp_ge (tgt := 65) (T_X3_readSum 8 _ _ _ rfl) (by decide) (fun cc => ?_) (fun cc => ?_)
    · replace H := ite_p cc H
      exact g_vret (T_X3_readSum 33 _ _ _ rfl) rfl (qv_of H)
    · replace H := ite_n cc H
      refine g_aload_n (T_X3_readSum 9 _ _ _ rfl) rfl ?_
      refine g_bipush (T_X3_readSum 10 _ _ _ rfl) (by decide) ?_
      obtain ⟨y2, h1, hq, H⟩ := bd_some H
      refine g_callVi (M' := M_X10_sees) (c := 41) (av := [.inl 43]) (st := []) (T_X3_readSum 11 _ _ _ rfl) ml_X3_71 cb_X10_sees rfl rfl (Nat.le_of_ble_eq_true rfl) (by omega) (R_X10_sees N _ _ _ hq) ?_
      refine g_if_ne (tgt := 33) (T_X3_readSum 12 _ _ _ rfl) (by decide) (fun cc => ?_) (fun cc => ?_)
      · replace H := ite_n cc H
        refine g_weak [true, true, true, true, false] ?_
        exact R_J_X3_readSum_33 N rc (L_X3_readSum_8 N rc n) dr hrc ih _ _ _ _ H
      · replace H := ite_p cc H
        refine g_aload_n (T_X3_readSum 13 _ _ _ rfl) rfl ?_
        refine g_bipush (T_X3_readSum 14 _ _ _ rfl) (by decide) ?_
        obtain ⟨y4, h3, hq, H⟩ := bd_some H
        refine g_callVi (M' := M_X10_sees) (c := 41) (av := [.inl 45]) (st := []) (T_X3_readSum 15 _ _ _ rfl) ml_X3_71 cb_X10_sees rfl rfl (Nat.le_of_ble_eq_true rfl) (by omega) (R_X10_sees N _ _ _ hq) ?_
        refine g_if_eq (tgt := 65) (T_X3_readSum 16 _ _ _ rfl) (by decide) (fun cc => ?_) (fun cc => ?_)
        · replace H := ite_p cc H
          exact g_vret (T_X3_readSum 33 _ _ _ rfl) rfl (qv_of H)
        · replace H := ite_n cc H
          refine g_weak [true, true, true, true, false] ?_
          exact R_J_X3_readSum_33 N rc (L_X3_readSum_8 N rc n) dr hrc ih _ _ _ _ H
def O_X3_readSum (N : Nat) (rc : Int → Hp → Option (Hp)) (x2 : Int) (h : Hp) : Option (Hp) :=
  bv (F_X3_readProduct N rc x2 h) fun h1 =>
  L_X3_readSum_8 N rc  N x2 0 h1
set_option maxRecDepth 100000 in
set_option maxHeartbeats 4000000 in
theorem RO_X3_readSum (N : Nat) (rc : Int → Hp → Option (Hp)) (dr : Nat) (hrc : ∀ (a0 : Int) (h : Hp) (res : Hp), rc a0 h = some res → Runs M_X3_readSum dr [.inr 44, .inr 42, .inl a0] h (Qv res)) (x2 : Int) (h : Hp) (res : Hp) (H : O_X3_readSum N rc x2 h = some res) : Runs M_X3_readSum (dr + 11) [.inr 44, .inr 42, .inl x2] h (Qv res) := by
  refine Runs.of rfl (Nat.le_of_ble_eq_true rfl) ?_
  show Go M_X3_readSum (dr + 11) 0 [some (.inr 44), some (.inr 42), some (.inl x2), none, none] [] h (Qv res)
  unfold O_X3_readSum at H
  refine g_aload_n (T_X3_readSum 0 _ _ _ rfl) rfl ?_
  refine g_aload_n (T_X3_readSum 1 _ _ _ rfl) rfl ?_
  refine g_iload_n (T_X3_readSum 2 _ _ _ rfl) rfl ?_
  obtain ⟨h1, hq, H⟩ := bv_some H
  refine g_callVv (M' := M_X3_readProduct) (c := 43) (av := [.inr 42, .inl x2]) (st := []) (T_X3_readSum 3 _ _ _ rfl) ml_X3_68 cb_X3_readProduct rfl rfl (Nat.le_of_ble_eq_true rfl) (by omega) (R_X3_readProduct N rc dr hrc _ _ _ hq) ?_
  refine g_iconst (T_X3_readSum 4 _ _ _ rfl) ⟨by decide, by decide⟩ ?_
  refine g_istore_n (T_X3_readSum 5 _ _ _ rfl) (by decide) ?_
  refine g_weak [true, true, true, true, false] ?_
  refine R_L_X3_readSum_8 N rc  dr hrc  _ _ _ _ _ H
def F_X3_readSum (N : Nat) : Nat → Int → Hp → Option (Hp)
  | 0, _, _ => none
  | D + 1, x2, h => O_X3_readSum N (F_X3_readSum N D) x2 h
set_option maxRecDepth 100000 in
set_option maxHeartbeats 4000000 in
theorem R_X3_readSum (N : Nat) : ∀ (D : Nat) (x2 : Int) (h : Hp) (res : Hp), F_X3_readSum N D x2 h = some res → Runs M_X3_readSum (11 * D + 1) [.inr 44, .inr 42, .inl x2] h (Qv res)
  | 0, _, _, _, H => by cases H
  | D + 1, x2, h, res, H => by
    simp only [F_X3_readSum] at H
    have e : 11 * (D + 1) + 1 = 11 * D + 1 + 11 := by omega
    rw [e]
    exact RO_X3_readSum N (F_X3_readSum N D) (11 * D + 1) (R_X3_readSum N D) _ _ _ H
def F_X2_leadToEnd (N : Nat) (x1 : Int) (h : Hp) : Option (Hp) :=
  bd (F_X11_isWithin N x1 0 (w32 ((h 44 7) - 1)) h) fun y2 h1 =>
  if y2 = 0 then
    some h1
  else
  grd (0 ≤ x1 ∧ x1 < 240) <|
  bnd (hw h1 50 x1.toNat (h1 44 7)) fun h3 =>
  some h3
set_option maxRecDepth 100000 in
set_option maxHeartbeats 4000000 in
theorem R_X2_leadToEnd (N : Nat) (x1 : Int) (h : Hp) (res : Hp) (H : F_X2_leadToEnd N x1 h = some res) : Runs M_X2_leadToEnd 2 [.inr 45, .inl x1] h (Qv res) := by
  refine Runs.of rfl (Nat.le_of_ble_eq_true rfl) ?_
  show Go M_X2_leadToEnd 2 0 [some (.inr 45), some (.inl x1)] [] h (Qv res)
  unfold F_X2_leadToEnd at H
  refine g_iload_n (T_X2_leadToEnd 0 _ _ _ rfl) rfl ?_
  refine g_iconst (T_X2_leadToEnd 1 _ _ _ rfl) ⟨by decide, by decide⟩ ?_
  refine g_aload_n (T_X2_leadToEnd 2 _ _ _ rfl) rfl ?_
  refine g_getI (c := 44) (T_X2_leadToEnd 3 _ _ _ rfl) fl_X2_40 rfl (Or.inl rfl) ?_
  refine g_iconst (T_X2_leadToEnd 4 _ _ _ rfl) ⟨by decide, by decide⟩ ?_
  refine g_isub (T_X2_leadToEnd 5 _ _ _ rfl) ?_
  obtain ⟨y2, h1, hq, H⟩ := bd_some H
  refine g_callSNi (M' := M_X11_isWithin) (av := [.inl x1, .inl 0, .inl (w32 ((h 44 7) - 1))]) (st := []) (T_X2_leadToEnd 6 _ _ _ rfl) ml_X2_43 cb_X11_isWithin rfl (Nat.le_of_ble_eq_true rfl) (by omega) (R_X11_isWithin N _ _ _ _ _ hq) ?_
  refine g_if_eq (tgt := 24) (T_X2_leadToEnd 7 _ _ _ rfl) (by decide) (fun cc => ?_) (fun cc => ?_)
  · replace H := ite_p cc H
    exact g_vret (T_X2_leadToEnd 14 _ _ _ rfl) rfl (qv_of H)
  · replace H := ite_n cc H
    refine g_aload_n (T_X2_leadToEnd 8 _ _ _ rfl) rfl ?_
    refine g_getR (c := 44) (r := 51) (T_X2_leadToEnd 9 _ _ _ rfl) fl_X2_27 rfl (nR rfl) rfl (by decide) ?_
    refine g_iload_n (T_X2_leadToEnd 10 _ _ _ rfl) rfl ?_
    refine g_aload_n (T_X2_leadToEnd 11 _ _ _ rfl) rfl ?_
    refine g_getI (c := 44) (T_X2_leadToEnd 12 _ _ _ rfl) fl_X2_40 rfl (Or.inl rfl) ?_
    obtain ⟨hg, H⟩ := grd_some H
    refine g_iast (c := 50) (T_X2_leadToEnd 13 _ _ _ rfl) rfl hg ?_
    refine g_bndH H fun h3 H => ?_
    exact g_vret (T_X2_leadToEnd 14 _ _ _ rfl) rfl (qv_of H)
def L_X3_readPart_8 (N : Nat) (rc : Int → Hp → Option (Hp)) : Nat → Int → Int → Hp → Option (Hp)
  | 0, _, _, _ => none
  | n + 1, x2, x3, h =>
    if 240 ≤ x3 then
      some h
    else
    bd (F_X10_sees N 38 h) fun y2 h1 =>
    if y2 = 0 then
      some h1
    else
    bd (F_X2_length N h1) fun y4 h3 =>
    bv (F_X2_addSign N 38 0 h3) fun h5 =>
    bv (F_X10_step N h5) fun h6 =>
    bv (rc x2 h6) fun h7 =>
    bv (F_X2_leadToEnd N y4 h7) fun h8 =>
    bnd (w32 (x3 + 1)) fun y9 =>
    (L_X3_readPart_8 N rc n) x2 y9 h8
set_option maxRecDepth 100000 in
set_option maxHeartbeats 4000000 in
theorem R_L_X3_readPart_8 (N : Nat) (rc : Int → Hp → Option (Hp)) (dr : Nat) (hrc : ∀ (a0 : Int) (h : Hp) (res : Hp), rc a0 h = some res → Runs M_X3_readTest dr [.inr 44, .inr 42, .inl a0] h (Qv res)) : ∀ (n : Nat) (x2 : Int) (x3 : Int) (h : Hp) (res : Hp), L_X3_readPart_8 N rc n x2 x3 h = some res → Go M_X3_readPart (dr + 3) 8 [some (.inr 44), some (.inr 42), some (.inl x2), some (.inl x3), none] [] h (Qv res)
  | 0, _, _, _, _, H => by cases H
  | n + 1, x2, x3, h, res, H => by
    have ih := R_L_X3_readPart_8 N rc dr hrc n
    simp only [L_X3_readPart_8] at H
    refine g_iload_n (T_X3_readPart 6 _ _ _ rfl) rfl ?_
    refine g_sipush (T_X3_readPart 7 _ _ _ rfl) (by decide) ?_
    refine g_icmp_ge (tgt := 68) (T_X3_readPart 8 _ _ _ rfl) (by decide) (fun cc => ?_) (fun cc => ?_)
    · replace H := ite_p cc H
      exact g_vret (T_X3_readPart 34 _ _ _ rfl) rfl (qv_of H)
    · replace H := ite_n cc H
      refine g_aload_n (T_X3_readPart 9 _ _ _ rfl) rfl ?_
      refine g_bipush (T_X3_readPart 10 _ _ _ rfl) (by decide) ?_
      obtain ⟨y2, h1, hq, H⟩ := bd_some H
      refine g_callVi (M' := M_X10_sees) (c := 41) (av := [.inl 38]) (st := []) (T_X3_readPart 11 _ _ _ rfl) ml_X3_71 cb_X10_sees rfl rfl (Nat.le_of_ble_eq_true rfl) (by omega) (R_X10_sees N _ _ _ hq) ?_
      refine g_if_eq (tgt := 68) (T_X3_readPart 12 _ _ _ rfl) (by decide) (fun cc => ?_) (fun cc => ?_)
      · replace H := ite_p cc H
        exact g_vret (T_X3_readPart 34 _ _ _ rfl) rfl (qv_of H)
      · replace H := ite_n cc H
        refine g_aload_n (T_X3_readPart 13 _ _ _ rfl) rfl ?_
        refine g_getR (c := 43) (r := 45) (T_X3_readPart 14 _ _ _ rfl) fl_X3_12 rfl (nR rfl) rfl (by decide) ?_
        obtain ⟨y4, h3, hq, H⟩ := bd_some H
        refine g_callVi (M' := M_X2_length) (c := 44) (av := []) (st := []) (T_X3_readPart 15 _ _ _ rfl) ml_X3_54 cb_X2_length rfl rfl (Nat.le_of_ble_eq_true rfl) (by omega) (R_X2_length N _ _ hq) ?_
        refine g_istore (T_X3_readPart 16 _ _ _ rfl) (by decide) ?_
        refine g_aload_n (T_X3_readPart 17 _ _ _ rfl) rfl ?_
        refine g_getR (c := 43) (r := 45) (T_X3_readPart 18 _ _ _ rfl) fl_X3_12 rfl (nR rfl) rfl (by decide) ?_
        refine g_bipush (T_X3_readPart 19 _ _ _ rfl) (by decide) ?_
        refine g_iconst (T_X3_readPart 20 _ _ _ rfl) ⟨by decide, by decide⟩ ?_
        obtain ⟨h5, hq, H⟩ := bv_some H
        refine g_callVv (M' := M_X2_addSign) (c := 44) (av := [.inl 38, .inl 0]) (st := []) (T_X3_readPart 21 _ _ _ rfl) ml_X3_75 cb_X2_addSign rfl rfl (Nat.le_of_ble_eq_true rfl) (by omega) (R_X2_addSign N _ _ _ _ hq) ?_
        refine g_aload_n (T_X3_readPart 22 _ _ _ rfl) rfl ?_
        obtain ⟨h6, hq, H⟩ := bv_some H
        refine g_callVv (M' := M_X10_step) (c := 41) (av := []) (st := []) (T_X3_readPart 23 _ _ _ rfl) ml_X3_51 cb_X10_step rfl rfl (Nat.le_of_ble_eq_true rfl) (by omega) (R_X10_step N _ _ hq) ?_
        refine g_aload_n (T_X3_readPart 24 _ _ _ rfl) rfl ?_
        refine g_aload_n (T_X3_readPart 25 _ _ _ rfl) rfl ?_
        refine g_iload_n (T_X3_readPart 26 _ _ _ rfl) rfl ?_
        obtain ⟨h7, hq, H⟩ := bv_some H
        refine g_callVv (M' := M_X3_readTest) (c := 43) (av := [.inr 42, .inl x2]) (st := []) (T_X3_readPart 27 _ _ _ rfl) ml_X3_113 cb_X3_readTest rfl rfl (Nat.le_of_ble_eq_true rfl) (by omega) (hrc _ _ _ hq) ?_
        refine g_aload_n (T_X3_readPart 28 _ _ _ rfl) rfl ?_
        refine g_getR (c := 43) (r := 45) (T_X3_readPart 29 _ _ _ rfl) fl_X3_12 rfl (nR rfl) rfl (by decide) ?_
        refine g_iload (T_X3_readPart 30 _ _ _ rfl) rfl ?_
        obtain ⟨h8, hq, H⟩ := bv_some H
        refine g_callVv (M' := M_X2_leadToEnd) (c := 44) (av := [.inl y4]) (st := []) (T_X3_readPart 31 _ _ _ rfl) ml_X3_110 cb_X2_leadToEnd rfl rfl (Nat.le_of_ble_eq_true rfl) (by omega) (R_X2_leadToEnd N _ _ _ hq) ?_
        refine g_iincB (T_X3_readPart 32 _ _ _ rfl) rfl (by decide) H fun y9 H => ?_
        refine g_goto (tgt := 8) (T_X3_readPart 33 _ _ _ rfl) (by decide) ?_
        refine g_weak [true, true, true, true, false] ?_
        exact ih _ _ _ _ H
def F_X3_readPart (N : Nat) (rc : Int → Hp → Option (Hp)) (x2 : Int) (h : Hp) : Option (Hp) :=
  bv (rc x2 h) fun h1 =>
  L_X3_readPart_8 N rc  N x2 0 h1
set_option maxRecDepth 100000 in
set_option maxHeartbeats 4000000 in
theorem R_X3_readPart (N : Nat) (rc : Int → Hp → Option (Hp)) (dr : Nat) (hrc : ∀ (a0 : Int) (h : Hp) (res : Hp), rc a0 h = some res → Runs M_X3_readTest dr [.inr 44, .inr 42, .inl a0] h (Qv res)) (x2 : Int) (h : Hp) (res : Hp) (H : F_X3_readPart N rc x2 h = some res) : Runs M_X3_readPart (dr + 3) [.inr 44, .inr 42, .inl x2] h (Qv res) := by
  refine Runs.of rfl (Nat.le_of_ble_eq_true rfl) ?_
  show Go M_X3_readPart (dr + 3) 0 [some (.inr 44), some (.inr 42), some (.inl x2), none, none] [] h (Qv res)
  unfold F_X3_readPart at H
  refine g_aload_n (T_X3_readPart 0 _ _ _ rfl) rfl ?_
  refine g_aload_n (T_X3_readPart 1 _ _ _ rfl) rfl ?_
  refine g_iload_n (T_X3_readPart 2 _ _ _ rfl) rfl ?_
  obtain ⟨h1, hq, H⟩ := bv_some H
  refine g_callVv (M' := M_X3_readTest) (c := 43) (av := [.inr 42, .inl x2]) (st := []) (T_X3_readPart 3 _ _ _ rfl) ml_X3_113 cb_X3_readTest rfl rfl (Nat.le_of_ble_eq_true rfl) (by omega) (hrc _ _ _ hq) ?_
  refine g_iconst (T_X3_readPart 4 _ _ _ rfl) ⟨by decide, by decide⟩ ?_
  refine g_istore_n (T_X3_readPart 5 _ _ _ rfl) (by decide) ?_
  refine g_weak [true, true, true, true, false] ?_
  refine R_L_X3_readPart_8 N rc  dr hrc  _ _ _ _ _ H
def L_X3_readChoice_8 (N : Nat) (rc : Int → Hp → Option (Hp)) : Nat → Int → Int → Hp → Option (Hp)
  | 0, _, _, _ => none
  | n + 1, x2, x3, h =>
    if 240 ≤ x3 then
      some h
    else
    bd (F_X10_sees N 124 h) fun y2 h1 =>
    if y2 = 0 then
      some h1
    else
    bd (F_X2_length N h1) fun y4 h3 =>
    bv (F_X2_addSign N 124 0 h3) fun h5 =>
    bv (F_X10_step N h5) fun h6 =>
    bv (F_X3_readPart N rc x2 h6) fun h7 =>
    bv (F_X2_leadToEnd N y4 h7) fun h8 =>
    bnd (w32 (x3 + 1)) fun y9 =>
    (L_X3_readChoice_8 N rc n) x2 y9 h8
set_option maxRecDepth 100000 in
set_option maxHeartbeats 4000000 in
theorem R_L_X3_readChoice_8 (N : Nat) (rc : Int → Hp → Option (Hp)) (dr : Nat) (hrc : ∀ (a0 : Int) (h : Hp) (res : Hp), rc a0 h = some res → Runs M_X3_readTest dr [.inr 44, .inr 42, .inl a0] h (Qv res)) : ∀ (n : Nat) (x2 : Int) (x3 : Int) (h : Hp) (res : Hp), L_X3_readChoice_8 N rc n x2 x3 h = some res → Go M_X3_readChoice (dr + 4) 8 [some (.inr 44), some (.inr 42), some (.inl x2), some (.inl x3), none] [] h (Qv res)
  | 0, _, _, _, _, H => by cases H
  | n + 1, x2, x3, h, res, H => by
    have ih := R_L_X3_readChoice_8 N rc dr hrc n
    simp only [L_X3_readChoice_8] at H
    refine g_iload_n (T_X3_readChoice 6 _ _ _ rfl) rfl ?_
    refine g_sipush (T_X3_readChoice 7 _ _ _ rfl) (by decide) ?_
    refine g_icmp_ge (tgt := 68) (T_X3_readChoice 8 _ _ _ rfl) (by decide) (fun cc => ?_) (fun cc => ?_)
    · replace H := ite_p cc H
      exact g_vret (T_X3_readChoice 34 _ _ _ rfl) rfl (qv_of H)
    · replace H := ite_n cc H
      refine g_aload_n (T_X3_readChoice 9 _ _ _ rfl) rfl ?_
      refine g_bipush (T_X3_readChoice 10 _ _ _ rfl) (by decide) ?_
      obtain ⟨y2, h1, hq, H⟩ := bd_some H
      refine g_callVi (M' := M_X10_sees) (c := 41) (av := [.inl 124]) (st := []) (T_X3_readChoice 11 _ _ _ rfl) ml_X3_71 cb_X10_sees rfl rfl (Nat.le_of_ble_eq_true rfl) (by omega) (R_X10_sees N _ _ _ hq) ?_
      refine g_if_eq (tgt := 68) (T_X3_readChoice 12 _ _ _ rfl) (by decide) (fun cc => ?_) (fun cc => ?_)
      · replace H := ite_p cc H
        exact g_vret (T_X3_readChoice 34 _ _ _ rfl) rfl (qv_of H)
      · replace H := ite_n cc H
        refine g_aload_n (T_X3_readChoice 13 _ _ _ rfl) rfl ?_
        refine g_getR (c := 43) (r := 45) (T_X3_readChoice 14 _ _ _ rfl) fl_X3_12 rfl (nR rfl) rfl (by decide) ?_
        obtain ⟨y4, h3, hq, H⟩ := bd_some H
        refine g_callVi (M' := M_X2_length) (c := 44) (av := []) (st := []) (T_X3_readChoice 15 _ _ _ rfl) ml_X3_54 cb_X2_length rfl rfl (Nat.le_of_ble_eq_true rfl) (by omega) (R_X2_length N _ _ hq) ?_
        refine g_istore (T_X3_readChoice 16 _ _ _ rfl) (by decide) ?_
        refine g_aload_n (T_X3_readChoice 17 _ _ _ rfl) rfl ?_
        refine g_getR (c := 43) (r := 45) (T_X3_readChoice 18 _ _ _ rfl) fl_X3_12 rfl (nR rfl) rfl (by decide) ?_
        refine g_bipush (T_X3_readChoice 19 _ _ _ rfl) (by decide) ?_
        refine g_iconst (T_X3_readChoice 20 _ _ _ rfl) ⟨by decide, by decide⟩ ?_
        obtain ⟨h5, hq, H⟩ := bv_some H
        refine g_callVv (M' := M_X2_addSign) (c := 44) (av := [.inl 124, .inl 0]) (st := []) (T_X3_readChoice 21 _ _ _ rfl) ml_X3_75 cb_X2_addSign rfl rfl (Nat.le_of_ble_eq_true rfl) (by omega) (R_X2_addSign N _ _ _ _ hq) ?_
        refine g_aload_n (T_X3_readChoice 22 _ _ _ rfl) rfl ?_
        obtain ⟨h6, hq, H⟩ := bv_some H
        refine g_callVv (M' := M_X10_step) (c := 41) (av := []) (st := []) (T_X3_readChoice 23 _ _ _ rfl) ml_X3_51 cb_X10_step rfl rfl (Nat.le_of_ble_eq_true rfl) (by omega) (R_X10_step N _ _ hq) ?_
        refine g_aload_n (T_X3_readChoice 24 _ _ _ rfl) rfl ?_
        refine g_aload_n (T_X3_readChoice 25 _ _ _ rfl) rfl ?_
        refine g_iload_n (T_X3_readChoice 26 _ _ _ rfl) rfl ?_
        obtain ⟨h7, hq, H⟩ := bv_some H
        refine g_callVv (M' := M_X3_readPart) (c := 43) (av := [.inr 42, .inl x2]) (st := []) (T_X3_readChoice 27 _ _ _ rfl) ml_X3_107 cb_X3_readPart rfl rfl (Nat.le_of_ble_eq_true rfl) (by omega) (R_X3_readPart N rc dr hrc _ _ _ hq) ?_
        refine g_aload_n (T_X3_readChoice 28 _ _ _ rfl) rfl ?_
        refine g_getR (c := 43) (r := 45) (T_X3_readChoice 29 _ _ _ rfl) fl_X3_12 rfl (nR rfl) rfl (by decide) ?_
        refine g_iload (T_X3_readChoice 30 _ _ _ rfl) rfl ?_
        obtain ⟨h8, hq, H⟩ := bv_some H
        refine g_callVv (M' := M_X2_leadToEnd) (c := 44) (av := [.inl y4]) (st := []) (T_X3_readChoice 31 _ _ _ rfl) ml_X3_110 cb_X2_leadToEnd rfl rfl (Nat.le_of_ble_eq_true rfl) (by omega) (R_X2_leadToEnd N _ _ _ hq) ?_
        refine g_iincB (T_X3_readChoice 32 _ _ _ rfl) rfl (by decide) H fun y9 H => ?_
        refine g_goto (tgt := 8) (T_X3_readChoice 33 _ _ _ rfl) (by decide) ?_
        refine g_weak [true, true, true, true, false] ?_
        exact ih _ _ _ _ H
def F_X3_readChoice (N : Nat) (rc : Int → Hp → Option (Hp)) (x2 : Int) (h : Hp) : Option (Hp) :=
  bv (F_X3_readPart N rc x2 h) fun h1 =>
  L_X3_readChoice_8 N rc  N x2 0 h1
set_option maxRecDepth 100000 in
set_option maxHeartbeats 4000000 in
theorem R_X3_readChoice (N : Nat) (rc : Int → Hp → Option (Hp)) (dr : Nat) (hrc : ∀ (a0 : Int) (h : Hp) (res : Hp), rc a0 h = some res → Runs M_X3_readTest dr [.inr 44, .inr 42, .inl a0] h (Qv res)) (x2 : Int) (h : Hp) (res : Hp) (H : F_X3_readChoice N rc x2 h = some res) : Runs M_X3_readChoice (dr + 4) [.inr 44, .inr 42, .inl x2] h (Qv res) := by
  refine Runs.of rfl (Nat.le_of_ble_eq_true rfl) ?_
  show Go M_X3_readChoice (dr + 4) 0 [some (.inr 44), some (.inr 42), some (.inl x2), none, none] [] h (Qv res)
  unfold F_X3_readChoice at H
  refine g_aload_n (T_X3_readChoice 0 _ _ _ rfl) rfl ?_
  refine g_aload_n (T_X3_readChoice 1 _ _ _ rfl) rfl ?_
  refine g_iload_n (T_X3_readChoice 2 _ _ _ rfl) rfl ?_
  obtain ⟨h1, hq, H⟩ := bv_some H
  refine g_callVv (M' := M_X3_readPart) (c := 43) (av := [.inr 42, .inl x2]) (st := []) (T_X3_readChoice 3 _ _ _ rfl) ml_X3_107 cb_X3_readPart rfl rfl (Nat.le_of_ble_eq_true rfl) (by omega) (R_X3_readPart N rc dr hrc _ _ _ hq) ?_
  refine g_iconst (T_X3_readChoice 4 _ _ _ rfl) ⟨by decide, by decide⟩ ?_
  refine g_istore_n (T_X3_readChoice 5 _ _ _ rfl) (by decide) ?_
  refine g_weak [true, true, true, true, false] ?_
  refine R_L_X3_readChoice_8 N rc  dr hrc  _ _ _ _ _ H
def J_X3_readComparison_39 (N : Nat) (x2 : Int) (h : Hp) : Option (Hp) :=
  bd (F_X10_sign N h) fun y2 h1 =>
  bv (F_X10_step N h1) fun h3 =>
  bv (F_X3_readSum N 8 x2 h3) fun h4 =>
  bv (F_X2_addSign N y2 0 h4) fun h5 =>
  some h5
set_option maxRecDepth 100000 in
set_option maxHeartbeats 4000000 in
theorem R_J_X3_readComparison_39 (N : Nat) (x2 : Int) (h : Hp) (res : Hp) (H : J_X3_readComparison_39 N x2 h = some res) : Go M_X3_readComparison 90 39 [some (.inr 44), some (.inr 42), some (.inl x2), none] [] h (Qv res) := by
  unfold J_X3_readComparison_39 at H
  refine g_aload_n (T_X3_readComparison 20 _ _ _ rfl) rfl ?_
  obtain ⟨y2, h1, hq, H⟩ := bd_some H
  refine g_callVi (M' := M_X10_sign) (c := 41) (av := []) (st := []) (T_X3_readComparison 21 _ _ _ rfl) ml_X3_45 cb_X10_sign rfl rfl (Nat.le_of_ble_eq_true rfl) (by omega) (R_X10_sign N _ _ hq) ?_
  refine g_istore_n (T_X3_readComparison 22 _ _ _ rfl) (by decide) ?_
  refine g_aload_n (T_X3_readComparison 23 _ _ _ rfl) rfl ?_
  obtain ⟨h3, hq, H⟩ := bv_some H
  refine g_callVv (M' := M_X10_step) (c := 41) (av := []) (st := []) (T_X3_readComparison 24 _ _ _ rfl) ml_X3_51 cb_X10_step rfl rfl (Nat.le_of_ble_eq_true rfl) (by omega) (R_X10_step N _ _ hq) ?_
  refine g_aload_n (T_X3_readComparison 25 _ _ _ rfl) rfl ?_
  refine g_aload_n (T_X3_readComparison 26 _ _ _ rfl) rfl ?_
  refine g_iload_n (T_X3_readComparison 27 _ _ _ rfl) rfl ?_
  obtain ⟨h4, hq, H⟩ := bv_some H
  refine g_callVv (M' := M_X3_readSum) (c := 43) (av := [.inr 42, .inl x2]) (st := []) (T_X3_readComparison 28 _ _ _ rfl) ml_X3_57 cb_X3_readSum rfl rfl (Nat.le_of_ble_eq_true rfl) (by omega) (R_X3_readSum N  8 _ _ _ hq) ?_
  refine g_aload_n (T_X3_readComparison 29 _ _ _ rfl) rfl ?_
  refine g_getR (c := 43) (r := 45) (T_X3_readComparison 30 _ _ _ rfl) fl_X3_12 rfl (nR rfl) rfl (by decide) ?_
  refine g_iload_n (T_X3_readComparison 31 _ _ _ rfl) rfl ?_
  refine g_iconst (T_X3_readComparison 32 _ _ _ rfl) ⟨by decide, by decide⟩ ?_
  obtain ⟨h5, hq, H⟩ := bv_some H
  refine g_callVv (M' := M_X2_addSign) (c := 44) (av := [.inl y2, .inl 0]) (st := []) (T_X3_readComparison 33 _ _ _ rfl) ml_X3_75 cb_X2_addSign rfl rfl (Nat.le_of_ble_eq_true rfl) (by omega) (R_X2_addSign N _ _ _ _ hq) ?_
  exact g_vret (T_X3_readComparison 34 _ _ _ rfl) rfl (qv_of H)
def F_X3_readComparison (N : Nat) (x2 : Int) (h : Hp) : Option (Hp) :=
  bv (F_X3_readSum N 8 x2 h) fun h1 =>
  bd (F_X10_sees N 60 h1) fun y3 h2 =>
  if y3 = 0 then
    bd (F_X10_sees N 62 h2) fun y5 h4 =>
    if y5 = 0 then
      bd (F_X10_sees N 61 h4) fun y7 h6 =>
      if y7 = 0 then
        bv (F_X10_fail N 1 h6) fun h8 =>
        some h8
      else
      J_X3_readComparison_39 N  x2 h6
    else
    J_X3_readComparison_39 N  x2 h4
  else
  J_X3_readComparison_39 N  x2 h2
set_option maxRecDepth 100000 in
set_option maxHeartbeats 4000000 in
theorem R_X3_readComparison (N : Nat) (x2 : Int) (h : Hp) (res : Hp) (H : F_X3_readComparison N x2 h = some res) : Runs M_X3_readComparison 90 [.inr 44, .inr 42, .inl x2] h (Qv res) := by
  refine Runs.of rfl (Nat.le_of_ble_eq_true rfl) ?_
  show Go M_X3_readComparison 90 0 [some (.inr 44), some (.inr 42), some (.inl x2), none] [] h (Qv res)
  unfold F_X3_readComparison at H
  refine g_aload_n (T_X3_readComparison 0 _ _ _ rfl) rfl ?_
  refine g_aload_n (T_X3_readComparison 1 _ _ _ rfl) rfl ?_
  refine g_iload_n (T_X3_readComparison 2 _ _ _ rfl) rfl ?_
  obtain ⟨h1, hq, H⟩ := bv_some H
  refine g_callVv (M' := M_X3_readSum) (c := 43) (av := [.inr 42, .inl x2]) (st := []) (T_X3_readComparison 3 _ _ _ rfl) ml_X3_57 cb_X3_readSum rfl rfl (Nat.le_of_ble_eq_true rfl) (by omega) (R_X3_readSum N  8 _ _ _ hq) ?_
  refine g_aload_n (T_X3_readComparison 4 _ _ _ rfl) rfl ?_
  refine g_bipush (T_X3_readComparison 5 _ _ _ rfl) (by decide) ?_
  obtain ⟨y3, h2, hq, H⟩ := bd_some H
  refine g_callVi (M' := M_X10_sees) (c := 41) (av := [.inl 60]) (st := []) (T_X3_readComparison 6 _ _ _ rfl) ml_X3_71 cb_X10_sees rfl rfl (Nat.le_of_ble_eq_true rfl) (by omega) (R_X10_sees N _ _ _ hq) ?_
  refine g_if_ne (tgt := 39) (T_X3_readComparison 7 _ _ _ rfl) (by decide) (fun cc => ?_) (fun cc => ?_)
  · replace H := ite_n cc H
    refine g_weak [true, true, true, false] ?_
    exact R_J_X3_readComparison_39 N   _ _ _ H
  · replace H := ite_p cc H
    refine g_aload_n (T_X3_readComparison 8 _ _ _ rfl) rfl ?_
    refine g_bipush (T_X3_readComparison 9 _ _ _ rfl) (by decide) ?_
    obtain ⟨y5, h4, hq, H⟩ := bd_some H
    refine g_callVi (M' := M_X10_sees) (c := 41) (av := [.inl 62]) (st := []) (T_X3_readComparison 10 _ _ _ rfl) ml_X3_71 cb_X10_sees rfl rfl (Nat.le_of_ble_eq_true rfl) (by omega) (R_X10_sees N _ _ _ hq) ?_
    refine g_if_ne (tgt := 39) (T_X3_readComparison 11 _ _ _ rfl) (by decide) (fun cc => ?_) (fun cc => ?_)
    · replace H := ite_n cc H
      refine g_weak [true, true, true, false] ?_
      exact R_J_X3_readComparison_39 N   _ _ _ H
    · replace H := ite_p cc H
      refine g_aload_n (T_X3_readComparison 12 _ _ _ rfl) rfl ?_
      refine g_bipush (T_X3_readComparison 13 _ _ _ rfl) (by decide) ?_
      obtain ⟨y7, h6, hq, H⟩ := bd_some H
      refine g_callVi (M' := M_X10_sees) (c := 41) (av := [.inl 61]) (st := []) (T_X3_readComparison 14 _ _ _ rfl) ml_X3_71 cb_X10_sees rfl rfl (Nat.le_of_ble_eq_true rfl) (by omega) (R_X10_sees N _ _ _ hq) ?_
      refine g_if_ne (tgt := 39) (T_X3_readComparison 15 _ _ _ rfl) (by decide) (fun cc => ?_) (fun cc => ?_)
      · replace H := ite_n cc H
        refine g_weak [true, true, true, false] ?_
        exact R_J_X3_readComparison_39 N   _ _ _ H
      · replace H := ite_p cc H
        refine g_aload_n (T_X3_readComparison 16 _ _ _ rfl) rfl ?_
        refine g_iconst (T_X3_readComparison 17 _ _ _ rfl) ⟨by decide, by decide⟩ ?_
        obtain ⟨h8, hq, H⟩ := bv_some H
        refine g_callVv (M' := M_X10_fail) (c := 41) (av := [.inl 1]) (st := []) (T_X3_readComparison 18 _ _ _ rfl) ml_X3_48 cb_X10_fail rfl rfl (Nat.le_of_ble_eq_true rfl) (by omega) (R_X10_fail N _ _ _ hq) ?_
        exact g_vret (T_X3_readComparison 19 _ _ _ rfl) rfl (qv_of H)
def F_X3_readNegation (N : Nat) (rc : Int → Hp → Option (Hp)) (x2 : Int) (h : Hp) : Option (Hp) :=
  bd (F_X3_opens N x2 h) fun y2 h1 =>
  if y2 = 0 then
    some h1
  else
  bv (rc (w32 (x2 + 1)) h1) fun h3 =>
  bv (F_X2_addSign N 33 0 h3) fun h4 =>
  some h4
set_option maxRecDepth 100000 in
set_option maxHeartbeats 4000000 in
theorem R_X3_readNegation (N : Nat) (rc : Int → Hp → Option (Hp)) (dr : Nat) (hrc : ∀ (a0 : Int) (h : Hp) (res : Hp), rc a0 h = some res → Runs M_X3_readTest dr [.inr 44, .inr 42, .inl a0] h (Qv res)) (x2 : Int) (h : Hp) (res : Hp) (H : F_X3_readNegation N rc x2 h = some res) : Runs M_X3_readNegation (dr + 3) [.inr 44, .inr 42, .inl x2] h (Qv res) := by
  refine Runs.of rfl (Nat.le_of_ble_eq_true rfl) ?_
  show Go M_X3_readNegation (dr + 3) 0 [some (.inr 44), some (.inr 42), some (.inl x2)] [] h (Qv res)
  unfold F_X3_readNegation at H
  refine g_aload_n (T_X3_readNegation 0 _ _ _ rfl) rfl ?_
  refine g_aload_n (T_X3_readNegation 1 _ _ _ rfl) rfl ?_
  refine g_iload_n (T_X3_readNegation 2 _ _ _ rfl) rfl ?_
  obtain ⟨y2, h1, hq, H⟩ := bd_some H
  refine g_callVi (M' := M_X3_opens) (c := 43) (av := [.inr 42, .inl x2]) (st := []) (T_X3_readNegation 3 _ _ _ rfl) ml_X3_86 cb_X3_opens rfl rfl (Nat.le_of_ble_eq_true rfl) (by omega) (R_X3_opens N _ _ _ hq) ?_
  refine g_if_eq (tgt := 27) (T_X3_readNegation 4 _ _ _ rfl) (by decide) (fun cc => ?_) (fun cc => ?_)
  · replace H := ite_p cc H
    exact g_vret (T_X3_readNegation 16 _ _ _ rfl) rfl (qv_of H)
  · replace H := ite_n cc H
    refine g_aload_n (T_X3_readNegation 5 _ _ _ rfl) rfl ?_
    refine g_aload_n (T_X3_readNegation 6 _ _ _ rfl) rfl ?_
    refine g_iload_n (T_X3_readNegation 7 _ _ _ rfl) rfl ?_
    refine g_iconst (T_X3_readNegation 8 _ _ _ rfl) ⟨by decide, by decide⟩ ?_
    refine g_iadd (T_X3_readNegation 9 _ _ _ rfl) ?_
    obtain ⟨h3, hq, H⟩ := bv_some H
    refine g_callVv (M' := M_X3_readTest) (c := 43) (av := [.inr 42, .inl (w32 (x2 + 1))]) (st := []) (T_X3_readNegation 10 _ _ _ rfl) ml_X3_113 cb_X3_readTest rfl rfl (Nat.le_of_ble_eq_true rfl) (by omega) (hrc _ _ _ hq) ?_
    refine g_aload_n (T_X3_readNegation 11 _ _ _ rfl) rfl ?_
    refine g_getR (c := 43) (r := 45) (T_X3_readNegation 12 _ _ _ rfl) fl_X3_12 rfl (nR rfl) rfl (by decide) ?_
    refine g_bipush (T_X3_readNegation 13 _ _ _ rfl) (by decide) ?_
    refine g_iconst (T_X3_readNegation 14 _ _ _ rfl) ⟨by decide, by decide⟩ ?_
    obtain ⟨h4, hq, H⟩ := bv_some H
    refine g_callVv (M' := M_X2_addSign) (c := 44) (av := [.inl 33, .inl 0]) (st := []) (T_X3_readNegation 15 _ _ _ rfl) ml_X3_75 cb_X2_addSign rfl rfl (Nat.le_of_ble_eq_true rfl) (by omega) (R_X2_addSign N _ _ _ _ hq) ?_
    exact g_vret (T_X3_readNegation 16 _ _ _ rfl) rfl (qv_of H)
end
