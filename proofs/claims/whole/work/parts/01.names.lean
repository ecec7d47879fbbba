-- ===== PART A: goes FIRST, ahead of the names: the tables' words, and 'selects' of the private methods out of them =====
/-- a private method of a class that the tables say can be made, by its rows of tables_1 -/
def lw_okq (q : MethodName × Nat) : Prop := (q.1.cls ≠ "java/lang/invoke/MethodHandle" ∧ q.1.cls ≠ "java/lang/invoke/VarHandle") ∧ Cond.instantiable q.1.cls q.2 ∈ tables_1 ∧ Cond.privateMethod q.1 ∈ tables_1 ∧ Cond.instanceMethod q.1 ∈ tables_1
theorem lw_p0 : lw_okq (⟨"java/util/ArrayList", "add", "(Ljava/lang/Object;[Ljava/lang/Object;I)V"⟩, 3) := ⟨⟨by decide +kernel, by decide +kernel⟩, List.mem_of_getElem? (i := 36) (by decide +kernel), List.mem_of_getElem? (i := 286) (by decide +kernel), List.mem_of_getElem? (i := 287) (by decide +kernel)⟩
theorem lw_p1 : lw_okq (⟨"java/util/ArrayList", "grow", "()[Ljava/lang/Object;"⟩, 3) := ⟨⟨by decide +kernel, by decide +kernel⟩, List.mem_of_getElem? (i := 36) (by decide +kernel), List.mem_of_getElem? (i := 290) (by decide +kernel), List.mem_of_getElem? (i := 291) (by decide +kernel)⟩
theorem lw_p2 : lw_okq (⟨"java/util/ArrayList", "grow", "(I)[Ljava/lang/Object;"⟩, 3) := ⟨⟨by decide +kernel, by decide +kernel⟩, List.mem_of_getElem? (i := 36) (by decide +kernel), List.mem_of_getElem? (i := 294) (by decide +kernel), List.mem_of_getElem? (i := 295) (by decide +kernel)⟩
theorem lw_p3 : lw_okq (⟨"SleepOffice", "firmAt", "(I)LSleepOffice$Firm;"⟩, 16) := ⟨⟨by decide +kernel, by decide +kernel⟩, List.mem_of_getElem? (i := 28) (by decide +kernel), List.mem_of_getElem? (i := 345) (by decide +kernel), List.mem_of_getElem? (i := 346) (by decide +kernel)⟩
theorem lw_p4 : lw_okq (⟨"SleepOffice", "isPast", "(I)Z"⟩, 16) := ⟨⟨by decide +kernel, by decide +kernel⟩, List.mem_of_getElem? (i := 28) (by decide +kernel), List.mem_of_getElem? (i := 363) (by decide +kernel), List.mem_of_getElem? (i := 364) (by decide +kernel)⟩
theorem lw_p5 : lw_okq (⟨"SleepOffice", "tookOneSince", "(LSleepOffice$Firm;I)Z"⟩, 16) := ⟨⟨by decide +kernel, by decide +kernel⟩, List.mem_of_getElem? (i := 28) (by decide +kernel), List.mem_of_getElem? (i := 371) (by decide +kernel), List.mem_of_getElem? (i := 372) (by decide +kernel)⟩
theorem lw_p6 : lw_okq (⟨"SleepOffice", "personAt", "(I)LSleepOffice$Person;"⟩, 16) := ⟨⟨by decide +kernel, by decide +kernel⟩, List.mem_of_getElem? (i := 28) (by decide +kernel), List.mem_of_getElem? (i := 386) (by decide +kernel), List.mem_of_getElem? (i := 387) (by decide +kernel)⟩
theorem lw_p7 : lw_okq (⟨"SleepOffice", "countLines", "()V"⟩, 16) := ⟨⟨by decide +kernel, by decide +kernel⟩, List.mem_of_getElem? (i := 28) (by decide +kernel), List.mem_of_getElem? (i := 430) (by decide +kernel), List.mem_of_getElem? (i := 431) (by decide +kernel)⟩
theorem lw_p8 : lw_okq (⟨"SleepOffice", "accountAt", "(I)LSleepOffice$Account;"⟩, 16) := ⟨⟨by decide +kernel, by decide +kernel⟩, List.mem_of_getElem? (i := 28) (by decide +kernel), List.mem_of_getElem? (i := 506) (by decide +kernel), List.mem_of_getElem? (i := 507) (by decide +kernel)⟩
theorem lw_p9 : lw_okq (⟨"SleepOffice", "takesEntry", "(LSleepOffice$Account;I)Z"⟩, 16) := ⟨⟨by decide +kernel, by decide +kernel⟩, List.mem_of_getElem? (i := 28) (by decide +kernel), List.mem_of_getElem? (i := 510) (by decide +kernel), List.mem_of_getElem? (i := 511) (by decide +kernel)⟩
theorem lw_p10 : lw_okq (⟨"java/util/ArrayList", "rangeCheckForAdd", "(I)V"⟩, 3) := ⟨⟨by decide +kernel, by decide +kernel⟩, List.mem_of_getElem? (i := 36) (by decide +kernel), List.mem_of_getElem? (i := 559) (by decide +kernel), List.mem_of_getElem? (i := 560) (by decide +kernel)⟩
theorem lw_p11 : lw_okq (⟨"SleepOffice", "putBytes", "(I)V"⟩, 16) := ⟨⟨by decide +kernel, by decide +kernel⟩, List.mem_of_getElem? (i := 28) (by decide +kernel), List.mem_of_getElem? (i := 595) (by decide +kernel), List.mem_of_getElem? (i := 596) (by decide +kernel)⟩
theorem lw_p12 : lw_okq (⟨"SleepOffice$LawReader", "advance", "()V"⟩, 9) := ⟨⟨by decide +kernel, by decide +kernel⟩, List.mem_of_getElem? (i := 607) (by decide +kernel), List.mem_of_getElem? (i := 769) (by decide +kernel), List.mem_of_getElem? (i := 770) (by decide +kernel)⟩
theorem lw_p13 : lw_okq (⟨"SleepOffice$LawReader", "refuse", "(I)V"⟩, 9) := ⟨⟨by decide +kernel, by decide +kernel⟩, List.mem_of_getElem? (i := 607) (by decide +kernel), List.mem_of_getElem? (i := 775) (by decide +kernel), List.mem_of_getElem? (i := 776) (by decide +kernel)⟩
theorem lw_p14 : lw_okq (⟨"SleepOffice$LawReader", "readTerms", "()V"⟩, 9) := ⟨⟨by decide +kernel, by decide +kernel⟩, List.mem_of_getElem? (i := 607) (by decide +kernel), List.mem_of_getElem? (i := 779) (by decide +kernel), List.mem_of_getElem? (i := 780) (by decide +kernel)⟩
theorem lw_p15 : lw_okq (⟨"SleepOffice$LawReader", "readUnit", "()V"⟩, 9) := ⟨⟨by decide +kernel, by decide +kernel⟩, List.mem_of_getElem? (i := 607) (by decide +kernel), List.mem_of_getElem? (i := 783) (by decide +kernel), List.mem_of_getElem? (i := 784) (by decide +kernel)⟩
def lw_privs_1 : List (MethodName × Nat) := [(⟨"java/util/ArrayList", "add", "(Ljava/lang/Object;[Ljava/lang/Object;I)V"⟩, 3), (⟨"java/util/ArrayList", "grow", "()[Ljava/lang/Object;"⟩, 3), (⟨"java/util/ArrayList", "grow", "(I)[Ljava/lang/Object;"⟩, 3), (⟨"SleepOffice", "firmAt", "(I)LSleepOffice$Firm;"⟩, 16), (⟨"SleepOffice", "isPast", "(I)Z"⟩, 16), (⟨"SleepOffice", "tookOneSince", "(LSleepOffice$Firm;I)Z"⟩, 16), (⟨"SleepOffice", "personAt", "(I)LSleepOffice$Person;"⟩, 16), (⟨"SleepOffice", "countLines", "()V"⟩, 16), (⟨"SleepOffice", "accountAt", "(I)LSleepOffice$Account;"⟩, 16), (⟨"SleepOffice", "takesEntry", "(LSleepOffice$Account;I)Z"⟩, 16), (⟨"java/util/ArrayList", "rangeCheckForAdd", "(I)V"⟩, 3), (⟨"SleepOffice", "putBytes", "(I)V"⟩, 16), (⟨"SleepOffice$LawReader", "advance", "()V"⟩, 9), (⟨"SleepOffice$LawReader", "refuse", "(I)V"⟩, 9), (⟨"SleepOffice$LawReader", "readTerms", "()V"⟩, 9), (⟨"SleepOffice$LawReader", "readUnit", "()V"⟩, 9)]
theorem lw_r1 : ∀ q ∈ lw_privs_1, lw_okq q := List.forall_mem_cons.mpr ⟨lw_p0, List.forall_mem_cons.mpr ⟨lw_p1, List.forall_mem_cons.mpr ⟨lw_p2, List.forall_mem_cons.mpr ⟨lw_p3, List.forall_mem_cons.mpr ⟨lw_p4, List.forall_mem_cons.mpr ⟨lw_p5, List.forall_mem_cons.mpr ⟨lw_p6, List.forall_mem_cons.mpr ⟨lw_p7, List.forall_mem_cons.mpr ⟨lw_p8, List.forall_mem_cons.mpr ⟨lw_p9, List.forall_mem_cons.mpr ⟨lw_p10, List.forall_mem_cons.mpr ⟨lw_p11, List.forall_mem_cons.mpr ⟨lw_p12, List.forall_mem_cons.mpr ⟨lw_p13, List.forall_mem_cons.mpr ⟨lw_p14, List.forall_mem_cons.mpr ⟨lw_p15, fun _ h => absurd h List.not_mem_nil⟩⟩⟩⟩⟩⟩⟩⟩⟩⟩⟩⟩⟩⟩⟩⟩
theorem lw_p16 : lw_okq (⟨"SleepOffice$LawReader", "opens", "()Z"⟩, 9) := ⟨⟨by decide +kernel, by decide +kernel⟩, List.mem_of_getElem? (i := 607) (by decide +kernel), List.mem_of_getElem? (i := 792) (by decide +kernel), List.mem_of_getElem? (i := 793) (by decide +kernel)⟩
theorem lw_p17 : lw_okq (⟨"SleepOffice$LawReader", "takeNumber", "(II)I"⟩, 9) := ⟨⟨by decide +kernel, by decide +kernel⟩, List.mem_of_getElem? (i := 607) (by decide +kernel), List.mem_of_getElem? (i := 797) (by decide +kernel), List.mem_of_getElem? (i := 798) (by decide +kernel)⟩
theorem lw_p18 : lw_okq (⟨"SleepOffice$LawReader", "readCondition", "()V"⟩, 9) := ⟨⟨by decide +kernel, by decide +kernel⟩, List.mem_of_getElem? (i := 607) (by decide +kernel), List.mem_of_getElem? (i := 801) (by decide +kernel), List.mem_of_getElem? (i := 802) (by decide +kernel)⟩
theorem lw_p19 : lw_okq (⟨"SleepOffice$LawReader", "readTest", "()V"⟩, 9) := ⟨⟨by decide +kernel, by decide +kernel⟩, List.mem_of_getElem? (i := 607) (by decide +kernel), List.mem_of_getElem? (i := 805) (by decide +kernel), List.mem_of_getElem? (i := 806) (by decide +kernel)⟩
theorem lw_p20 : lw_okq (⟨"SleepOffice$LawReader", "readNumbers", "(I)V"⟩, 9) := ⟨⟨by decide +kernel, by decide +kernel⟩, List.mem_of_getElem? (i := 607) (by decide +kernel), List.mem_of_getElem? (i := 809) (by decide +kernel), List.mem_of_getElem? (i := 810) (by decide +kernel)⟩
theorem lw_p21 : lw_okq (⟨"SleepOffice$LawReader", "closeLine", "()V"⟩, 9) := ⟨⟨by decide +kernel, by decide +kernel⟩, List.mem_of_getElem? (i := 607) (by decide +kernel), List.mem_of_getElem? (i := 817) (by decide +kernel), List.mem_of_getElem? (i := 818) (by decide +kernel)⟩
theorem lw_p22 : lw_okq (⟨"SleepOffice", "lawOf", "(I)LSleepOffice$Law;"⟩, 16) := ⟨⟨by decide +kernel, by decide +kernel⟩, List.mem_of_getElem? (i := 28) (by decide +kernel), List.mem_of_getElem? (i := 829) (by decide +kernel), List.mem_of_getElem? (i := 830) (by decide +kernel)⟩
theorem lw_p23 : lw_okq (⟨"SleepOffice", "sleepDay", "(LSleepOffice$Account;I)I"⟩, 16) := ⟨⟨by decide +kernel, by decide +kernel⟩, List.mem_of_getElem? (i := 28) (by decide +kernel), List.mem_of_getElem? (i := 849) (by decide +kernel), List.mem_of_getElem? (i := 850) (by decide +kernel)⟩
theorem lw_p24 : lw_okq (⟨"SleepOffice", "hold", "(LSleepOffice$Account;)V"⟩, 16) := ⟨⟨by decide +kernel, by decide +kernel⟩, List.mem_of_getElem? (i := 28) (by decide +kernel), List.mem_of_getElem? (i := 866) (by decide +kernel), List.mem_of_getElem? (i := 867) (by decide +kernel)⟩
theorem lw_p25 : lw_okq (⟨"SleepOffice", "interestOf", "(LSleepOffice$Account;)J"⟩, 16) := ⟨⟨by decide +kernel, by decide +kernel⟩, List.mem_of_getElem? (i := 28) (by decide +kernel), List.mem_of_getElem? (i := 874) (by decide +kernel), List.mem_of_getElem? (i := 875) (by decide +kernel)⟩
theorem lw_p26 : lw_okq (⟨"SleepOffice", "paidOf", "(LSleepOffice$Account;)J"⟩, 16) := ⟨⟨by decide +kernel, by decide +kernel⟩, List.mem_of_getElem? (i := 28) (by decide +kernel), List.mem_of_getElem? (i := 880) (by decide +kernel), List.mem_of_getElem? (i := 881) (by decide +kernel)⟩
theorem lw_p27 : lw_okq (⟨"SleepOffice$Person", "diedAheadOf", "(LSleepOffice$Person;)Z"⟩, 8) := ⟨⟨by decide +kernel, by decide +kernel⟩, List.mem_of_getElem? (i := 393) (by decide +kernel), List.mem_of_getElem? (i := 896) (by decide +kernel), List.mem_of_getElem? (i := 897) (by decide +kernel)⟩
theorem lw_p28 : lw_okq (⟨"SleepOffice", "gather", "(I)Z"⟩, 16) := ⟨⟨by decide +kernel, by decide +kernel⟩, List.mem_of_getElem? (i := 28) (by decide +kernel), List.mem_of_getElem? (i := 911) (by decide +kernel), List.mem_of_getElem? (i := 912) (by decide +kernel)⟩
theorem lw_p29 : lw_okq (⟨"SleepOffice$Joining", "everybody", "()I"⟩, 5) := ⟨⟨by decide +kernel, by decide +kernel⟩, List.mem_of_getElem? (i := 145) (by decide +kernel), List.mem_of_getElem? (i := 928) (by decide +kernel), List.mem_of_getElem? (i := 929) (by decide +kernel)⟩
theorem lw_p30 : lw_okq (⟨"SleepOffice$Joining", "worthOf", "(I)I"⟩, 5) := ⟨⟨by decide +kernel, by decide +kernel⟩, List.mem_of_getElem? (i := 145) (by decide +kernel), List.mem_of_getElem? (i := 932) (by decide +kernel), List.mem_of_getElem? (i := 933) (by decide +kernel)⟩
theorem lw_p31 : lw_okq (⟨"SleepOffice$Joining", "pairWorth", "(II)I"⟩, 5) := ⟨⟨by decide +kernel, by decide +kernel⟩, List.mem_of_getElem? (i := 145) (by decide +kernel), List.mem_of_getElem? (i := 936) (by decide +kernel), List.mem_of_getElem? (i := 937) (by decide +kernel)⟩
def lw_privs_2 : List (MethodName × Nat) := [(⟨"SleepOffice$LawReader", "opens", "()Z"⟩, 9), (⟨"SleepOffice$LawReader", "takeNumber", "(II)I"⟩, 9), (⟨"SleepOffice$LawReader", "readCondition", "()V"⟩, 9), (⟨"SleepOffice$LawReader", "readTest", "()V"⟩, 9), (⟨"SleepOffice$LawReader", "readNumbers", "(I)V"⟩, 9), (⟨"SleepOffice$LawReader", "closeLine", "()V"⟩, 9), (⟨"SleepOffice", "lawOf", "(I)LSleepOffice$Law;"⟩, 16), (⟨"SleepOffice", "sleepDay", "(LSleepOffice$Account;I)I"⟩, 16), (⟨"SleepOffice", "hold", "(LSleepOffice$Account;)V"⟩, 16), (⟨"SleepOffice", "interestOf", "(LSleepOffice$Account;)J"⟩, 16), (⟨"SleepOffice", "paidOf", "(LSleepOffice$Account;)J"⟩, 16), (⟨"SleepOffice$Person", "diedAheadOf", "(LSleepOffice$Person;)Z"⟩, 8), (⟨"SleepOffice", "gather", "(I)Z"⟩, 16), (⟨"SleepOffice$Joining", "everybody", "()I"⟩, 5), (⟨"SleepOffice$Joining", "worthOf", "(I)I"⟩, 5), (⟨"SleepOffice$Joining", "pairWorth", "(II)I"⟩, 5)]
theorem lw_r2 : ∀ q ∈ lw_privs_2, lw_okq q := List.forall_mem_cons.mpr ⟨lw_p16, List.forall_mem_cons.mpr ⟨lw_p17, List.forall_mem_cons.mpr ⟨lw_p18, List.forall_mem_cons.mpr ⟨lw_p19, List.forall_mem_cons.mpr ⟨lw_p20, List.forall_mem_cons.mpr ⟨lw_p21, List.forall_mem_cons.mpr ⟨lw_p22, List.forall_mem_cons.mpr ⟨lw_p23, List.forall_mem_cons.mpr ⟨lw_p24, List.forall_mem_cons.mpr ⟨lw_p25, List.forall_mem_cons.mpr ⟨lw_p26, List.forall_mem_cons.mpr ⟨lw_p27, List.forall_mem_cons.mpr ⟨lw_p28, List.forall_mem_cons.mpr ⟨lw_p29, List.forall_mem_cons.mpr ⟨lw_p30, List.forall_mem_cons.mpr ⟨lw_p31, fun _ h => absurd h List.not_mem_nil⟩⟩⟩⟩⟩⟩⟩⟩⟩⟩⟩⟩⟩⟩⟩⟩
theorem lw_p32 : lw_okq (⟨"SleepOffice$Joining", "part", "(I)V"⟩, 5) := ⟨⟨by decide +kernel, by decide +kernel⟩, List.mem_of_getElem? (i := 145) (by decide +kernel), List.mem_of_getElem? (i := 942) (by decide +kernel), List.mem_of_getElem? (i := 943) (by decide +kernel)⟩
theorem lw_p33 : lw_okq (⟨"SleepOffice", "countHeirs", "(LSleepOffice$Person;)I"⟩, 16) := ⟨⟨by decide +kernel, by decide +kernel⟩, List.mem_of_getElem? (i := 28) (by decide +kernel), List.mem_of_getElem? (i := 976) (by decide +kernel), List.mem_of_getElem? (i := 977) (by decide +kernel)⟩
theorem lw_p34 : lw_okq (⟨"SleepOffice", "claimAt", "(I)LSleepOffice$Claim;"⟩, 16) := ⟨⟨by decide +kernel, by decide +kernel⟩, List.mem_of_getElem? (i := 28) (by decide +kernel), List.mem_of_getElem? (i := 1029) (by decide +kernel), List.mem_of_getElem? (i := 1030) (by decide +kernel)⟩
theorem lw_p35 : lw_okq (⟨"SleepOffice", "pointsAsked", "(LSleepOffice$Account;)I"⟩, 16) := ⟨⟨by decide +kernel, by decide +kernel⟩, List.mem_of_getElem? (i := 28) (by decide +kernel), List.mem_of_getElem? (i := 1033) (by decide +kernel), List.mem_of_getElem? (i := 1034) (by decide +kernel)⟩
theorem lw_p36 : lw_okq (⟨"SleepOffice$ProofScale", "push", "(I)V"⟩, 7) := ⟨⟨by decide +kernel, by decide +kernel⟩, List.mem_of_getElem? (i := 113) (by decide +kernel), List.mem_of_getElem? (i := 1053) (by decide +kernel), List.mem_of_getElem? (i := 1054) (by decide +kernel)⟩
theorem lw_p37 : lw_okq (⟨"SleepOffice$ProofScale", "endLine", "(I)V"⟩, 7) := ⟨⟨by decide +kernel, by decide +kernel⟩, List.mem_of_getElem? (i := 113) (by decide +kernel), List.mem_of_getElem? (i := 1058) (by decide +kernel), List.mem_of_getElem? (i := 1059) (by decide +kernel)⟩
theorem lw_p38 : lw_okq (⟨"SleepOffice$ProofScale", "pop", "()I"⟩, 7) := ⟨⟨by decide +kernel, by decide +kernel⟩, List.mem_of_getElem? (i := 113) (by decide +kernel), List.mem_of_getElem? (i := 1062) (by decide +kernel), List.mem_of_getElem? (i := 1063) (by decide +kernel)⟩
theorem lw_p39 : lw_okq (⟨"SleepOffice$ProofScale", "named", "(I)I"⟩, 7) := ⟨⟨by decide +kernel, by decide +kernel⟩, List.mem_of_getElem? (i := 113) (by decide +kernel), List.mem_of_getElem? (i := 1067) (by decide +kernel), List.mem_of_getElem? (i := 1068) (by decide +kernel)⟩
theorem lw_p40 : lw_okq (⟨"SleepOffice", "isGood", "(LSleepOffice$Claim;)Z"⟩, 16) := ⟨⟨by decide +kernel, by decide +kernel⟩, List.mem_of_getElem? (i := 28) (by decide +kernel), List.mem_of_getElem? (i := 1074) (by decide +kernel), List.mem_of_getElem? (i := 1075) (by decide +kernel)⟩
theorem lw_p41 : lw_okq (⟨"SleepOffice", "wasPaidBefore", "(LSleepOffice$Claim;)Z"⟩, 16) := ⟨⟨by decide +kernel, by decide +kernel⟩, List.mem_of_getElem? (i := 28) (by decide +kernel), List.mem_of_getElem? (i := 1085) (by decide +kernel), List.mem_of_getElem? (i := 1086) (by decide +kernel)⟩
theorem lw_p42 : lw_okq (⟨"SleepOffice$Firm", "figureAhead", "(I)I"⟩, 5) := ⟨⟨by decide +kernel, by decide +kernel⟩, List.mem_of_getElem? (i := 256) (by decide +kernel), List.mem_of_getElem? (i := 1119) (by decide +kernel), List.mem_of_getElem? (i := 1120) (by decide +kernel)⟩
theorem lw_p43 : lw_okq (⟨"SleepOffice$Firm", "figureBehind", "(I)I"⟩, 5) := ⟨⟨by decide +kernel, by decide +kernel⟩, List.mem_of_getElem? (i := 256) (by decide +kernel), List.mem_of_getElem? (i := 1123) (by decide +kernel), List.mem_of_getElem? (i := 1124) (by decide +kernel)⟩
theorem lw_p44 : lw_okq (⟨"SleepOffice$Chooser", "addGap", "(IIII)V"⟩, 5) := ⟨⟨by decide +kernel, by decide +kernel⟩, List.mem_of_getElem? (i := 169) (by decide +kernel), List.mem_of_getElem? (i := 1147) (by decide +kernel), List.mem_of_getElem? (i := 1148) (by decide +kernel)⟩
theorem lw_p45 : lw_okq (⟨"SleepOffice$Chooser", "closeRun", "(I)V"⟩, 5) := ⟨⟨by decide +kernel, by decide +kernel⟩, List.mem_of_getElem? (i := 169) (by decide +kernel), List.mem_of_getElem? (i := 1152) (by decide +kernel), List.mem_of_getElem? (i := 1153) (by decide +kernel)⟩
theorem lw_p46 : lw_okq (⟨"SleepOffice$Chooser", "search", "(IIIJ)V"⟩, 5) := ⟨⟨by decide +kernel, by decide +kernel⟩, List.mem_of_getElem? (i := 169) (by decide +kernel), List.mem_of_getElem? (i := 1156) (by decide +kernel), List.mem_of_getElem? (i := 1157) (by decide +kernel)⟩
theorem lw_p47 : lw_okq (⟨"SleepOffice$Chooser", "takenOff", "()J"⟩, 5) := ⟨⟨by decide +kernel, by decide +kernel⟩, List.mem_of_getElem? (i := 169) (by decide +kernel), List.mem_of_getElem? (i := 1165) (by decide +kernel), List.mem_of_getElem? (i := 1166) (by decide +kernel)⟩
def lw_privs_3 : List (MethodName × Nat) := [(⟨"SleepOffice$Joining", "part", "(I)V"⟩, 5), (⟨"SleepOffice", "countHeirs", "(LSleepOffice$Person;)I"⟩, 16), (⟨"SleepOffice", "claimAt", "(I)LSleepOffice$Claim;"⟩, 16), (⟨"SleepOffice", "pointsAsked", "(LSleepOffice$Account;)I"⟩, 16), (⟨"SleepOffice$ProofScale", "push", "(I)V"⟩, 7), (⟨"SleepOffice$ProofScale", "endLine", "(I)V"⟩, 7), (⟨"SleepOffice$ProofScale", "pop", "()I"⟩, 7), (⟨"SleepOffice$ProofScale", "named", "(I)I"⟩, 7), (⟨"SleepOffice", "isGood", "(LSleepOffice$Claim;)Z"⟩, 16), (⟨"SleepOffice", "wasPaidBefore", "(LSleepOffice$Claim;)Z"⟩, 16), (⟨"SleepOffice$Firm", "figureAhead", "(I)I"⟩, 5), (⟨"SleepOffice$Firm", "figureBehind", "(I)I"⟩, 5), (⟨"SleepOffice$Chooser", "addGap", "(IIII)V"⟩, 5), (⟨"SleepOffice$Chooser", "closeRun", "(I)V"⟩, 5), (⟨"SleepOffice$Chooser", "search", "(IIIJ)V"⟩, 5), (⟨"SleepOffice$Chooser", "takenOff", "()J"⟩, 5)]
theorem lw_r3 : ∀ q ∈ lw_privs_3, lw_okq q := List.forall_mem_cons.mpr ⟨lw_p32, List.forall_mem_cons.mpr ⟨lw_p33, List.forall_mem_cons.mpr ⟨lw_p34, List.forall_mem_cons.mpr ⟨lw_p35, List.forall_mem_cons.mpr ⟨lw_p36, List.forall_mem_cons.mpr ⟨lw_p37, List.forall_mem_cons.mpr ⟨lw_p38, List.forall_mem_cons.mpr ⟨lw_p39, List.forall_mem_cons.mpr ⟨lw_p40, List.forall_mem_cons.mpr ⟨lw_p41, List.forall_mem_cons.mpr ⟨lw_p42, List.forall_mem_cons.mpr ⟨lw_p43, List.forall_mem_cons.mpr ⟨lw_p44, List.forall_mem_cons.mpr ⟨lw_p45, List.forall_mem_cons.mpr ⟨lw_p46, List.forall_mem_cons.mpr ⟨lw_p47, fun _ h => absurd h List.not_mem_nil⟩⟩⟩⟩⟩⟩⟩⟩⟩⟩⟩⟩⟩⟩⟩⟩
theorem lw_p48 : lw_okq (⟨"SleepOffice", "countHeld", "()I"⟩, 16) := ⟨⟨by decide +kernel, by decide +kernel⟩, List.mem_of_getElem? (i := 28) (by decide +kernel), List.mem_of_getElem? (i := 1184) (by decide +kernel), List.mem_of_getElem? (i := 1185) (by decide +kernel)⟩
theorem lw_p49 : lw_okq (⟨"SleepOffice", "sumHeld", "()J"⟩, 16) := ⟨⟨by decide +kernel, by decide +kernel⟩, List.mem_of_getElem? (i := 28) (by decide +kernel), List.mem_of_getElem? (i := 1188) (by decide +kernel), List.mem_of_getElem? (i := 1189) (by decide +kernel)⟩
theorem lw_p50 : lw_okq (⟨"SleepOffice", "sumPaid", "()J"⟩, 16) := ⟨⟨by decide +kernel, by decide +kernel⟩, List.mem_of_getElem? (i := 28) (by decide +kernel), List.mem_of_getElem? (i := 1192) (by decide +kernel), List.mem_of_getElem? (i := 1193) (by decide +kernel)⟩
theorem lw_p51 : lw_okq (⟨"SleepOfficeModel", "clears", "(I)V"⟩, 81) := ⟨⟨by decide +kernel, by decide +kernel⟩, List.mem_of_getElem? (i := 1196) (by decide +kernel), List.mem_of_getElem? (i := 1202) (by decide +kernel), List.mem_of_getElem? (i := 1203) (by decide +kernel)⟩
theorem lw_p52 : lw_okq (⟨"SleepOfficeModel", "isFirm", "(I)Z"⟩, 81) := ⟨⟨by decide +kernel, by decide +kernel⟩, List.mem_of_getElem? (i := 1196) (by decide +kernel), List.mem_of_getElem? (i := 1469) (by decide +kernel), List.mem_of_getElem? (i := 1470) (by decide +kernel)⟩
theorem lw_p53 : lw_okq (⟨"SleepOfficeModel", "isPast", "(I)Z"⟩, 81) := ⟨⟨by decide +kernel, by decide +kernel⟩, List.mem_of_getElem? (i := 1196) (by decide +kernel), List.mem_of_getElem? (i := 1473) (by decide +kernel), List.mem_of_getElem? (i := 1474) (by decide +kernel)⟩
theorem lw_p54 : lw_okq (⟨"SleepOfficeModel", "isMerged", "(II)Z"⟩, 81) := ⟨⟨by decide +kernel, by decide +kernel⟩, List.mem_of_getElem? (i := 1196) (by decide +kernel), List.mem_of_getElem? (i := 1477) (by decide +kernel), List.mem_of_getElem? (i := 1478) (by decide +kernel)⟩
theorem lw_p55 : lw_okq (⟨"SleepOfficeModel", "firmOf", "(II)I"⟩, 81) := ⟨⟨by decide +kernel, by decide +kernel⟩, List.mem_of_getElem? (i := 1196) (by decide +kernel), List.mem_of_getElem? (i := 1485) (by decide +kernel), List.mem_of_getElem? (i := 1486) (by decide +kernel)⟩
theorem lw_p56 : lw_okq (⟨"SleepOfficeModel", "isPerson", "(I)Z"⟩, 81) := ⟨⟨by decide +kernel, by decide +kernel⟩, List.mem_of_getElem? (i := 1196) (by decide +kernel), List.mem_of_getElem? (i := 1493) (by decide +kernel), List.mem_of_getElem? (i := 1494) (by decide +kernel)⟩
theorem lw_p57 : lw_okq (⟨"SleepOfficeModel", "isAccount", "(I)Z"⟩, 81) := ⟨⟨by decide +kernel, by decide +kernel⟩, List.mem_of_getElem? (i := 1196) (by decide +kernel), List.mem_of_getElem? (i := 1513) (by decide +kernel), List.mem_of_getElem? (i := 1514) (by decide +kernel)⟩
theorem lw_p58 : lw_okq (⟨"SleepOfficeModel", "tells", "(IIIII)V"⟩, 81) := ⟨⟨by decide +kernel, by decide +kernel⟩, List.mem_of_getElem? (i := 1196) (by decide +kernel), List.mem_of_getElem? (i := 1519) (by decide +kernel), List.mem_of_getElem? (i := 1520) (by decide +kernel)⟩
theorem lw_p59 : lw_okq (⟨"SleepOfficeModel", "sumNow", "(III)J"⟩, 81) := ⟨⟨by decide +kernel, by decide +kernel⟩, List.mem_of_getElem? (i := 1196) (by decide +kernel), List.mem_of_getElem? (i := 1531) (by decide +kernel), List.mem_of_getElem? (i := 1532) (by decide +kernel)⟩
theorem lw_p60 : lw_okq (⟨"SleepOfficeModel", "sumOf", "(III)J"⟩, 81) := ⟨⟨by decide +kernel, by decide +kernel⟩, List.mem_of_getElem? (i := 1196) (by decide +kernel), List.mem_of_getElem? (i := 1535) (by decide +kernel), List.mem_of_getElem? (i := 1536) (by decide +kernel)⟩
theorem lw_p61 : lw_okq (⟨"SleepOfficeModel", "nextDay", "(III)I"⟩, 81) := ⟨⟨by decide +kernel, by decide +kernel⟩, List.mem_of_getElem? (i := 1196) (by decide +kernel), List.mem_of_getElem? (i := 1539) (by decide +kernel), List.mem_of_getElem? (i := 1540) (by decide +kernel)⟩
theorem lw_p62 : lw_okq (⟨"SleepOfficeModel", "next0", "()V"⟩, 81) := ⟨⟨by decide +kernel, by decide +kernel⟩, List.mem_of_getElem? (i := 1196) (by decide +kernel), List.mem_of_getElem? (i := 1556) (by decide +kernel), List.mem_of_getElem? (i := 1557) (by decide +kernel)⟩
theorem lw_p63 : lw_okq (⟨"SleepOfficeModel", "see", "(I)I"⟩, 81) := ⟨⟨by decide +kernel, by decide +kernel⟩, List.mem_of_getElem? (i := 1196) (by decide +kernel), List.mem_of_getElem? (i := 1560) (by decide +kernel), List.mem_of_getElem? (i := 1561) (by decide +kernel)⟩
def lw_privs_4 : List (MethodName × Nat) := [(⟨"SleepOffice", "countHeld", "()I"⟩, 16), (⟨"SleepOffice", "sumHeld", "()J"⟩, 16), (⟨"SleepOffice", "sumPaid", "()J"⟩, 16), (⟨"SleepOfficeModel", "clears", "(I)V"⟩, 81), (⟨"SleepOfficeModel", "isFirm", "(I)Z"⟩, 81), (⟨"SleepOfficeModel", "isPast", "(I)Z"⟩, 81), (⟨"SleepOfficeModel", "isMerged", "(II)Z"⟩, 81), (⟨"SleepOfficeModel", "firmOf", "(II)I"⟩, 81), (⟨"SleepOfficeModel", "isPerson", "(I)Z"⟩, 81), (⟨"SleepOfficeModel", "isAccount", "(I)Z"⟩, 81), (⟨"SleepOfficeModel", "tells", "(IIIII)V"⟩, 81), (⟨"SleepOfficeModel", "sumNow", "(III)J"⟩, 81), (⟨"SleepOfficeModel", "sumOf", "(III)J"⟩, 81), (⟨"SleepOfficeModel", "nextDay", "(III)I"⟩, 81), (⟨"SleepOfficeModel", "next0", "()V"⟩, 81), (⟨"SleepOfficeModel", "see", "(I)I"⟩, 81)]
theorem lw_r4 : ∀ q ∈ lw_privs_4, lw_okq q := List.forall_mem_cons.mpr ⟨lw_p48, List.forall_mem_cons.mpr ⟨lw_p49, List.forall_mem_cons.mpr ⟨lw_p50, List.forall_mem_cons.mpr ⟨lw_p51, List.forall_mem_cons.mpr ⟨lw_p52, List.forall_mem_cons.mpr ⟨lw_p53, List.forall_mem_cons.mpr ⟨lw_p54, List.forall_mem_cons.mpr ⟨lw_p55, List.forall_mem_cons.mpr ⟨lw_p56, List.forall_mem_cons.mpr ⟨lw_p57, List.forall_mem_cons.mpr ⟨lw_p58, List.forall_mem_cons.mpr ⟨lw_p59, List.forall_mem_cons.mpr ⟨lw_p60, List.forall_mem_cons.mpr ⟨lw_p61, List.forall_mem_cons.mpr ⟨lw_p62, List.forall_mem_cons.mpr ⟨lw_p63, fun _ h => absurd h List.not_mem_nil⟩⟩⟩⟩⟩⟩⟩⟩⟩⟩⟩⟩⟩⟩⟩⟩
theorem lw_p64 : lw_okq (⟨"SleepOfficeModel", "word", "()I"⟩, 81) := ⟨⟨by decide +kernel, by decide +kernel⟩, List.mem_of_getElem? (i := 1196) (by decide +kernel), List.mem_of_getElem? (i := 1567) (by decide +kernel), List.mem_of_getElem? (i := 1568) (by decide +kernel)⟩
theorem lw_p65 : lw_okq (⟨"SleepOfficeModel", "is", "(Ljava/lang/String;)Z"⟩, 81) := ⟨⟨by decide +kernel, by decide +kernel⟩, List.mem_of_getElem? (i := 1196) (by decide +kernel), List.mem_of_getElem? (i := 1572) (by decide +kernel), List.mem_of_getElem? (i := 1573) (by decide +kernel)⟩
theorem lw_p66 : lw_okq (⟨"SleepOfficeModel", "aLine", "()Z"⟩, 81) := ⟨⟨by decide +kernel, by decide +kernel⟩, List.mem_of_getElem? (i := 1196) (by decide +kernel), List.mem_of_getElem? (i := 1594) (by decide +kernel), List.mem_of_getElem? (i := 1595) (by decide +kernel)⟩
theorem lw_p67 : lw_okq (⟨"SleepOfficeModel", "bad", "(I)Z"⟩, 81) := ⟨⟨by decide +kernel, by decide +kernel⟩, List.mem_of_getElem? (i := 1196) (by decide +kernel), List.mem_of_getElem? (i := 1598) (by decide +kernel), List.mem_of_getElem? (i := 1599) (by decide +kernel)⟩
theorem lw_p68 : lw_okq (⟨"SleepOfficeModel", "inner", "(I)Z"⟩, 81) := ⟨⟨by decide +kernel, by decide +kernel⟩, List.mem_of_getElem? (i := 1196) (by decide +kernel), List.mem_of_getElem? (i := 1602) (by decide +kernel), List.mem_of_getElem? (i := 1603) (by decide +kernel)⟩
theorem lw_p69 : lw_okq (⟨"SleepOfficeModel", "two", "(III)Z"⟩, 81) := ⟨⟨by decide +kernel, by decide +kernel⟩, List.mem_of_getElem? (i := 1196) (by decide +kernel), List.mem_of_getElem? (i := 1606) (by decide +kernel), List.mem_of_getElem? (i := 1607) (by decide +kernel)⟩
theorem lw_p70 : lw_okq (⟨"SleepOfficeModel", "aNumber", "(I)Z"⟩, 81) := ⟨⟨by decide +kernel, by decide +kernel⟩, List.mem_of_getElem? (i := 1196) (by decide +kernel), List.mem_of_getElem? (i := 1610) (by decide +kernel), List.mem_of_getElem? (i := 1611) (by decide +kernel)⟩
theorem lw_p71 : lw_okq (⟨"SleepOfficeModel", "sumUp", "()Z"⟩, 81) := ⟨⟨by decide +kernel, by decide +kernel⟩, List.mem_of_getElem? (i := 1196) (by decide +kernel), List.mem_of_getElem? (i := 1614) (by decide +kernel), List.mem_of_getElem? (i := 1615) (by decide +kernel)⟩
theorem lw_p72 : lw_okq (⟨"SleepOfficeModel", "product", "()Z"⟩, 81) := ⟨⟨by decide +kernel, by decide +kernel⟩, List.mem_of_getElem? (i := 1196) (by decide +kernel), List.mem_of_getElem? (i := 1618) (by decide +kernel), List.mem_of_getElem? (i := 1619) (by decide +kernel)⟩
theorem lw_p73 : lw_okq (⟨"SleepOfficeModel", "unit", "()Z"⟩, 81) := ⟨⟨by decide +kernel, by decide +kernel⟩, List.mem_of_getElem? (i := 1196) (by decide +kernel), List.mem_of_getElem? (i := 1622) (by decide +kernel), List.mem_of_getElem? (i := 1623) (by decide +kernel)⟩
theorem lw_p74 : lw_okq (⟨"SleepOfficeModel", "opens", "()Z"⟩, 81) := ⟨⟨by decide +kernel, by decide +kernel⟩, List.mem_of_getElem? (i := 1196) (by decide +kernel), List.mem_of_getElem? (i := 1626) (by decide +kernel), List.mem_of_getElem? (i := 1627) (by decide +kernel)⟩
theorem lw_p75 : lw_okq (⟨"SleepOfficeModel", "need", "(I)Z"⟩, 81) := ⟨⟨by decide +kernel, by decide +kernel⟩, List.mem_of_getElem? (i := 1196) (by decide +kernel), List.mem_of_getElem? (i := 1630) (by decide +kernel), List.mem_of_getElem? (i := 1631) (by decide +kernel)⟩
theorem lw_p76 : lw_okq (⟨"SleepOfficeModel", "lay", "(II)V"⟩, 81) := ⟨⟨by decide +kernel, by decide +kernel⟩, List.mem_of_getElem? (i := 1196) (by decide +kernel), List.mem_of_getElem? (i := 1634) (by decide +kernel), List.mem_of_getElem? (i := 1635) (by decide +kernel)⟩
theorem lw_p77 : lw_okq (⟨"SleepOfficeModel", "any", "()Z"⟩, 81) := ⟨⟨by decide +kernel, by decide +kernel⟩, List.mem_of_getElem? (i := 1196) (by decide +kernel), List.mem_of_getElem? (i := 1638) (by decide +kernel), List.mem_of_getElem? (i := 1639) (by decide +kernel)⟩
theorem lw_p78 : lw_okq (⟨"SleepOfficeModel", "all", "()Z"⟩, 81) := ⟨⟨by decide +kernel, by decide +kernel⟩, List.mem_of_getElem? (i := 1196) (by decide +kernel), List.mem_of_getElem? (i := 1642) (by decide +kernel), List.mem_of_getElem? (i := 1643) (by decide +kernel)⟩
theorem lw_p79 : lw_okq (⟨"SleepOfficeModel", "one", "()Z"⟩, 81) := ⟨⟨by decide +kernel, by decide +kernel⟩, List.mem_of_getElem? (i := 1196) (by decide +kernel), List.mem_of_getElem? (i := 1646) (by decide +kernel), List.mem_of_getElem? (i := 1647) (by decide +kernel)⟩
def lw_privs_5 : List (MethodName × Nat) := [(⟨"SleepOfficeModel", "word", "()I"⟩, 81), (⟨"SleepOfficeModel", "is", "(Ljava/lang/String;)Z"⟩, 81), (⟨"SleepOfficeModel", "aLine", "()Z"⟩, 81), (⟨"SleepOfficeModel", "bad", "(I)Z"⟩, 81), (⟨"SleepOfficeModel", "inner", "(I)Z"⟩, 81), (⟨"SleepOfficeModel", "two", "(III)Z"⟩, 81), (⟨"SleepOfficeModel", "aNumber", "(I)Z"⟩, 81), (⟨"SleepOfficeModel", "sumUp", "()Z"⟩, 81), (⟨"SleepOfficeModel", "product", "()Z"⟩, 81), (⟨"SleepOfficeModel", "unit", "()Z"⟩, 81), (⟨"SleepOfficeModel", "opens", "()Z"⟩, 81), (⟨"SleepOfficeModel", "need", "(I)Z"⟩, 81), (⟨"SleepOfficeModel", "lay", "(II)V"⟩, 81), (⟨"SleepOfficeModel", "any", "()Z"⟩, 81), (⟨"SleepOfficeModel", "all", "()Z"⟩, 81), (⟨"SleepOfficeModel", "one", "()Z"⟩, 81)]
theorem lw_r5 : ∀ q ∈ lw_privs_5, lw_okq q := List.forall_mem_cons.mpr ⟨lw_p64, List.forall_mem_cons.mpr ⟨lw_p65, List.forall_mem_cons.mpr ⟨lw_p66, List.forall_mem_cons.mpr ⟨lw_p67, List.forall_mem_cons.mpr ⟨lw_p68, List.forall_mem_cons.mpr ⟨lw_p69, List.forall_mem_cons.mpr ⟨lw_p70, List.forall_mem_cons.mpr ⟨lw_p71, List.forall_mem_cons.mpr ⟨lw_p72, List.forall_mem_cons.mpr ⟨lw_p73, List.forall_mem_cons.mpr ⟨lw_p74, List.forall_mem_cons.mpr ⟨lw_p75, List.forall_mem_cons.mpr ⟨lw_p76, List.forall_mem_cons.mpr ⟨lw_p77, List.forall_mem_cons.mpr ⟨lw_p78, List.forall_mem_cons.mpr ⟨lw_p79, fun _ h => absurd h List.not_mem_nil⟩⟩⟩⟩⟩⟩⟩⟩⟩⟩⟩⟩⟩⟩⟩⟩
theorem lw_p80 : lw_okq (⟨"SleepOfficeModel", "takes", "(II)V"⟩, 81) := ⟨⟨by decide +kernel, by decide +kernel⟩, List.mem_of_getElem? (i := 1196) (by decide +kernel), List.mem_of_getElem? (i := 1650) (by decide +kernel), List.mem_of_getElem? (i := 1651) (by decide +kernel)⟩
theorem lw_p81 : lw_okq (⟨"SleepOfficeModel", "owedTo", "(II)I"⟩, 81) := ⟨⟨by decide +kernel, by decide +kernel⟩, List.mem_of_getElem? (i := 1196) (by decide +kernel), List.mem_of_getElem? (i := 1667) (by decide +kernel), List.mem_of_getElem? (i := 1668) (by decide +kernel)⟩
theorem lw_p82 : lw_okq (⟨"SleepOfficeModel", "sleepOf", "(II)I"⟩, 81) := ⟨⟨by decide +kernel, by decide +kernel⟩, List.mem_of_getElem? (i := 1196) (by decide +kernel), List.mem_of_getElem? (i := 1671) (by decide +kernel), List.mem_of_getElem? (i := 1672) (by decide +kernel)⟩
theorem lw_p83 : lw_okq (⟨"SleepOfficeModel", "isHeld", "(I)Z"⟩, 81) := ⟨⟨by decide +kernel, by decide +kernel⟩, List.mem_of_getElem? (i := 1196) (by decide +kernel), List.mem_of_getElem? (i := 1683) (by decide +kernel), List.mem_of_getElem? (i := 1684) (by decide +kernel)⟩
theorem lw_p84 : lw_okq (⟨"SleepOfficeModel", "interest", "(I)J"⟩, 81) := ⟨⟨by decide +kernel, by decide +kernel⟩, List.mem_of_getElem? (i := 1196) (by decide +kernel), List.mem_of_getElem? (i := 1687) (by decide +kernel), List.mem_of_getElem? (i := 1688) (by decide +kernel)⟩
theorem lw_p85 : lw_okq (⟨"SleepOfficeModel", "paidOf", "(I)J"⟩, 81) := ⟨⟨by decide +kernel, by decide +kernel⟩, List.mem_of_getElem? (i := 1196) (by decide +kernel), List.mem_of_getElem? (i := 1693) (by decide +kernel), List.mem_of_getElem? (i := 1694) (by decide +kernel)⟩
theorem lw_p86 : lw_okq (⟨"SleepOfficeModel", "isBarred", "(II)Z"⟩, 81) := ⟨⟨by decide +kernel, by decide +kernel⟩, List.mem_of_getElem? (i := 1196) (by decide +kernel), List.mem_of_getElem? (i := 1701) (by decide +kernel), List.mem_of_getElem? (i := 1702) (by decide +kernel)⟩
theorem lw_p87 : lw_okq (⟨"SleepOfficeModel", "isUnlike", "(II)Z"⟩, 81) := ⟨⟨by decide +kernel, by decide +kernel⟩, List.mem_of_getElem? (i := 1196) (by decide +kernel), List.mem_of_getElem? (i := 1705) (by decide +kernel), List.mem_of_getElem? (i := 1706) (by decide +kernel)⟩
theorem lw_p88 : lw_okq (⟨"SleepOfficeModel", "pointsOf", "(II)I"⟩, 81) := ⟨⟨by decide +kernel, by decide +kernel⟩, List.mem_of_getElem? (i := 1196) (by decide +kernel), List.mem_of_getElem? (i := 1709) (by decide +kernel), List.mem_of_getElem? (i := 1710) (by decide +kernel)⟩
theorem lw_p89 : lw_okq (⟨"SleepOfficeModel", "isLike", "(II)Z"⟩, 81) := ⟨⟨by decide +kernel, by decide +kernel⟩, List.mem_of_getElem? (i := 1196) (by decide +kernel), List.mem_of_getElem? (i := 1713) (by decide +kernel), List.mem_of_getElem? (i := 1714) (by decide +kernel)⟩
theorem lw_p90 : lw_okq (⟨"SleepOfficeModel", "isSet", "(I)Z"⟩, 81) := ⟨⟨by decide +kernel, by decide +kernel⟩, List.mem_of_getElem? (i := 1196) (by decide +kernel), List.mem_of_getElem? (i := 1721) (by decide +kernel), List.mem_of_getElem? (i := 1722) (by decide +kernel)⟩
theorem lw_p91 : lw_okq (⟨"SleepOfficeModel", "joinAll", "()V"⟩, 81) := ⟨⟨by decide +kernel, by decide +kernel⟩, List.mem_of_getElem? (i := 1196) (by decide +kernel), List.mem_of_getElem? (i := 1725) (by decide +kernel), List.mem_of_getElem? (i := 1726) (by decide +kernel)⟩
theorem lw_p92 : lw_okq (⟨"SleepOfficeModel", "joins", "(III)V"⟩, 81) := ⟨⟨by decide +kernel, by decide +kernel⟩, List.mem_of_getElem? (i := 1196) (by decide +kernel), List.mem_of_getElem? (i := 1729) (by decide +kernel), List.mem_of_getElem? (i := 1730) (by decide +kernel)⟩
theorem lw_p93 : lw_okq (⟨"SleepOfficeModel", "counts", "(I)V"⟩, 81) := ⟨⟨by decide +kernel, by decide +kernel⟩, List.mem_of_getElem? (i := 1196) (by decide +kernel), List.mem_of_getElem? (i := 1733) (by decide +kernel), List.mem_of_getElem? (i := 1734) (by decide +kernel)⟩
theorem lw_p94 : lw_okq (⟨"SleepOfficeModel", "heirsOf", "(I)I"⟩, 81) := ⟨⟨by decide +kernel, by decide +kernel⟩, List.mem_of_getElem? (i := 1196) (by decide +kernel), List.mem_of_getElem? (i := 1745) (by decide +kernel), List.mem_of_getElem? (i := 1746) (by decide +kernel)⟩
theorem lw_p95 : lw_okq (⟨"SleepOfficeModel", "shares", "(I)V"⟩, 81) := ⟨⟨by decide +kernel, by decide +kernel⟩, List.mem_of_getElem? (i := 1196) (by decide +kernel), List.mem_of_getElem? (i := 1749) (by decide +kernel), List.mem_of_getElem? (i := 1750) (by decide +kernel)⟩
def lw_privs_6 : List (MethodName × Nat) := [(⟨"SleepOfficeModel", "takes", "(II)V"⟩, 81), (⟨"SleepOfficeModel", "owedTo", "(II)I"⟩, 81), (⟨"SleepOfficeModel", "sleepOf", "(II)I"⟩, 81), (⟨"SleepOfficeModel", "isHeld", "(I)Z"⟩, 81), (⟨"SleepOfficeModel", "interest", "(I)J"⟩, 81), (⟨"SleepOfficeModel", "paidOf", "(I)J"⟩, 81), (⟨"SleepOfficeModel", "isBarred", "(II)Z"⟩, 81), (⟨"SleepOfficeModel", "isUnlike", "(II)Z"⟩, 81), (⟨"SleepOfficeModel", "pointsOf", "(II)I"⟩, 81), (⟨"SleepOfficeModel", "isLike", "(II)Z"⟩, 81), (⟨"SleepOfficeModel", "isSet", "(I)Z"⟩, 81), (⟨"SleepOfficeModel", "joinAll", "()V"⟩, 81), (⟨"SleepOfficeModel", "joins", "(III)V"⟩, 81), (⟨"SleepOfficeModel", "counts", "(I)V"⟩, 81), (⟨"SleepOfficeModel", "heirsOf", "(I)I"⟩, 81), (⟨"SleepOfficeModel", "shares", "(I)V"⟩, 81)]
theorem lw_r6 : ∀ q ∈ lw_privs_6, lw_okq q := List.forall_mem_cons.mpr ⟨lw_p80, List.forall_mem_cons.mpr ⟨lw_p81, List.forall_mem_cons.mpr ⟨lw_p82, List.forall_mem_cons.mpr ⟨lw_p83, List.forall_mem_cons.mpr ⟨lw_p84, List.forall_mem_cons.mpr ⟨lw_p85, List.forall_mem_cons.mpr ⟨lw_p86, List.forall_mem_cons.mpr ⟨lw_p87, List.forall_mem_cons.mpr ⟨lw_p88, List.forall_mem_cons.mpr ⟨lw_p89, List.forall_mem_cons.mpr ⟨lw_p90, List.forall_mem_cons.mpr ⟨lw_p91, List.forall_mem_cons.mpr ⟨lw_p92, List.forall_mem_cons.mpr ⟨lw_p93, List.forall_mem_cons.mpr ⟨lw_p94, List.forall_mem_cons.mpr ⟨lw_p95, fun _ h => absurd h List.not_mem_nil⟩⟩⟩⟩⟩⟩⟩⟩⟩⟩⟩⟩⟩⟩⟩⟩
theorem lw_p96 : lw_okq (⟨"SleepOfficeModel", "linesOf", "(I)I"⟩, 81) := ⟨⟨by decide +kernel, by decide +kernel⟩, List.mem_of_getElem? (i := 1196) (by decide +kernel), List.mem_of_getElem? (i := 1753) (by decide +kernel), List.mem_of_getElem? (i := 1754) (by decide +kernel)⟩
theorem lw_p97 : lw_okq (⟨"SleepOfficeModel", "asked", "(I)I"⟩, 81) := ⟨⟨by decide +kernel, by decide +kernel⟩, List.mem_of_getElem? (i := 1196) (by decide +kernel), List.mem_of_getElem? (i := 1772) (by decide +kernel), List.mem_of_getElem? (i := 1773) (by decide +kernel)⟩
theorem lw_p98 : lw_okq (⟨"SleepOfficeModel", "comesTo", "(III)I"⟩, 81) := ⟨⟨by decide +kernel, by decide +kernel⟩, List.mem_of_getElem? (i := 1196) (by decide +kernel), List.mem_of_getElem? (i := 1778) (by decide +kernel), List.mem_of_getElem? (i := 1779) (by decide +kernel)⟩
theorem lw_p99 : lw_okq (⟨"SleepOfficeModel", "isGood", "(I)Z"⟩, 81) := ⟨⟨by decide +kernel, by decide +kernel⟩, List.mem_of_getElem? (i := 1196) (by decide +kernel), List.mem_of_getElem? (i := 1785) (by decide +kernel), List.mem_of_getElem? (i := 1786) (by decide +kernel)⟩
theorem lw_p100 : lw_okq (⟨"SleepOfficeModel", "bound", "(IIZ)I"⟩, 81) := ⟨⟨by decide +kernel, by decide +kernel⟩, List.mem_of_getElem? (i := 1196) (by decide +kernel), List.mem_of_getElem? (i := 1811) (by decide +kernel), List.mem_of_getElem? (i := 1812) (by decide +kernel)⟩
def lw_privs_7 : List (MethodName × Nat) := [(⟨"SleepOfficeModel", "linesOf", "(I)I"⟩, 81), (⟨"SleepOfficeModel", "asked", "(I)I"⟩, 81), (⟨"SleepOfficeModel", "comesTo", "(III)I"⟩, 81), (⟨"SleepOfficeModel", "isGood", "(I)Z"⟩, 81), (⟨"SleepOfficeModel", "bound", "(IIZ)I"⟩, 81)]
theorem lw_r7 : ∀ q ∈ lw_privs_7, lw_okq q := List.forall_mem_cons.mpr ⟨lw_p96, List.forall_mem_cons.mpr ⟨lw_p97, List.forall_mem_cons.mpr ⟨lw_p98, List.forall_mem_cons.mpr ⟨lw_p99, List.forall_mem_cons.mpr ⟨lw_p100, fun _ h => absurd h List.not_mem_nil⟩⟩⟩⟩⟩
def lw_privs : List (MethodName × Nat) := lw_privs_1 ++ (lw_privs_2 ++ (lw_privs_3 ++ (lw_privs_4 ++ (lw_privs_5 ++ (lw_privs_6 ++ (lw_privs_7))))))
def lw_tbl : List Cond := k2_sels lw_privs ++ tables_1
theorem lw_privs_ok : ∀ q ∈ lw_privs, lw_okq q := by
  show ∀ q ∈ lw_privs_1 ++ (lw_privs_2 ++ (lw_privs_3 ++ (lw_privs_4 ++ (lw_privs_5 ++ (lw_privs_6 ++ (lw_privs_7)))))), lw_okq q
  exact List.forall_mem_append.mpr ⟨lw_r1, List.forall_mem_append.mpr ⟨lw_r2, List.forall_mem_append.mpr ⟨lw_r3, List.forall_mem_append.mpr ⟨lw_r4, List.forall_mem_append.mpr ⟨lw_r5, List.forall_mem_append.mpr ⟨lw_r6, lw_r7⟩⟩⟩⟩⟩⟩
-- ===== end of PART A; then your names; then what follows =====
def RX0 : String := "SleepOffice$Account"
def TX0 : u_T := fun k => match k with
  | 0 => ("SleepOffice$Account", "number", "I", true)
  | 1 => ("SleepOffice$Account", "firm", "LSleepOffice$Firm;", true)
  | 2 => ("SleepOffice$Account", "kind", "I", true)
  | 3 => ("SleepOffice$Account", "owner", "LSleepOffice$Person;", true)
  | 4 => ("SleepOffice$Account", "began", "I", true)
  | 5 => ("SleepOffice$Account", "entries", "Ljava/util/ArrayList;", true)
  | 6 => ("SleepOffice$Account", "growths", "I", false)
  | 7 => ("SleepOffice$Account", "heldBy", "I", false)
  | 8 => ("SleepOffice$Account", "heldSum", "J", false)
  | 9 => ("SleepOffice$Account", "heldDay", "I", false)
  | _ => ("SleepOffice$Account", "lateBy", "I", false)
def tyX0 : Nat → FieldType := fun k => match k with
  | 0 => .int
  | 1 => .object "SleepOffice$Firm"
  | 2 => .int
  | 3 => .object "SleepOffice$Person"
  | 4 => .int
  | 5 => .object "java/util/ArrayList"
  | 6 => .int
  | 7 => .int
  | 8 => .long
  | 9 => .int
  | _ => .int
abbrev wsX00 : List Cond := u_ws RX0 TX0 11
theorem nmX0 : ∀ a, a < 11 → ∀ b, b < 11 → a ≠ b → (TX0 a).2.1 ≠ (TX0 b).2.1 := by decide +kernel
theorem tyX0_ok : ∀ k, k < 11 → parseFieldDescriptor (TX0 k).2.2.1 = some (tyX0 k) := by decide +kernel
abbrev cX0_init : ByteArray := prog_2_method_1_code
def yX0_init : MethodName := ⟨RX0, "<init>", "(ILSleepOffice$Firm;ILSleepOffice$Person;I)V"⟩
abbrev cX0_isHeld : ByteArray := prog_2_method_2_code
def yX0_isHeld : MethodName := ⟨RX0, "isHeld", "()Z"⟩
abbrev cX0_tell : ByteArray := prog_2_method_3_code
def yX0_tell : MethodName := ⟨RX0, "tell", "(LSleepOffice$Entry;)V"⟩
abbrev cX0_grewOn : ByteArray := prog_2_method_4_code
def yX0_grewOn : MethodName := ⟨RX0, "grewOn", "(I)Z"⟩
abbrev cX0_askedSum : ByteArray := prog_2_method_5_code
def yX0_askedSum : MethodName := ⟨RX0, "askedSum", "(II)J"⟩
abbrev cX0_lastStir : ByteArray := prog_2_method_6_code
def yX0_lastStir : MethodName := ⟨RX0, "lastStir", "(II)I"⟩
def RX1 : String := "SleepOffice$Chooser"
def TX1 : u_T := fun k => match k with
  | 0 => ("SleepOffice$Chooser", "worth", "[J", true)
  | 1 => ("SleepOffice$Chooser", "price", "[I", true)
  | 2 => ("SleepOffice$Chooser", "nextRun", "[I", true)
  | 3 => ("SleepOffice$Chooser", "size", "I", false)
  | _ => ("SleepOffice$Chooser", "best", "J", false)
def tyX1 : Nat → FieldType := fun k => match k with
  | 0 => .array .long
  | 1 => .array .int
  | 2 => .array .int
  | 3 => .int
  | _ => .long
abbrev wsX10 : List Cond := u_ws RX1 TX1 5
theorem nmX1 : ∀ a, a < 5 → ∀ b, b < 5 → a ≠ b → (TX1 a).2.1 ≠ (TX1 b).2.1 := by decide +kernel
theorem tyX1_ok : ∀ k, k < 5 → parseFieldDescriptor (TX1 k).2.2.1 = some (tyX1 k) := by decide +kernel
abbrev cX1_init : ByteArray := prog_3_method_1_code
def yX1_init : MethodName := ⟨RX1, "<init>", "()V"⟩
abbrev cX1_choose : ByteArray := prog_3_method_2_code
def yX1_choose : MethodName := ⟨RX1, "choose", "(LSleepOffice$Firm;[III)V"⟩
abbrev cX1_chosenGain : ByteArray := prog_3_method_3_code
def yX1_chosenGain : MethodName := ⟨RX1, "chosenGain", "()I"⟩
abbrev cX1_chosenCost : ByteArray := prog_3_method_4_code
def yX1_chosenCost : MethodName := ⟨RX1, "chosenCost", "()I"⟩
abbrev cX1_chosenSet : ByteArray := prog_3_method_5_code
def yX1_chosenSet : MethodName := ⟨RX1, "chosenSet", "()I"⟩
abbrev cX1_takenOff : ByteArray := prog_3_method_6_code
def yX1_takenOff : MethodName := ⟨RX1, "takenOff", "()J"⟩
abbrev cX1_addGap : ByteArray := prog_3_method_7_code
def yX1_addGap : MethodName := ⟨RX1, "addGap", "(IIII)V"⟩
abbrev cX1_closeRun : ByteArray := prog_3_method_8_code
def yX1_closeRun : MethodName := ⟨RX1, "closeRun", "(I)V"⟩
abbrev cX1_search : ByteArray := prog_3_method_9_code
def yX1_search : MethodName := ⟨RX1, "search", "(IIIJ)V"⟩
def RX2 : String := "SleepOffice$Claim"
def TX2 : u_T := fun k => match k with
  | 0 => ("SleepOffice$Claim", "person", "LSleepOffice$Person;", true)
  | 1 => ("SleepOffice$Claim", "account", "LSleepOffice$Account;", true)
  | 2 => ("SleepOffice$Claim", "points", "I", true)
  | 3 => ("SleepOffice$Claim", "fee", "I", true)
  | 4 => ("SleepOffice$Claim", "standing", "I", false)
  | 5 => ("SleepOffice$Claim", "paid", "J", false)
  | _ => ("SleepOffice$Claim", "toFinder", "J", false)
def tyX2 : Nat → FieldType := fun k => match k with
  | 0 => .object "SleepOffice$Person"
  | 1 => .object "SleepOffice$Account"
  | 2 => .int
  | 3 => .int
  | 4 => .int
  | 5 => .long
  | _ => .long
abbrev wsX20 : List Cond := u_ws RX2 TX2 7
theorem nmX2 : ∀ a, a < 7 → ∀ b, b < 7 → a ≠ b → (TX2 a).2.1 ≠ (TX2 b).2.1 := by decide +kernel
theorem tyX2_ok : ∀ k, k < 7 → parseFieldDescriptor (TX2 k).2.2.1 = some (tyX2 k) := by decide +kernel
abbrev cX2_init : ByteArray := prog_4_method_1_code
def yX2_init : MethodName := ⟨RX2, "<init>", "(LSleepOffice$Person;LSleepOffice$Account;II)V"⟩
def RX3 : String := "SleepOffice$Entry"
def TX3 : u_T := fun k => match k with
  | 0 => ("SleepOffice$Entry", "sort", "I", true)
  | 1 => ("SleepOffice$Entry", "day", "I", true)
  | 2 => ("SleepOffice$Entry", "toldOn", "I", true)
  | 3 => ("SleepOffice$Entry", "up", "I", true)
  | 4 => ("SleepOffice$Entry", "by", "I", true)
  | _ => ("SleepOffice$Entry", "amount", "I", true)
def tyX3 : Nat → FieldType := fun k => match k with
  | 0 => .int
  | 1 => .int
  | 2 => .int
  | 3 => .int
  | 4 => .int
  | _ => .int
abbrev wsX30 : List Cond := u_ws RX3 TX3 6
theorem nmX3 : ∀ a, a < 6 → ∀ b, b < 6 → a ≠ b → (TX3 a).2.1 ≠ (TX3 b).2.1 := by decide +kernel
theorem tyX3_ok : ∀ k, k < 6 → parseFieldDescriptor (TX3 k).2.2.1 = some (tyX3 k) := by decide +kernel
abbrev cX3_init : ByteArray := prog_5_method_1_code
def yX3_init : MethodName := ⟨RX3, "<init>", "(IIIIII)V"⟩
abbrev cX3_changed : ByteArray := prog_5_method_2_code
def yX3_changed : MethodName := ⟨RX3, "changed", "(J)J"⟩
abbrev cX3_comesAhead : ByteArray := prog_5_method_3_code
def yX3_comesAhead : MethodName := ⟨RX3, "comesAhead", "(LSleepOffice$Entry;)Z"⟩
def RX4 : String := "SleepOffice$Firm"
def TX4 : u_T := fun k => match k with
  | 0 => ("SleepOffice$Firm", "number", "I", true)
  | 1 => ("SleepOffice$Firm", "state", "I", true)
  | 2 => ("SleepOffice$Firm", "into", "LSleepOffice$Firm;", false)
  | 3 => ("SleepOffice$Firm", "mergeDay", "I", false)
  | _ => ("SleepOffice$Firm", "figures", "[I", true)
def tyX4 : Nat → FieldType := fun k => match k with
  | 0 => .int
  | 1 => .int
  | 2 => .object "SleepOffice$Firm"
  | 3 => .int
  | _ => .array .int
abbrev wsX40 : List Cond := u_ws RX4 TX4 5
theorem nmX4 : ∀ a, a < 5 → ∀ b, b < 5 → a ≠ b → (TX4 a).2.1 ≠ (TX4 b).2.1 := by decide +kernel
theorem tyX4_ok : ∀ k, k < 5 → parseFieldDescriptor (TX4 k).2.2.1 = some (tyX4 k) := by decide +kernel
abbrev cX4_init : ByteArray := prog_6_method_1_code
def yX4_init : MethodName := ⟨RX4, "<init>", "(II)V"⟩
abbrev cX4_isMergedBy : ByteArray := prog_6_method_2_code
def yX4_isMergedBy : MethodName := ⟨RX4, "isMergedBy", "(I)Z"⟩
abbrev cX4_setFigure : ByteArray := prog_6_method_3_code
def yX4_setFigure : MethodName := ⟨RX4, "setFigure", "(II)Z"⟩
abbrev cX4_isGap : ByteArray := prog_6_method_4_code
def yX4_isGap : MethodName := ⟨RX4, "isGap", "(I)Z"⟩
abbrev cX4_leastIn : ByteArray := prog_6_method_5_code
def yX4_leastIn : MethodName := ⟨RX4, "leastIn", "(I)I"⟩
abbrev cX4_greatestIn : ByteArray := prog_6_method_6_code
def yX4_greatestIn : MethodName := ⟨RX4, "greatestIn", "(I)I"⟩
abbrev cX4_figureAhead : ByteArray := prog_6_method_7_code
def yX4_figureAhead : MethodName := ⟨RX4, "figureAhead", "(I)I"⟩
abbrev cX4_figureBehind : ByteArray := prog_6_method_8_code
def yX4_figureBehind : MethodName := ⟨RX4, "figureBehind", "(I)I"⟩
def RX5 : String := "SleepOffice$Joining"
def TX5 : u_T := fun k => match k with
  | 0 => ("SleepOffice$Joining", "seats", "[LSleepOffice$Person;", true)
  | 1 => ("SleepOffice$Joining", "seated", "I", false)
  | 2 => ("SleepOffice$Joining", "worth", "[I", true)
  | 3 => ("SleepOffice$Joining", "best", "[I", true)
  | _ => ("SleepOffice$Joining", "ways", "[I", true)
def tyX5 : Nat → FieldType := fun k => match k with
  | 0 => .array (.object "SleepOffice$Person")
  | 1 => .int
  | 2 => .array .int
  | 3 => .array .int
  | _ => .array .int
abbrev wsX50 : List Cond := u_ws RX5 TX5 5
theorem nmX5 : ∀ a, a < 5 → ∀ b, b < 5 → a ≠ b → (TX5 a).2.1 ≠ (TX5 b).2.1 := by decide +kernel
theorem tyX5_ok : ∀ k, k < 5 → parseFieldDescriptor (TX5 k).2.2.1 = some (tyX5 k) := by decide +kernel
abbrev cX5_init : ByteArray := prog_7_method_1_code
def yX5_init : MethodName := ⟨RX5, "<init>", "()V"⟩
abbrev cX5_clear : ByteArray := prog_7_method_2_code
def yX5_clear : MethodName := ⟨RX5, "clear", "()V"⟩
abbrev cX5_seat : ByteArray := prog_7_method_3_code
def yX5_seat : MethodName := ⟨RX5, "seat", "(LSleepOffice$Person;)Z"⟩
abbrev cX5_seatBit : ByteArray := prog_7_method_4_code
def yX5_seatBit : MethodName := ⟨RX5, "seatBit", "(LSleepOffice$Person;)I"⟩
abbrev cX5_reckon : ByteArray := prog_7_method_5_code
def yX5_reckon : MethodName := ⟨RX5, "reckon", "()V"⟩
abbrev cX5_greatestWorth : ByteArray := prog_7_method_6_code
def yX5_greatestWorth : MethodName := ⟨RX5, "greatestWorth", "()I"⟩
abbrev cX5_countBest : ByteArray := prog_7_method_7_code
def yX5_countBest : MethodName := ⟨RX5, "countBest", "()I"⟩
abbrev cX5_countBestWith : ByteArray := prog_7_method_8_code
def yX5_countBestWith : MethodName := ⟨RX5, "countBestWith", "(I)I"⟩
abbrev cX5_everybody : ByteArray := prog_7_method_9_code
def yX5_everybody : MethodName := ⟨RX5, "everybody", "()I"⟩
abbrev cX5_worthOf : ByteArray := prog_7_method_10_code
def yX5_worthOf : MethodName := ⟨RX5, "worthOf", "(I)I"⟩
abbrev cX5_pairWorth : ByteArray := prog_7_method_11_code
def yX5_pairWorth : MethodName := ⟨RX5, "pairWorth", "(II)I"⟩
abbrev cX5_part : ByteArray := prog_7_method_12_code
def yX5_part : MethodName := ⟨RX5, "part", "(I)V"⟩
def RX6 : String := "SleepOffice$Law"
def TX6 : u_T := fun k => match k with
  | 0 => ("SleepOffice$Law", "lines", "I", false)
  | 1 => ("SleepOffice$Law", "sleepYears", "[I", true)
  | 2 => ("SleepOffice$Law", "sorts", "I", false)
  | 3 => ("SleepOffice$Law", "letter", "I", false)
  | 4 => ("SleepOffice$Law", "fee", "I", false)
  | 5 => ("SleepOffice$Law", "interest", "I", false)
  | 6 => ("SleepOffice$Law", "interestYears", "I", false)
  | 7 => ("SleepOffice$Law", "code", "[I", true)
  | _ => ("SleepOffice$Law", "codeLength", "I", false)
def tyX6 : Nat → FieldType := fun k => match k with
  | 0 => .int
  | 1 => .array .int
  | 2 => .int
  | 3 => .int
  | 4 => .int
  | 5 => .int
  | 6 => .int
  | 7 => .array .int
  | _ => .int
abbrev wsX60 : List Cond := u_ws RX6 TX6 9
theorem nmX6 : ∀ a, a < 9 → ∀ b, b < 9 → a ≠ b → (TX6 a).2.1 ≠ (TX6 b).2.1 := by decide +kernel
theorem tyX6_ok : ∀ k, k < 9 → parseFieldDescriptor (TX6 k).2.2.1 = some (tyX6 k) := by decide +kernel
abbrev cX6_init : ByteArray := prog_8_method_1_code
def yX6_init : MethodName := ⟨RX6, "<init>", "(I)V"⟩
abbrev cX6_setSleep : ByteArray := prog_8_method_2_code
def yX6_setSleep : MethodName := ⟨RX6, "setSleep", "(II)V"⟩
abbrev cX6_yearsOfSleep : ByteArray := prog_8_method_3_code
def yX6_yearsOfSleep : MethodName := ⟨RX6, "yearsOfSleep", "(I)I"⟩
abbrev cX6_sortsThatCount : ByteArray := prog_8_method_4_code
def yX6_sortsThatCount : MethodName := ⟨RX6, "sortsThatCount", "()I"⟩
abbrev cX6_addCode : ByteArray := prog_8_method_5_code
def yX6_addCode : MethodName := ⟨RX6, "addCode", "(I)V"⟩
abbrev cX6_codeLength : ByteArray := prog_8_method_6_code
def yX6_codeLength : MethodName := ⟨RX6, "codeLength", "()I"⟩
abbrev cX6_codeAt : ByteArray := prog_8_method_7_code
def yX6_codeAt : MethodName := ⟨RX6, "codeAt", "(I)I"⟩
def RX7 : String := "SleepOffice$LawReader"
def TX7 : u_T := fun k => match k with
  | 0 => ("SleepOffice$LawReader", "law", "LSleepOffice$Law;", true)
  | 1 => ("SleepOffice$LawReader", "fault", "I", false)
  | 2 => ("SleepOffice$LawReader", "faultPlace", "I", false)
  | 3 => ("SleepOffice$LawReader", "tokens", "Ljava/util/ArrayList;", true)
  | 4 => ("SleepOffice$LawReader", "next", "I", false)
  | 5 => ("SleepOffice$LawReader", "sort", "I", false)
  | 6 => ("SleepOffice$LawReader", "place", "I", false)
  | 7 => ("SleepOffice$LawReader", "value", "I", false)
  | _ => ("SleepOffice$LawReader", "open", "I", false)
def tyX7 : Nat → FieldType := fun k => match k with
  | 0 => .object "SleepOffice$Law"
  | 1 => .int
  | 2 => .int
  | 3 => .object "java/util/ArrayList"
  | 4 => .int
  | 5 => .int
  | 6 => .int
  | 7 => .int
  | _ => .int
abbrev wsX70 : List Cond := u_ws RX7 TX7 9
theorem nmX7 : ∀ a, a < 9 → ∀ b, b < 9 → a ≠ b → (TX7 a).2.1 ≠ (TX7 b).2.1 := by decide +kernel
theorem tyX7_ok : ∀ k, k < 9 → parseFieldDescriptor (TX7 k).2.2.1 = some (tyX7 k) := by decide +kernel
abbrev cX7_init : ByteArray := prog_9_method_1_code
def yX7_init : MethodName := ⟨RX7, "<init>", "(Ljava/util/ArrayList;)V"⟩
abbrev cX7_readLines : ByteArray := prog_9_method_2_code
def yX7_readLines : MethodName := ⟨RX7, "readLines", "()V"⟩
abbrev cX7_readNumbers : ByteArray := prog_9_method_3_code
def yX7_readNumbers : MethodName := ⟨RX7, "readNumbers", "(I)V"⟩
abbrev cX7_readCondition : ByteArray := prog_9_method_4_code
def yX7_readCondition : MethodName := ⟨RX7, "readCondition", "()V"⟩
abbrev cX7_readTest : ByteArray := prog_9_method_5_code
def yX7_readTest : MethodName := ⟨RX7, "readTest", "()V"⟩
abbrev cX7_readTerms : ByteArray := prog_9_method_6_code
def yX7_readTerms : MethodName := ⟨RX7, "readTerms", "()V"⟩
abbrev cX7_readUnit : ByteArray := prog_9_method_7_code
def yX7_readUnit : MethodName := ⟨RX7, "readUnit", "()V"⟩
abbrev cX7_opens : ByteArray := prog_9_method_8_code
def yX7_opens : MethodName := ⟨RX7, "opens", "()Z"⟩
abbrev cX7_closeLine : ByteArray := prog_9_method_9_code
def yX7_closeLine : MethodName := ⟨RX7, "closeLine", "()V"⟩
abbrev cX7_takeNumber : ByteArray := prog_9_method_10_code
def yX7_takeNumber : MethodName := ⟨RX7, "takeNumber", "(II)I"⟩
abbrev cX7_refuse : ByteArray := prog_9_method_11_code
def yX7_refuse : MethodName := ⟨RX7, "refuse", "(I)V"⟩
abbrev cX7_advance : ByteArray := prog_9_method_12_code
def yX7_advance : MethodName := ⟨RX7, "advance", "()V"⟩
def RX8 : String := "SleepOffice$Person"
def TX8 : u_T := fun k => match k with
  | 0 => ("SleepOffice$Person", "number", "I", true)
  | 1 => ("SleepOffice$Person", "name", "I", true)
  | 2 => ("SleepOffice$Person", "born", "I", true)
  | 3 => ("SleepOffice$Person", "mark", "I", true)
  | 4 => ("SleepOffice$Person", "parent", "LSleepOffice$Person;", true)
  | 5 => ("SleepOffice$Person", "home", "I", false)
  | 6 => ("SleepOffice$Person", "died", "I", false)
  | _ => ("SleepOffice$Person", "lines", "I", false)
def tyX8 : Nat → FieldType := fun k => match k with
  | 0 => .int
  | 1 => .int
  | 2 => .int
  | 3 => .int
  | 4 => .object "SleepOffice$Person"
  | 5 => .int
  | 6 => .int
  | _ => .int
abbrev wsX80 : List Cond := u_ws RX8 TX8 8
theorem nmX8 : ∀ a, a < 8 → ∀ b, b < 8 → a ≠ b → (TX8 a).2.1 ≠ (TX8 b).2.1 := by decide +kernel
theorem tyX8_ok : ∀ k, k < 8 → parseFieldDescriptor (TX8 k).2.2.1 = some (tyX8 k) := by decide +kernel
abbrev cX8_init : ByteArray := prog_10_method_1_code
def yX8_init : MethodName := ⟨RX8, "<init>", "(IIIILSleepOffice$Person;)V"⟩
abbrev cX8_lives : ByteArray := prog_10_method_2_code
def yX8_lives : MethodName := ⟨RX8, "lives", "()Z"⟩
abbrev cX8_pointsWith : ByteArray := prog_10_method_3_code
def yX8_pointsWith : MethodName := ⟨RX8, "pointsWith", "(LSleepOffice$Person;)I"⟩
abbrev cX8_isBarredFrom : ByteArray := prog_10_method_4_code
def yX8_isBarredFrom : MethodName := ⟨RX8, "isBarredFrom", "(LSleepOffice$Person;)Z"⟩
abbrev cX8_diedAheadOf : ByteArray := prog_10_method_5_code
def yX8_diedAheadOf : MethodName := ⟨RX8, "diedAheadOf", "(LSleepOffice$Person;)Z"⟩
abbrev cX8_isKnownAlike : ByteArray := prog_10_method_6_code
def yX8_isKnownAlike : MethodName := ⟨RX8, "isKnownAlike", "(II)Z"⟩
abbrev cX8_isKnownUnlike : ByteArray := prog_10_method_7_code
def yX8_isKnownUnlike : MethodName := ⟨RX8, "isKnownUnlike", "(II)Z"⟩
def RX9 : String := "SleepOffice$ProofScale"
def TX9 : u_T := fun k => match k with
  | 0 => ("SleepOffice$ProofScale", "sum", "I", false)
  | 1 => ("SleepOffice$ProofScale", "years", "I", false)
  | 2 => ("SleepOffice$ProofScale", "kind", "I", false)
  | 3 => ("SleepOffice$ProofScale", "heirs", "I", false)
  | 4 => ("SleepOffice$ProofScale", "stack", "[I", true)
  | 5 => ("SleepOffice$ProofScale", "top", "I", false)
  | _ => ("SleepOffice$ProofScale", "greatest", "I", false)
def tyX9 : Nat → FieldType := fun k => match k with
  | 0 => .int
  | 1 => .int
  | 2 => .int
  | 3 => .int
  | 4 => .array .int
  | 5 => .int
  | _ => .int
abbrev wsX90 : List Cond := u_ws RX9 TX9 7
theorem nmX9 : ∀ a, a < 7 → ∀ b, b < 7 → a ≠ b → (TX9 a).2.1 ≠ (TX9 b).2.1 := by decide +kernel
theorem tyX9_ok : ∀ k, k < 7 → parseFieldDescriptor (TX9 k).2.2.1 = some (tyX9 k) := by decide +kernel
abbrev cX9_init : ByteArray := prog_11_method_1_code
def yX9_init : MethodName := ⟨RX9, "<init>", "()V"⟩
abbrev cX9_greatest : ByteArray := prog_11_method_2_code
def yX9_greatest : MethodName := ⟨RX9, "greatest", "(LSleepOffice$Law;)I"⟩
abbrev cX9_endLine : ByteArray := prog_11_method_3_code
def yX9_endLine : MethodName := ⟨RX9, "endLine", "(I)V"⟩
abbrev cX9_named : ByteArray := prog_11_method_4_code
def yX9_named : MethodName := ⟨RX9, "named", "(I)I"⟩
abbrev cX9_combined : ByteArray := prog_11_method_5_code
def yX9_combined : MethodName := ⟨RX9, "combined", "(III)I"⟩
abbrev cX9_push : ByteArray := prog_11_method_6_code
def yX9_push : MethodName := ⟨RX9, "push", "(I)V"⟩
abbrev cX9_pop : ByteArray := prog_11_method_7_code
def yX9_pop : MethodName := ⟨RX9, "pop", "()I"⟩
def RX10 : String := "SleepOffice$Token"
def TX10 : u_T := fun k => match k with
  | 0 => ("SleepOffice$Token", "sort", "I", true)
  | 1 => ("SleepOffice$Token", "place", "I", true)
  | _ => ("SleepOffice$Token", "value", "I", true)
def tyX10 : Nat → FieldType := fun k => match k with
  | 0 => .int
  | 1 => .int
  | _ => .int
abbrev wsX100 : List Cond := u_ws RX10 TX10 3
theorem nmX10 : ∀ a, a < 3 → ∀ b, b < 3 → a ≠ b → (TX10 a).2.1 ≠ (TX10 b).2.1 := by decide +kernel
theorem tyX10_ok : ∀ k, k < 3 → parseFieldDescriptor (TX10 k).2.2.1 = some (tyX10 k) := by decide +kernel
abbrev cX10_init : ByteArray := prog_12_method_1_code
def yX10_init : MethodName := ⟨RX10, "<init>", "(III)V"⟩
abbrev cX10_split : ByteArray := prog_12_method_2_code
def yX10_split : MethodName := ⟨RX10, "split", "([BI)Ljava/util/ArrayList;"⟩
abbrev cX10_wordEnd : ByteArray := prog_12_method_3_code
def yX10_wordEnd : MethodName := ⟨RX10, "wordEnd", "([BII)I"⟩
abbrev cX10_number : ByteArray := prog_12_method_4_code
def yX10_number : MethodName := ⟨RX10, "number", "([BII)LSleepOffice$Token;"⟩
abbrev cX10_keyword : ByteArray := prog_12_method_5_code
def yX10_keyword : MethodName := ⟨RX10, "keyword", "([BII)I"⟩
abbrev cX10_isSpelled : ByteArray := prog_12_method_6_code
def yX10_isSpelled : MethodName := ⟨RX10, "isSpelled", "(Ljava/lang/String;[BII)Z"⟩
abbrev cX10_byteAt : ByteArray := prog_12_method_7_code
def yX10_byteAt : MethodName := ⟨RX10, "byteAt", "([BI)I"⟩
abbrev cX10_isBlank : ByteArray := prog_12_method_8_code
def yX10_isBlank : MethodName := ⟨RX10, "isBlank", "(I)Z"⟩
abbrev cX10_isLetter : ByteArray := prog_12_method_9_code
def yX10_isLetter : MethodName := ⟨RX10, "isLetter", "(I)Z"⟩
abbrev cX10_isDigit : ByteArray := prog_12_method_10_code
def yX10_isDigit : MethodName := ⟨RX10, "isDigit", "(I)Z"⟩
abbrev cX10_spelling : ByteArray := prog_12_method_11_code
def yX10_spelling : MethodName := ⟨RX10, "spelling", "(I)Ljava/lang/String;"⟩
abbrev cX10_signOf : ByteArray := prog_12_method_12_code
def yX10_signOf : MethodName := ⟨RX10, "signOf", "(I)I"⟩
def RX11 : String := "SleepOffice"
def TX11 : u_T := fun k => match k with
  | 0 => ("SleepOffice", "now", "I", false)
  | 1 => ("SleepOffice", "firms", "Ljava/util/ArrayList;", true)
  | 2 => ("SleepOffice", "persons", "Ljava/util/ArrayList;", true)
  | 3 => ("SleepOffice", "accounts", "Ljava/util/ArrayList;", true)
  | 4 => ("SleepOffice", "claims", "Ljava/util/ArrayList;", true)
  | 5 => ("SleepOffice", "entriesTold", "I", false)
  | 6 => ("SleepOffice", "tape", "[B", true)
  | 7 => ("SleepOffice", "tapeLength", "I", false)
  | 8 => ("SleepOffice", "plainLaw", "LSleepOffice$Law;", true)
  | 9 => ("SleepOffice", "laws", "[LSleepOffice$Law;", true)
  | 10 => ("SleepOffice", "lawFault", "I", false)
  | 11 => ("SleepOffice", "lawFaultPlace", "I", false)
  | 12 => ("SleepOffice", "scale", "LSleepOffice$ProofScale;", true)
  | 13 => ("SleepOffice", "joining", "LSleepOffice$Joining;", true)
  | 14 => ("SleepOffice", "lookCosts", "[I", true)
  | _ => ("SleepOffice", "chooser", "LSleepOffice$Chooser;", true)
def tyX11 : Nat → FieldType := fun k => match k with
  | 0 => .int
  | 1 => .object "java/util/ArrayList"
  | 2 => .object "java/util/ArrayList"
  | 3 => .object "java/util/ArrayList"
  | 4 => .object "java/util/ArrayList"
  | 5 => .int
  | 6 => .array .byte
  | 7 => .int
  | 8 => .object "SleepOffice$Law"
  | 9 => .array (.object "SleepOffice$Law")
  | 10 => .int
  | 11 => .int
  | 12 => .object "SleepOffice$ProofScale"
  | 13 => .object "SleepOffice$Joining"
  | 14 => .array .int
  | _ => .object "SleepOffice$Chooser"
abbrev wsX110 : List Cond := u_ws RX11 TX11 16
theorem nmX11 : ∀ a, a < 16 → ∀ b, b < 16 → a ≠ b → (TX11 a).2.1 ≠ (TX11 b).2.1 := by decide +kernel
theorem tyX11_ok : ∀ k, k < 16 → parseFieldDescriptor (TX11 k).2.2.1 = some (tyX11 k) := by decide +kernel
abbrev cX11_init : ByteArray := prog_1_method_1_code
def yX11_init : MethodName := ⟨RX11, "<init>", "()V"⟩
abbrev cX11_days : ByteArray := prog_1_method_2_code
def yX11_days : MethodName := ⟨RX11, "days", "(I)I"⟩
abbrev cX11_firm : ByteArray := prog_1_method_3_code
def yX11_firm : MethodName := ⟨RX11, "firm", "(I)I"⟩
abbrev cX11_merge : ByteArray := prog_1_method_4_code
def yX11_merge : MethodName := ⟨RX11, "merge", "(III)Z"⟩
abbrev cX11_firmOn : ByteArray := prog_1_method_5_code
def yX11_firmOn : MethodName := ⟨RX11, "firmOn", "(II)I"⟩
abbrev cX11_firmAt : ByteArray := prog_1_method_6_code
def yX11_firmAt : MethodName := ⟨RX11, "firmAt", "(I)LSleepOffice$Firm;"⟩
abbrev cX11_tookOneSince : ByteArray := prog_1_method_7_code
def yX11_tookOneSince : MethodName := ⟨RX11, "tookOneSince", "(LSleepOffice$Firm;I)Z"⟩
abbrev cX11_holderOn : ByteArray := prog_1_method_8_code
def yX11_holderOn : MethodName := ⟨RX11, "holderOn", "(LSleepOffice$Firm;I)LSleepOffice$Firm;"⟩
abbrev cX11_person : ByteArray := prog_1_method_9_code
def yX11_person : MethodName := ⟨RX11, "person", "(IIIII)I"⟩
abbrev cX11_dies : ByteArray := prog_1_method_10_code
def yX11_dies : MethodName := ⟨RX11, "dies", "(II)Z"⟩
abbrev cX11_moves : ByteArray := prog_1_method_11_code
def yX11_moves : MethodName := ⟨RX11, "moves", "(II)Z"⟩
abbrev cX11_personAt : ByteArray := prog_1_method_12_code
def yX11_personAt : MethodName := ⟨RX11, "personAt", "(I)LSleepOffice$Person;"⟩
abbrev cX11_account : ByteArray := prog_1_method_13_code
def yX11_account : MethodName := ⟨RX11, "account", "(IIII)I"⟩
abbrev cX11_act : ByteArray := prog_1_method_14_code
def yX11_act : MethodName := ⟨RX11, "act", "(IIII)Z"⟩
abbrev cX11_grow : ByteArray := prog_1_method_15_code
def yX11_grow : MethodName := ⟨RX11, "grow", "(IIII)Z"⟩
abbrev cX11_sum : ByteArray := prog_1_method_16_code
def yX11_sum : MethodName := ⟨RX11, "sum", "(III)J"⟩
abbrev cX11_accountAt : ByteArray := prog_1_method_17_code
def yX11_accountAt : MethodName := ⟨RX11, "accountAt", "(I)LSleepOffice$Account;"⟩
abbrev cX11_takesEntry : ByteArray := prog_1_method_18_code
def yX11_takesEntry : MethodName := ⟨RX11, "takesEntry", "(LSleepOffice$Account;I)Z"⟩
abbrev cX11_feed : ByteArray := prog_1_method_19_code
def yX11_feed : MethodName := ⟨RX11, "feed", "(IIIII)I"⟩
abbrev cX11_end : ByteArray := prog_1_method_20_code
def yX11_end : MethodName := ⟨RX11, "end", "(I)Z"⟩
abbrev cX11_reads : ByteArray := prog_1_method_21_code
def yX11_reads : MethodName := ⟨RX11, "reads", "(I)I"⟩
abbrev cX11_fault : ByteArray := prog_1_method_22_code
def yX11_fault : MethodName := ⟨RX11, "fault", "(I)I"⟩
abbrev cX11_told : ByteArray := prog_1_method_23_code
def yX11_told : MethodName := ⟨RX11, "told", "(II)I"⟩
abbrev cX11_putBytes : ByteArray := prog_1_method_24_code
def yX11_putBytes : MethodName := ⟨RX11, "putBytes", "(I)V"⟩
abbrev cX11_lawOf : ByteArray := prog_1_method_25_code
def yX11_lawOf : MethodName := ⟨RX11, "lawOf", "(I)LSleepOffice$Law;"⟩
abbrev cX11_sleep : ByteArray := prog_1_method_26_code
def yX11_sleep : MethodName := ⟨RX11, "sleep", "(III)I"⟩
abbrev cX11_report : ByteArray := prog_1_method_27_code
def yX11_report : MethodName := ⟨RX11, "report", "(I)I"⟩
abbrev cX11_held : ByteArray := prog_1_method_28_code
def yX11_held : MethodName := ⟨RX11, "held", "(II)J"⟩
abbrev cX11_owedOn : ByteArray := prog_1_method_29_code
def yX11_owedOn : MethodName := ⟨RX11, "owedOn", "(LSleepOffice$Account;I)I"⟩
abbrev cX11_sleepDay : ByteArray := prog_1_method_30_code
def yX11_sleepDay : MethodName := ⟨RX11, "sleepDay", "(LSleepOffice$Account;I)I"⟩
abbrev cX11_hold : ByteArray := prog_1_method_31_code
def yX11_hold : MethodName := ⟨RX11, "hold", "(LSleepOffice$Account;)V"⟩
abbrev cX11_interestOf : ByteArray := prog_1_method_32_code
def yX11_interestOf : MethodName := ⟨RX11, "interestOf", "(LSleepOffice$Account;)J"⟩
abbrev cX11_paidOf : ByteArray := prog_1_method_33_code
def yX11_paidOf : MethodName := ⟨RX11, "paidOf", "(LSleepOffice$Account;)J"⟩
abbrev cX11_points : ByteArray := prog_1_method_34_code
def yX11_points : MethodName := ⟨RX11, "points", "(II)I"⟩
abbrev cX11_join : ByteArray := prog_1_method_35_code
def yX11_join : MethodName := ⟨RX11, "join", "(II)I"⟩
abbrev cX11_joined : ByteArray := prog_1_method_36_code
def yX11_joined : MethodName := ⟨RX11, "joined", "(III)I"⟩
abbrev cX11_gather : ByteArray := prog_1_method_37_code
def yX11_gather : MethodName := ⟨RX11, "gather", "(I)Z"⟩
abbrev cX11_heirs : ByteArray := prog_1_method_38_code
def yX11_heirs : MethodName := ⟨RX11, "heirs", "(I)I"⟩
abbrev cX11_share : ByteArray := prog_1_method_39_code
def yX11_share : MethodName := ⟨RX11, "share", "(III)J"⟩
abbrev cX11_countLines : ByteArray := prog_1_method_40_code
def yX11_countLines : MethodName := ⟨RX11, "countLines", "()V"⟩
abbrev cX11_partsFor : ByteArray := prog_1_method_41_code
def yX11_partsFor : MethodName := ⟨RX11, "partsFor", "(LSleepOffice$Person;LSleepOffice$Person;)I"⟩
abbrev cX11_countHeirs : ByteArray := prog_1_method_42_code
def yX11_countHeirs : MethodName := ⟨RX11, "countHeirs", "(LSleepOffice$Person;)I"⟩
abbrev cX11_claim : ByteArray := prog_1_method_43_code
def yX11_claim : MethodName := ⟨RX11, "claim", "(IIII)I"⟩
abbrev cX11_claimOf : ByteArray := prog_1_method_44_code
def yX11_claimOf : MethodName := ⟨RX11, "claimOf", "(II)J"⟩
abbrev cX11_pay : ByteArray := prog_1_method_45_code
def yX11_pay : MethodName := ⟨RX11, "pay", "(I)J"⟩
abbrev cX11_back : ByteArray := prog_1_method_46_code
def yX11_back : MethodName := ⟨RX11, "back", "(I)J"⟩
abbrev cX11_claimAt : ByteArray := prog_1_method_47_code
def yX11_claimAt : MethodName := ⟨RX11, "claimAt", "(I)LSleepOffice$Claim;"⟩
abbrev cX11_pointsAsked : ByteArray := prog_1_method_48_code
def yX11_pointsAsked : MethodName := ⟨RX11, "pointsAsked", "(LSleepOffice$Account;)I"⟩
abbrev cX11_partsOf : ByteArray := prog_1_method_49_code
def yX11_partsOf : MethodName := ⟨RX11, "partsOf", "(LSleepOffice$Claim;)I"⟩
abbrev cX11_isGood : ByteArray := prog_1_method_50_code
def yX11_isGood : MethodName := ⟨RX11, "isGood", "(LSleepOffice$Claim;)Z"⟩
abbrev cX11_wasPaidBefore : ByteArray := prog_1_method_51_code
def yX11_wasPaidBefore : MethodName := ⟨RX11, "wasPaidBefore", "(LSleepOffice$Claim;)Z"⟩
abbrev cX11_figure : ByteArray := prog_1_method_52_code
def yX11_figure : MethodName := ⟨RX11, "figure", "(III)Z"⟩
abbrev cX11_costs : ByteArray := prog_1_method_53_code
def yX11_costs : MethodName := ⟨RX11, "costs", "(II)Z"⟩
abbrev cX11_audit : ByteArray := prog_1_method_54_code
def yX11_audit : MethodName := ⟨RX11, "audit", "(II)I"⟩
abbrev cX11_looks : ByteArray := prog_1_method_55_code
def yX11_looks : MethodName := ⟨RX11, "looks", "(IIII)I"⟩
abbrev cX11_spanEnd : ByteArray := prog_1_method_56_code
def yX11_spanEnd : MethodName := ⟨RX11, "spanEnd", "(LSleepOffice$Firm;Z)I"⟩
abbrev cX11_look : ByteArray := prog_1_method_57_code
def yX11_look : MethodName := ⟨RX11, "look", "(I)J"⟩
abbrev cX11_countHeld : ByteArray := prog_1_method_58_code
def yX11_countHeld : MethodName := ⟨RX11, "countHeld", "()I"⟩
abbrev cX11_sumHeld : ByteArray := prog_1_method_59_code
def yX11_sumHeld : MethodName := ⟨RX11, "sumHeld", "()J"⟩
abbrev cX11_sumPaid : ByteArray := prog_1_method_60_code
def yX11_sumPaid : MethodName := ⟨RX11, "sumPaid", "()J"⟩
abbrev cX11_isWithin : ByteArray := prog_1_method_61_code
def yX11_isWithin : MethodName := ⟨RX11, "isWithin", "(II)Z"⟩
abbrev cX11_isPast : ByteArray := prog_1_method_62_code
def yX11_isPast : MethodName := ⟨RX11, "isPast", "(I)Z"⟩
abbrev cX11_isHome : ByteArray := prog_1_method_63_code
def yX11_isHome : MethodName := ⟨RX11, "isHome", "(I)Z"⟩
def RX12 : String := "SleepOfficeModel"
def TX12 : u_T := fun k => match k with
  | 0 => ("SleepOfficeModel", "now", "I", false)
  | 1 => ("SleepOfficeModel", "firms", "I", false)
  | 2 => ("SleepOfficeModel", "persons", "I", false)
  | 3 => ("SleepOfficeModel", "accounts", "I", false)
  | 4 => ("SleepOfficeModel", "acts", "I", false)
  | 5 => ("SleepOfficeModel", "firmState", "[I", true)
  | 6 => ("SleepOfficeModel", "mergedInto", "[I", true)
  | 7 => ("SleepOfficeModel", "mergedOn", "[I", true)
  | 8 => ("SleepOfficeModel", "name", "[I", true)
  | 9 => ("SleepOfficeModel", "born", "[I", true)
  | 10 => ("SleepOfficeModel", "home", "[I", true)
  | 11 => ("SleepOfficeModel", "mark", "[I", true)
  | 12 => ("SleepOfficeModel", "parent", "[I", true)
  | 13 => ("SleepOfficeModel", "died", "[I", true)
  | 14 => ("SleepOfficeModel", "accountFirm", "[I", true)
  | 15 => ("SleepOfficeModel", "accountKind", "[I", true)
  | 16 => ("SleepOfficeModel", "owner", "[I", true)
  | 17 => ("SleepOfficeModel", "began", "[I", true)
  | 18 => ("SleepOfficeModel", "actOf", "[I", true)
  | 19 => ("SleepOfficeModel", "actSort", "[I", true)
  | 20 => ("SleepOfficeModel", "actOn", "[I", true)
  | 21 => ("SleepOfficeModel", "actAmount", "[I", true)
  | 22 => ("SleepOfficeModel", "actBy", "[I", true)
  | 23 => ("SleepOfficeModel", "actTold", "[I", true)
  | 24 => ("SleepOfficeModel", "sleepYears", "[I", true)
  | 25 => ("SleepOfficeModel", "counting", "[I", true)
  | 26 => ("SleepOfficeModel", "letter", "[I", true)
  | 27 => ("SleepOfficeModel", "fee", "[I", true)
  | 28 => ("SleepOfficeModel", "interestBy", "[I", true)
  | 29 => ("SleepOfficeModel", "interestFor", "[I", true)
  | 30 => ("SleepOfficeModel", "proofs", "[I", true)
  | 31 => ("SleepOfficeModel", "from", "[I", true)
  | 32 => ("SleepOfficeModel", "when", "[I", true)
  | 33 => ("SleepOfficeModel", "step", "[I", true)
  | 34 => ("SleepOfficeModel", "freshSort", "[I", true)
  | 35 => ("SleepOfficeModel", "freshA", "[I", true)
  | 36 => ("SleepOfficeModel", "freshB", "[I", true)
  | 37 => ("SleepOfficeModel", "freshFrom", "[I", true)
  | 38 => ("SleepOfficeModel", "freshWhen", "[I", true)
  | 39 => ("SleepOfficeModel", "fresh", "[I", true)
  | 40 => ("SleepOfficeModel", "tape", "[I", true)
  | 41 => ("SleepOfficeModel", "pile", "[I", true)
  | 42 => ("SleepOfficeModel", "freshLines", "I", false)
  | 43 => ("SleepOfficeModel", "freshSteps", "I", false)
  | 44 => ("SleepOfficeModel", "taped", "I", false)
  | 45 => ("SleepOfficeModel", "at", "I", false)
  | 46 => ("SleepOfficeModel", "token", "I", false)
  | 47 => ("SleepOfficeModel", "tokenAt", "I", false)
  | 48 => ("SleepOfficeModel", "value", "I", false)
  | 49 => ("SleepOfficeModel", "wrong", "I", false)
  | 50 => ("SleepOfficeModel", "wrongAt", "I", false)
  | 51 => ("SleepOfficeModel", "faultKind", "I", false)
  | 52 => ("SleepOfficeModel", "depth", "I", false)
  | 53 => ("SleepOfficeModel", "number", "I", false)
  | 54 => ("SleepOfficeModel", "faultPlace", "I", false)
  | 55 => ("SleepOfficeModel", "facts", "[I", true)
  | 56 => ("SleepOfficeModel", "heldBy", "[I", true)
  | 57 => ("SleepOfficeModel", "heldOn", "[I", true)
  | 58 => ("SleepOfficeModel", "late", "[I", true)
  | 59 => ("SleepOfficeModel", "held", "[J", true)
  | 60 => ("SleepOfficeModel", "inSet", "[I", true)
  | 61 => ("SleepOfficeModel", "group", "[I", true)
  | 62 => ("SleepOfficeModel", "together", "[I", true)
  | 63 => ("SleepOfficeModel", "setMany", "I", false)
  | 64 => ("SleepOfficeModel", "bestWorth", "I", false)
  | 65 => ("SleepOfficeModel", "bestMany", "I", false)
  | 66 => ("SleepOfficeModel", "hasLine", "[Z", true)
  | 67 => ("SleepOfficeModel", "above", "[J", true)
  | 68 => ("SleepOfficeModel", "below", "[J", true)
  | 69 => ("SleepOfficeModel", "claims", "I", false)
  | 70 => ("SleepOfficeModel", "claimBy", "[I", true)
  | 71 => ("SleepOfficeModel", "claimOn", "[I", true)
  | 72 => ("SleepOfficeModel", "claimPoints", "[I", true)
  | 73 => ("SleepOfficeModel", "claimFee", "[I", true)
  | 74 => ("SleepOfficeModel", "claimState", "[I", true)
  | 75 => ("SleepOfficeModel", "paid", "[J", true)
  | 76 => ("SleepOfficeModel", "toFinder", "[J", true)
  | 77 => ("SleepOfficeModel", "figures", "[I", true)
  | 78 => ("SleepOfficeModel", "cost", "[I", true)
  | 79 => ("SleepOfficeModel", "most", "[I", true)
  | _ => ("SleepOfficeModel", "mostSet", "[I", true)
def tyX12 : Nat → FieldType := fun k => match k with
  | 0 => .int
  | 1 => .int
  | 2 => .int
  | 3 => .int
  | 4 => .int
  | 5 => .array .int
  | 6 => .array .int
  | 7 => .array .int
  | 8 => .array .int
  | 9 => .array .int
  | 10 => .array .int
  | 11 => .array .int
  | 12 => .array .int
  | 13 => .array .int
  | 14 => .array .int
  | 15 => .array .int
  | 16 => .array .int
  | 17 => .array .int
  | 18 => .array .int
  | 19 => .array .int
  | 20 => .array .int
  | 21 => .array .int
  | 22 => .array .int
  | 23 => .array .int
  | 24 => .array .int
  | 25 => .array .int
  | 26 => .array .int
  | 27 => .array .int
  | 28 => .array .int
  | 29 => .array .int
  | 30 => .array .int
  | 31 => .array .int
  | 32 => .array .int
  | 33 => .array .int
  | 34 => .array .int
  | 35 => .array .int
  | 36 => .array .int
  | 37 => .array .int
  | 38 => .array .int
  | 39 => .array .int
  | 40 => .array .int
  | 41 => .array .int
  | 42 => .int
  | 43 => .int
  | 44 => .int
  | 45 => .int
  | 46 => .int
  | 47 => .int
  | 48 => .int
  | 49 => .int
  | 50 => .int
  | 51 => .int
  | 52 => .int
  | 53 => .int
  | 54 => .int
  | 55 => .array .int
  | 56 => .array .int
  | 57 => .array .int
  | 58 => .array .int
  | 59 => .array .long
  | 60 => .array .int
  | 61 => .array .int
  | 62 => .array .int
  | 63 => .int
  | 64 => .int
  | 65 => .int
  | 66 => .array .boolean
  | 67 => .array .long
  | 68 => .array .long
  | 69 => .int
  | 70 => .array .int
  | 71 => .array .int
  | 72 => .array .int
  | 73 => .array .int
  | 74 => .array .int
  | 75 => .array .long
  | 76 => .array .long
  | 77 => .array .int
  | 78 => .array .int
  | 79 => .array .int
  | _ => .array .int
abbrev wsX120 : List Cond := u_ws RX12 TX12 81
theorem nmX12 : ∀ a, a < 81 → ∀ b, b < 81 → a ≠ b → (TX12 a).2.1 ≠ (TX12 b).2.1 := by decide +kernel
theorem tyX12_ok : ∀ k, k < 81 → parseFieldDescriptor (TX12 k).2.2.1 = some (tyX12 k) := by decide +kernel
abbrev cX12_init : ByteArray := prog_14_method_1_code
def yX12_init : MethodName := ⟨RX12, "<init>", "()V"⟩
abbrev cX12_isIn : ByteArray := prog_14_method_2_code
def yX12_isIn : MethodName := ⟨RX12, "isIn", "(III)Z"⟩
abbrev cX12_isPast : ByteArray := prog_14_method_3_code
def yX12_isPast : MethodName := ⟨RX12, "isPast", "(I)Z"⟩
abbrev cX12_isState : ByteArray := prog_14_method_4_code
def yX12_isState : MethodName := ⟨RX12, "isState", "(I)Z"⟩
abbrev cX12_isFirm : ByteArray := prog_14_method_5_code
def yX12_isFirm : MethodName := ⟨RX12, "isFirm", "(I)Z"⟩
abbrev cX12_isPerson : ByteArray := prog_14_method_6_code
def yX12_isPerson : MethodName := ⟨RX12, "isPerson", "(I)Z"⟩
abbrev cX12_isAccount : ByteArray := prog_14_method_7_code
def yX12_isAccount : MethodName := ⟨RX12, "isAccount", "(I)Z"⟩
abbrev cX12_days : ByteArray := prog_14_method_8_code
def yX12_days : MethodName := ⟨RX12, "days", "(I)I"⟩
abbrev cX12_firm : ByteArray := prog_14_method_9_code
def yX12_firm : MethodName := ⟨RX12, "firm", "(I)I"⟩
abbrev cX12_isMerged : ByteArray := prog_14_method_10_code
def yX12_isMerged : MethodName := ⟨RX12, "isMerged", "(II)Z"⟩
abbrev cX12_merge : ByteArray := prog_14_method_11_code
def yX12_merge : MethodName := ⟨RX12, "merge", "(III)Z"⟩
abbrev cX12_firmOf : ByteArray := prog_14_method_12_code
def yX12_firmOf : MethodName := ⟨RX12, "firmOf", "(II)I"⟩
abbrev cX12_firmOn : ByteArray := prog_14_method_13_code
def yX12_firmOn : MethodName := ⟨RX12, "firmOn", "(II)I"⟩
abbrev cX12_person : ByteArray := prog_14_method_14_code
def yX12_person : MethodName := ⟨RX12, "person", "(IIIII)I"⟩
abbrev cX12_dies : ByteArray := prog_14_method_15_code
def yX12_dies : MethodName := ⟨RX12, "dies", "(II)Z"⟩
abbrev cX12_moves : ByteArray := prog_14_method_16_code
def yX12_moves : MethodName := ⟨RX12, "moves", "(II)Z"⟩
abbrev cX12_tells : ByteArray := prog_14_method_17_code
def yX12_tells : MethodName := ⟨RX12, "tells", "(IIIII)V"⟩
abbrev cX12_account : ByteArray := prog_14_method_18_code
def yX12_account : MethodName := ⟨RX12, "account", "(IIII)I"⟩
abbrev cX12_act : ByteArray := prog_14_method_19_code
def yX12_act : MethodName := ⟨RX12, "act", "(IIII)Z"⟩
abbrev cX12_grow : ByteArray := prog_14_method_20_code
def yX12_grow : MethodName := ⟨RX12, "grow", "(IIII)Z"⟩
abbrev cX12_nextDay : ByteArray := prog_14_method_21_code
def yX12_nextDay : MethodName := ⟨RX12, "nextDay", "(III)I"⟩
abbrev cX12_sumOf : ByteArray := prog_14_method_22_code
def yX12_sumOf : MethodName := ⟨RX12, "sumOf", "(III)J"⟩
abbrev cX12_sumNow : ByteArray := prog_14_method_23_code
def yX12_sumNow : MethodName := ⟨RX12, "sumNow", "(III)J"⟩
abbrev cX12_sum : ByteArray := prog_14_method_24_code
def yX12_sum : MethodName := ⟨RX12, "sum", "(III)J"⟩
abbrev cX12_clears : ByteArray := prog_14_method_25_code
def yX12_clears : MethodName := ⟨RX12, "clears", "(I)V"⟩
abbrev cX12_feed : ByteArray := prog_14_method_26_code
def yX12_feed : MethodName := ⟨RX12, "feed", "(IIIII)I"⟩
abbrev cX12_end : ByteArray := prog_14_method_27_code
def yX12_end : MethodName := ⟨RX12, "end", "(I)Z"⟩
abbrev cX12_see : ByteArray := prog_14_method_28_code
def yX12_see : MethodName := ⟨RX12, "see", "(I)I"⟩
abbrev cX12_isLetter : ByteArray := prog_14_method_29_code
def yX12_isLetter : MethodName := ⟨RX12, "isLetter", "(I)Z"⟩
abbrev cX12_isDigit : ByteArray := prog_14_method_30_code
def yX12_isDigit : MethodName := ⟨RX12, "isDigit", "(I)Z"⟩
abbrev cX12_is : ByteArray := prog_14_method_31_code
def yX12_is : MethodName := ⟨RX12, "is", "(Ljava/lang/String;)Z"⟩
abbrev cX12_word : ByteArray := prog_14_method_32_code
def yX12_word : MethodName := ⟨RX12, "word", "()I"⟩
abbrev cX12_next0 : ByteArray := prog_14_method_33_code
def yX12_next0 : MethodName := ⟨RX12, "next0", "()V"⟩
abbrev cX12_bad : ByteArray := prog_14_method_34_code
def yX12_bad : MethodName := ⟨RX12, "bad", "(I)Z"⟩
abbrev cX12_need : ByteArray := prog_14_method_35_code
def yX12_need : MethodName := ⟨RX12, "need", "(I)Z"⟩
abbrev cX12_aNumber : ByteArray := prog_14_method_36_code
def yX12_aNumber : MethodName := ⟨RX12, "aNumber", "(I)Z"⟩
abbrev cX12_lay : ByteArray := prog_14_method_37_code
def yX12_lay : MethodName := ⟨RX12, "lay", "(II)V"⟩
abbrev cX12_opens : ByteArray := prog_14_method_38_code
def yX12_opens : MethodName := ⟨RX12, "opens", "()Z"⟩
abbrev cX12_sumUp : ByteArray := prog_14_method_39_code
def yX12_sumUp : MethodName := ⟨RX12, "sumUp", "()Z"⟩
abbrev cX12_product : ByteArray := prog_14_method_40_code
def yX12_product : MethodName := ⟨RX12, "product", "()Z"⟩
abbrev cX12_unit : ByteArray := prog_14_method_41_code
def yX12_unit : MethodName := ⟨RX12, "unit", "()Z"⟩
abbrev cX12_any : ByteArray := prog_14_method_42_code
def yX12_any : MethodName := ⟨RX12, "any", "()Z"⟩
abbrev cX12_all : ByteArray := prog_14_method_43_code
def yX12_all : MethodName := ⟨RX12, "all", "()Z"⟩
abbrev cX12_one : ByteArray := prog_14_method_44_code
def yX12_one : MethodName := ⟨RX12, "one", "()Z"⟩
abbrev cX12_two : ByteArray := prog_14_method_45_code
def yX12_two : MethodName := ⟨RX12, "two", "(III)Z"⟩
abbrev cX12_inner : ByteArray := prog_14_method_46_code
def yX12_inner : MethodName := ⟨RX12, "inner", "(I)Z"⟩
abbrev cX12_aLine : ByteArray := prog_14_method_47_code
def yX12_aLine : MethodName := ⟨RX12, "aLine", "()Z"⟩
abbrev cX12_reads : ByteArray := prog_14_method_48_code
def yX12_reads : MethodName := ⟨RX12, "reads", "(I)I"⟩
abbrev cX12_takes : ByteArray := prog_14_method_49_code
def yX12_takes : MethodName := ⟨RX12, "takes", "(II)V"⟩
abbrev cX12_fault : ByteArray := prog_14_method_50_code
def yX12_fault : MethodName := ⟨RX12, "fault", "(I)I"⟩
abbrev cX12_told : ByteArray := prog_14_method_51_code
def yX12_told : MethodName := ⟨RX12, "told", "(II)I"⟩
abbrev cX12_both : ByteArray := prog_14_method_52_code
def yX12_both : MethodName := ⟨RX12, "both", "(III)I"⟩
abbrev cX12_comesTo : ByteArray := prog_14_method_53_code
def yX12_comesTo : MethodName := ⟨RX12, "comesTo", "(III)I"⟩
abbrev cX12_owedTo : ByteArray := prog_14_method_54_code
def yX12_owedTo : MethodName := ⟨RX12, "owedTo", "(II)I"⟩
abbrev cX12_sleepOf : ByteArray := prog_14_method_55_code
def yX12_sleepOf : MethodName := ⟨RX12, "sleepOf", "(II)I"⟩
abbrev cX12_sleep : ByteArray := prog_14_method_56_code
def yX12_sleep : MethodName := ⟨RX12, "sleep", "(III)I"⟩
abbrev cX12_report : ByteArray := prog_14_method_57_code
def yX12_report : MethodName := ⟨RX12, "report", "(I)I"⟩
abbrev cX12_isHeld : ByteArray := prog_14_method_58_code
def yX12_isHeld : MethodName := ⟨RX12, "isHeld", "(I)Z"⟩
abbrev cX12_interest : ByteArray := prog_14_method_59_code
def yX12_interest : MethodName := ⟨RX12, "interest", "(I)J"⟩
abbrev cX12_paidOf : ByteArray := prog_14_method_60_code
def yX12_paidOf : MethodName := ⟨RX12, "paidOf", "(I)J"⟩
abbrev cX12_held : ByteArray := prog_14_method_61_code
def yX12_held : MethodName := ⟨RX12, "held", "(II)J"⟩
abbrev cX12_isUnlike : ByteArray := prog_14_method_62_code
def yX12_isUnlike : MethodName := ⟨RX12, "isUnlike", "(II)Z"⟩
abbrev cX12_isBarred : ByteArray := prog_14_method_63_code
def yX12_isBarred : MethodName := ⟨RX12, "isBarred", "(II)Z"⟩
abbrev cX12_isLike : ByteArray := prog_14_method_64_code
def yX12_isLike : MethodName := ⟨RX12, "isLike", "(II)Z"⟩
abbrev cX12_pointsOf : ByteArray := prog_14_method_65_code
def yX12_pointsOf : MethodName := ⟨RX12, "pointsOf", "(II)I"⟩
abbrev cX12_points : ByteArray := prog_14_method_66_code
def yX12_points : MethodName := ⟨RX12, "points", "(II)I"⟩
abbrev cX12_isSet : ByteArray := prog_14_method_67_code
def yX12_isSet : MethodName := ⟨RX12, "isSet", "(I)Z"⟩
abbrev cX12_joins : ByteArray := prog_14_method_68_code
def yX12_joins : MethodName := ⟨RX12, "joins", "(III)V"⟩
abbrev cX12_counts : ByteArray := prog_14_method_69_code
def yX12_counts : MethodName := ⟨RX12, "counts", "(I)V"⟩
abbrev cX12_joinAll : ByteArray := prog_14_method_70_code
def yX12_joinAll : MethodName := ⟨RX12, "joinAll", "()V"⟩
abbrev cX12_join : ByteArray := prog_14_method_71_code
def yX12_join : MethodName := ⟨RX12, "join", "(II)I"⟩
abbrev cX12_joined : ByteArray := prog_14_method_72_code
def yX12_joined : MethodName := ⟨RX12, "joined", "(III)I"⟩
abbrev cX12_common : ByteArray := prog_14_method_73_code
def yX12_common : MethodName := ⟨RX12, "common", "(JJ)J"⟩
abbrev cX12_linesOf : ByteArray := prog_14_method_74_code
def yX12_linesOf : MethodName := ⟨RX12, "linesOf", "(I)I"⟩
abbrev cX12_shares : ByteArray := prog_14_method_75_code
def yX12_shares : MethodName := ⟨RX12, "shares", "(I)V"⟩
abbrev cX12_heirsOf : ByteArray := prog_14_method_76_code
def yX12_heirsOf : MethodName := ⟨RX12, "heirsOf", "(I)I"⟩
abbrev cX12_heirs : ByteArray := prog_14_method_77_code
def yX12_heirs : MethodName := ⟨RX12, "heirs", "(I)I"⟩
abbrev cX12_share : ByteArray := prog_14_method_78_code
def yX12_share : MethodName := ⟨RX12, "share", "(III)J"⟩
abbrev cX12_claim : ByteArray := prog_14_method_79_code
def yX12_claim : MethodName := ⟨RX12, "claim", "(IIII)I"⟩
abbrev cX12_asked : ByteArray := prog_14_method_80_code
def yX12_asked : MethodName := ⟨RX12, "asked", "(I)I"⟩
abbrev cX12_isGood : ByteArray := prog_14_method_81_code
def yX12_isGood : MethodName := ⟨RX12, "isGood", "(I)Z"⟩
abbrev cX12_claimOf : ByteArray := prog_14_method_82_code
def yX12_claimOf : MethodName := ⟨RX12, "claimOf", "(II)J"⟩
abbrev cX12_pay : ByteArray := prog_14_method_83_code
def yX12_pay : MethodName := ⟨RX12, "pay", "(I)J"⟩
abbrev cX12_back : ByteArray := prog_14_method_84_code
def yX12_back : MethodName := ⟨RX12, "back", "(I)J"⟩
abbrev cX12_figure : ByteArray := prog_14_method_85_code
def yX12_figure : MethodName := ⟨RX12, "figure", "(III)Z"⟩
abbrev cX12_costs : ByteArray := prog_14_method_86_code
def yX12_costs : MethodName := ⟨RX12, "costs", "(II)Z"⟩
abbrev cX12_bound : ByteArray := prog_14_method_87_code
def yX12_bound : MethodName := ⟨RX12, "bound", "(IIZ)I"⟩
abbrev cX12_audit : ByteArray := prog_14_method_88_code
def yX12_audit : MethodName := ⟨RX12, "audit", "(II)I"⟩
abbrev cX12_looks : ByteArray := prog_14_method_89_code
def yX12_looks : MethodName := ⟨RX12, "looks", "(IIII)I"⟩
abbrev cX12_look : ByteArray := prog_14_method_90_code
def yX12_look : MethodName := ⟨RX12, "look", "(I)J"⟩
def RJx145de : String := "java/io/Serializable"
def TJx145de : u_T := fun k => match k with
  | _ => ("", "", "", false)
def tyJx145de : Nat → FieldType := fun k => match k with
  | _ => .int
abbrev wsJx145de0 : List Cond := u_ws RJx145de TJx145de 0
theorem nmJx145de : ∀ a, a < 0 → ∀ b, b < 0 → a ≠ b → (TJx145de a).2.1 ≠ (TJx145de b).2.1 := by decide +kernel
theorem tyJx145de_ok : ∀ k, k < 0 → parseFieldDescriptor (TJx145de k).2.2.1 = some (tyJx145de k) := by decide +kernel
def RJx8e188 : String := "java/lang/Cloneable"
def TJx8e188 : u_T := fun k => match k with
  | _ => ("", "", "", false)
def tyJx8e188 : Nat → FieldType := fun k => match k with
  | _ => .int
abbrev wsJx8e1880 : List Cond := u_ws RJx8e188 TJx8e188 0
theorem nmJx8e188 : ∀ a, a < 0 → ∀ b, b < 0 → a ≠ b → (TJx8e188 a).2.1 ≠ (TJx8e188 b).2.1 := by decide +kernel
theorem tyJx8e188_ok : ∀ k, k < 0 → parseFieldDescriptor (TJx8e188 k).2.2.1 = some (tyJx8e188 k) := by decide +kernel
def RJ6 : String := "java/lang/Integer"
def TJ6 : u_T := fun k => match k with
  | _ => ("", "", "", false)
def tyJ6 : Nat → FieldType := fun k => match k with
  | _ => .int
abbrev wsJ60 : List Cond := u_ws RJ6 TJ6 0
theorem nmJ6 : ∀ a, a < 0 → ∀ b, b < 0 → a ≠ b → (TJ6 a).2.1 ≠ (TJ6 b).2.1 := by decide +kernel
theorem tyJ6_ok : ∀ k, k < 0 → parseFieldDescriptor (TJ6 k).2.2.1 = some (tyJ6 k) := by decide +kernel
abbrev cJ6_bitCount_0f7a4 : ByteArray := prog_17_method_49_code
def yJ6_bitCount_0f7a4 : MethodName := ⟨RJ6, "bitCount", "(I)I"⟩
def RJxab1ab : String := "java/lang/Iterable"
def TJxab1ab : u_T := fun k => match k with
  | _ => ("", "", "", false)
def tyJxab1ab : Nat → FieldType := fun k => match k with
  | _ => .int
abbrev wsJxab1ab0 : List Cond := u_ws RJxab1ab TJxab1ab 0
theorem nmJxab1ab : ∀ a, a < 0 → ∀ b, b < 0 → a ≠ b → (TJxab1ab a).2.1 ≠ (TJxab1ab b).2.1 := by decide +kernel
theorem tyJxab1ab_ok : ∀ k, k < 0 → parseFieldDescriptor (TJxab1ab k).2.2.1 = some (tyJxab1ab k) := by decide +kernel
def RJ9 : String := "java/lang/Math"
def TJ9 : u_T := fun k => match k with
  | _ => ("", "", "", false)
def tyJ9 : Nat → FieldType := fun k => match k with
  | _ => .int
abbrev wsJ90 : List Cond := u_ws RJ9 TJ9 0
theorem nmJ9 : ∀ a, a < 0 → ∀ b, b < 0 → a ≠ b → (TJ9 a).2.1 ≠ (TJ9 b).2.1 := by decide +kernel
theorem tyJ9_ok : ∀ k, k < 0 → parseFieldDescriptor (TJ9 k).2.2.1 = some (tyJ9 k) := by decide +kernel
abbrev cJ9_floorDiv_f86c9 : ByteArray := prog_19_method_49_code
def yJ9_floorDiv_f86c9 : MethodName := ⟨RJ9, "floorDiv", "(JJ)J"⟩
abbrev cJ9_max_7cf53 : ByteArray := prog_19_method_65_code
def yJ9_max_7cf53 : MethodName := ⟨RJ9, "max", "(II)I"⟩
abbrev cJ9_max_f86c9 : ByteArray := prog_19_method_66_code
def yJ9_max_f86c9 : MethodName := ⟨RJ9, "max", "(JJ)J"⟩
abbrev cJ9_min_7cf53 : ByteArray := prog_19_method_69_code
def yJ9_min_7cf53 : MethodName := ⟨RJ9, "min", "(II)I"⟩
abbrev cJ9_min_f86c9 : ByteArray := prog_19_method_70_code
def yJ9_min_f86c9 : MethodName := ⟨RJ9, "min", "(JJ)J"⟩
def RJ0 : String := "java/lang/String"
def TJ0 : u_T := fun k => match k with
  | _ => ("", "", "", false)
def tyJ0 : Nat → FieldType := fun k => match k with
  | _ => .int
abbrev wsJ00 : List Cond := u_ws RJ0 TJ0 0
theorem nmJ0 : ∀ a, a < 0 → ∀ b, b < 0 → a ≠ b → (TJ0 a).2.1 ≠ (TJ0 b).2.1 := by decide +kernel
theorem tyJ0_ok : ∀ k, k < 0 → parseFieldDescriptor (TJ0 k).2.2.1 = some (tyJ0 k) := by decide +kernel
abbrev cJ0_length_8abf5 : ByteArray := prog_20_method_54_code
def yJ0_length_8abf5 : MethodName := ⟨RJ0, "length", "()I"⟩
abbrev cJ0_charAt_5068e : ByteArray := prog_20_method_56_code
def yJ0_charAt_5068e : MethodName := ⟨RJ0, "charAt", "(I)C"⟩
abbrev cJ0_coder_7d493 : ByteArray := prog_20_method_152_code
def yJ0_coder_7d493 : MethodName := ⟨RJ0, "coder", "()B"⟩
abbrev cJ0_isLatin1_aae02 : ByteArray := prog_20_method_154_code
def yJ0_isLatin1_aae02 : MethodName := ⟨RJ0, "isLatin1", "()Z"⟩
abbrev cJ0_checkIndex_df160 : ByteArray := prog_20_method_155_code
def yJ0_checkIndex_df160 : MethodName := ⟨RJ0, "checkIndex", "(II)V"⟩
def RJ1 : String := "java/lang/StringLatin1"
def TJ1 : u_T := fun k => match k with
  | _ => ("", "", "", false)
def tyJ1 : Nat → FieldType := fun k => match k with
  | _ => .int
abbrev wsJ10 : List Cond := u_ws RJ1 TJ1 0
theorem nmJ1 : ∀ a, a < 0 → ∀ b, b < 0 → a ≠ b → (TJ1 a).2.1 ≠ (TJ1 b).2.1 := by decide +kernel
theorem tyJ1_ok : ∀ k, k < 0 → parseFieldDescriptor (TJ1 k).2.2.1 = some (tyJ1 k) := by decide +kernel
abbrev cJ1_charAt_3b067 : ByteArray := prog_21_method_2_code
def yJ1_charAt_3b067 : MethodName := ⟨RJ1, "charAt", "([BI)C"⟩
def RJ2 : String := "java/lang/StringUTF16"
def TJ2 : u_T := fun k => match k with
  | _ => ("", "", "", false)
def tyJ2 : Nat → FieldType := fun k => match k with
  | _ => .int
abbrev wsJ20 : List Cond := u_ws RJ2 TJ2 0
theorem nmJ2 : ∀ a, a < 0 → ∀ b, b < 0 → a ≠ b → (TJ2 a).2.1 ≠ (TJ2 b).2.1 := by decide +kernel
theorem tyJ2_ok : ∀ k, k < 0 → parseFieldDescriptor (TJ2 k).2.2.1 = some (tyJ2 k) := by decide +kernel
abbrev cJ2_getChar_3b067 : ByteArray := prog_22_method_5_code
def yJ2_getChar_3b067 : MethodName := ⟨RJ2, "getChar", "([BI)C"⟩
abbrev cJ2_length_9d52b : ByteArray := prog_22_method_6_code
def yJ2_length_9d52b : MethodName := ⟨RJ2, "length", "([B)I"⟩
abbrev cJ2_charAt_3b067 : ByteArray := prog_22_method_83_code
def yJ2_charAt_3b067 : MethodName := ⟨RJ2, "charAt", "([BI)C"⟩
abbrev cJ2_checkIndex_2214a : ByteArray := prog_22_method_91_code
def yJ2_checkIndex_2214a : MethodName := ⟨RJ2, "checkIndex", "(I[B)V"⟩
def RJ10 : String := "java/lang/System"
def TJ10 : u_T := fun k => match k with
  | _ => ("", "", "", false)
def tyJ10 : Nat → FieldType := fun k => match k with
  | _ => .int
abbrev wsJ100 : List Cond := u_ws RJ10 TJ10 0
theorem nmJ10 : ∀ a, a < 0 → ∀ b, b < 0 → a ≠ b → (TJ10 a).2.1 ≠ (TJ10 b).2.1 := by decide +kernel
theorem tyJ10_ok : ∀ k, k < 0 → parseFieldDescriptor (TJ10 k).2.2.1 = some (tyJ10 k) := by decide +kernel
def RJxa1e45 : String := "java/util/AbstractCollection"
def TJxa1e45 : u_T := fun k => match k with
  | _ => ("", "", "", false)
def tyJxa1e45 : Nat → FieldType := fun k => match k with
  | _ => .int
abbrev wsJxa1e450 : List Cond := u_ws RJxa1e45 TJxa1e45 0
theorem nmJxa1e45 : ∀ a, a < 0 → ∀ b, b < 0 → a ≠ b → (TJxa1e45 a).2.1 ≠ (TJxa1e45 b).2.1 := by decide +kernel
theorem tyJxa1e45_ok : ∀ k, k < 0 → parseFieldDescriptor (TJxa1e45 k).2.2.1 = some (tyJxa1e45 k) := by decide +kernel
abbrev cJxa1e45_init_da8c8 : ByteArray := prog_24_method_1_code
def yJxa1e45_init_da8c8 : MethodName := ⟨RJxa1e45, "<init>", "()V"⟩
def RJxc12de : String := "java/util/AbstractList"
def TJxc12de : u_T := fun k => match k with
  | _ => ("", "", "", false)
def tyJxc12de : Nat → FieldType := fun k => match k with
  | _ => .int
abbrev wsJxc12de0 : List Cond := u_ws RJxc12de TJxc12de 0
theorem nmJxc12de : ∀ a, a < 0 → ∀ b, b < 0 → a ≠ b → (TJxc12de a).2.1 ≠ (TJxc12de b).2.1 := by decide +kernel
theorem tyJxc12de_ok : ∀ k, k < 0 → parseFieldDescriptor (TJxc12de k).2.2.1 = some (tyJxc12de k) := by decide +kernel
abbrev cJxc12de_init_da8c8 : ByteArray := prog_25_method_1_code
def yJxc12de_init_da8c8 : MethodName := ⟨RJxc12de, "<init>", "()V"⟩
def RJx4a65c : String := "java/util/ArrayList"
def TJx4a65c : u_T := fun k => match k with
  | 0 => ("java/util/AbstractList", "modCount", "I", false)
  | 1 => ("java/util/ArrayList", "elementData", "[Ljava/lang/Object;", false)
  | _ => ("java/util/ArrayList", "size", "I", false)
def tyJx4a65c : Nat → FieldType := fun k => match k with
  | 0 => .int
  | 1 => .array (.object "java/lang/Object")
  | _ => .int
abbrev wsJx4a65c0 : List Cond := u_ws RJx4a65c TJx4a65c 3
theorem nmJx4a65c : ∀ a, a < 3 → ∀ b, b < 3 → a ≠ b → (TJx4a65c a).2.1 ≠ (TJx4a65c b).2.1 := by decide +kernel
theorem tyJx4a65c_ok : ∀ k, k < 3 → parseFieldDescriptor (TJx4a65c k).2.2.1 = some (tyJx4a65c k) := by decide +kernel
abbrev cJx4a65c_init_da8c8 : ByteArray := prog_26_method_2_code
def yJx4a65c_init_da8c8 : MethodName := ⟨RJx4a65c, "<init>", "()V"⟩
abbrev cJx4a65c_grow_92f84 : ByteArray := prog_26_method_6_code
def yJx4a65c_grow_92f84 : MethodName := ⟨RJx4a65c, "grow", "(I)[Ljava/lang/Object;"⟩
abbrev cJx4a65c_grow_d5877 : ByteArray := prog_26_method_7_code
def yJx4a65c_grow_d5877 : MethodName := ⟨RJx4a65c, "grow", "()[Ljava/lang/Object;"⟩
abbrev cJx4a65c_size_8abf5 : ByteArray := prog_26_method_8_code
def yJx4a65c_size_8abf5 : MethodName := ⟨RJx4a65c, "size", "()I"⟩
abbrev cJx4a65c_elementData_915e3 : ByteArray := prog_26_method_18_code
def yJx4a65c_elementData_915e3 : MethodName := ⟨RJx4a65c, "elementData", "(I)Ljava/lang/Object;"⟩
abbrev cJx4a65c_get_915e3 : ByteArray := prog_26_method_20_code
def yJx4a65c_get_915e3 : MethodName := ⟨RJx4a65c, "get", "(I)Ljava/lang/Object;"⟩
abbrev cJx4a65c_add_72be8 : ByteArray := prog_26_method_24_code
def yJx4a65c_add_72be8 : MethodName := ⟨RJx4a65c, "add", "(Ljava/lang/Object;[Ljava/lang/Object;I)V"⟩
abbrev cJx4a65c_add_9ea2d : ByteArray := prog_26_method_25_code
def yJx4a65c_add_9ea2d : MethodName := ⟨RJx4a65c, "add", "(Ljava/lang/Object;)Z"⟩
abbrev cJx4a65c_add_7a177 : ByteArray := prog_26_method_26_code
def yJx4a65c_add_7a177 : MethodName := ⟨RJx4a65c, "add", "(ILjava/lang/Object;)V"⟩
abbrev cJx4a65c_rangeCheckForAdd_d00df : ByteArray := prog_26_method_45_code
def yJx4a65c_rangeCheckForAdd_d00df : MethodName := ⟨RJx4a65c, "rangeCheckForAdd", "(I)V"⟩
def RJ7 : String := "java/util/Arrays"
def TJ7 : u_T := fun k => match k with
  | _ => ("", "", "", false)
def tyJ7 : Nat → FieldType := fun k => match k with
  | _ => .int
abbrev wsJ70 : List Cond := u_ws RJ7 TJ7 0
theorem nmJ7 : ∀ a, a < 0 → ∀ b, b < 0 → a ≠ b → (TJ7 a).2.1 ≠ (TJ7 b).2.1 := by decide +kernel
theorem tyJ7_ok : ∀ k, k < 0 → parseFieldDescriptor (TJ7 k).2.2.1 = some (tyJ7 k) := by decide +kernel
abbrev cJ7_copyOf_1904c : ByteArray := prog_27_method_119_code
def yJ7_copyOf_1904c : MethodName := ⟨RJ7, "copyOf", "([Ljava/lang/Object;I)[Ljava/lang/Object;"⟩
abbrev cJ7_copyOf_6403c : ByteArray := prog_27_method_120_code
def yJ7_copyOf_6403c : MethodName := ⟨RJ7, "copyOf", "([Ljava/lang/Object;ILjava/lang/Class;)[Ljava/lang/Object;"⟩
def RJx5ef63 : String := "java/util/Collection"
def TJx5ef63 : u_T := fun k => match k with
  | _ => ("", "", "", false)
def tyJx5ef63 : Nat → FieldType := fun k => match k with
  | _ => .int
abbrev wsJx5ef630 : List Cond := u_ws RJx5ef63 TJx5ef63 0
theorem nmJx5ef63 : ∀ a, a < 0 → ∀ b, b < 0 → a ≠ b → (TJx5ef63 a).2.1 ≠ (TJx5ef63 b).2.1 := by decide +kernel
theorem tyJx5ef63_ok : ∀ k, k < 0 → parseFieldDescriptor (TJx5ef63 k).2.2.1 = some (tyJx5ef63 k) := by decide +kernel
def RJxbd725 : String := "java/util/List"
def TJxbd725 : u_T := fun k => match k with
  | _ => ("", "", "", false)
def tyJxbd725 : Nat → FieldType := fun k => match k with
  | _ => .int
abbrev wsJxbd7250 : List Cond := u_ws RJxbd725 TJxbd725 0
theorem nmJxbd725 : ∀ a, a < 0 → ∀ b, b < 0 → a ≠ b → (TJxbd725 a).2.1 ≠ (TJxbd725 b).2.1 := by decide +kernel
theorem tyJxbd725_ok : ∀ k, k < 0 → parseFieldDescriptor (TJxbd725 k).2.2.1 = some (tyJxbd725 k) := by decide +kernel
def RJ15 : String := "java/util/Objects"
def TJ15 : u_T := fun k => match k with
  | _ => ("", "", "", false)
def tyJ15 : Nat → FieldType := fun k => match k with
  | _ => .int
abbrev wsJ150 : List Cond := u_ws RJ15 TJ15 0
theorem nmJ15 : ∀ a, a < 0 → ∀ b, b < 0 → a ≠ b → (TJ15 a).2.1 ≠ (TJ15 b).2.1 := by decide +kernel
theorem tyJ15_ok : ∀ k, k < 0 → parseFieldDescriptor (TJ15 k).2.2.1 = some (tyJ15 k) := by decide +kernel
abbrev cJ15_checkIndex_7cf53 : ByteArray := prog_30_method_17_code
def yJ15_checkIndex_7cf53 : MethodName := ⟨RJ15, "checkIndex", "(II)I"⟩
def RJxf0a74 : String := "java/util/RandomAccess"
def TJxf0a74 : u_T := fun k => match k with
  | _ => ("", "", "", false)
def tyJxf0a74 : Nat → FieldType := fun k => match k with
  | _ => .int
abbrev wsJxf0a740 : List Cond := u_ws RJxf0a74 TJxf0a74 0
theorem nmJxf0a74 : ∀ a, a < 0 → ∀ b, b < 0 → a ≠ b → (TJxf0a74 a).2.1 ≠ (TJxf0a74 b).2.1 := by decide +kernel
theorem tyJxf0a74_ok : ∀ k, k < 0 → parseFieldDescriptor (TJxf0a74 k).2.2.1 = some (tyJxf0a74 k) := by decide +kernel
def RJxa66e6 : String := "java/util/SequencedCollection"
def TJxa66e6 : u_T := fun k => match k with
  | _ => ("", "", "", false)
def tyJxa66e6 : Nat → FieldType := fun k => match k with
  | _ => .int
abbrev wsJxa66e60 : List Cond := u_ws RJxa66e6 TJxa66e6 0
theorem nmJxa66e6 : ∀ a, a < 0 → ∀ b, b < 0 → a ≠ b → (TJxa66e6 a).2.1 ≠ (TJxa66e6 b).2.1 := by decide +kernel
theorem tyJxa66e6_ok : ∀ k, k < 0 → parseFieldDescriptor (TJxa66e6 k).2.2.1 = some (tyJxa66e6 k) := by decide +kernel
def RJ8 : String := "jdk/internal/util/ArraysSupport"
def TJ8 : u_T := fun k => match k with
  | _ => ("", "", "", false)
def tyJ8 : Nat → FieldType := fun k => match k with
  | _ => .int
abbrev wsJ80 : List Cond := u_ws RJ8 TJ8 0
theorem nmJ8 : ∀ a, a < 0 → ∀ b, b < 0 → a ≠ b → (TJ8 a).2.1 ≠ (TJ8 b).2.1 := by decide +kernel
theorem tyJ8_ok : ∀ k, k < 0 → parseFieldDescriptor (TJ8 k).2.2.1 = some (tyJ8 k) := by decide +kernel
abbrev cJ8_newLength_cabcc : ByteArray := prog_33_method_27_code
def yJ8_newLength_cabcc : MethodName := ⟨RJ8, "newLength", "(III)I"⟩
abbrev cJ8_hugeLength_7cf53 : ByteArray := prog_33_method_28_code
def yJ8_hugeLength_7cf53 : MethodName := ⟨RJ8, "hugeLength", "(II)I"⟩
def RJ3 : String := "jdk/internal/util/Preconditions"
def TJ3 : u_T := fun k => match k with
  | _ => ("", "", "", false)
def tyJ3 : Nat → FieldType := fun k => match k with
  | _ => .int
abbrev wsJ30 : List Cond := u_ws RJ3 TJ3 0
theorem nmJ3 : ∀ a, a < 0 → ∀ b, b < 0 → a ≠ b → (TJ3 a).2.1 ≠ (TJ3 b).2.1 := by decide +kernel
theorem tyJ3_ok : ∀ k, k < 0 → parseFieldDescriptor (TJ3 k).2.2.1 = some (tyJ3 k) := by decide +kernel
abbrev cJ3_checkIndex_8e157 : ByteArray := prog_34_method_11_code
def yJ3_checkIndex_8e157 : MethodName := ⟨RJ3, "checkIndex", "(IILjava/util/function/BiFunction;)I"⟩
def RL : String := "SleepOfficeLaw"
abbrev cL_law : ByteArray := code
def yL_law : MethodName := ⟨RL, "law", "([I)Z"⟩
abbrev vwCl : List vw_C := [(RJx4a65c, TJx4a65c, 3), (RX0, TX0, 11), (RX1, TX1, 5), (RX2, TX2, 7), (RX3, TX3, 6), (RX4, TX4, 5), (RX5, TX5, 5), (RX6, TX6, 9), (RX7, TX7, 9), (RX8, TX8, 8), (RX9, TX9, 7), (RX10, TX10, 3), (RX11, TX11, 16), (RX12, TX12, 81)]
