section
-- ===== PART A: goes FIRST, ahead of the names: the tables' words, and 'selects' of the private methods out of them =====
/-- a private method of a class that the tables say can be made, by its rows of tables_1 -/
def lw_okq (q : MethodName × Nat) : Prop := (q.1.cls ≠ "java/lang/invoke/MethodHandle" ∧ q.1.cls ≠ "java/lang/invoke/VarHandle") ∧ Cond.instantiable q.1.cls q.2 ∈ tables_1 ∧ Cond.privateMethod q.1 ∈ tables_1 ∧ Cond.instanceMethod q.1 ∈ tables_1
theorem lw_p0 : lw_okq (⟨"DecreedStreets$Reader", "skipBlanks", "()V"⟩, 6) := ⟨⟨by decide +kernel, by decide +kernel⟩, List.mem_of_getElem? (i := 116) (by decide +kernel), List.mem_of_getElem? (i := 332) (by decide +kernel), List.mem_of_getElem? (i := 333) (by decide +kernel)⟩
theorem lw_p1 : lw_okq (⟨"DecreedStreets$Reader", "readClause", "(LDecreedStreets$City;)V"⟩, 6) := ⟨⟨by decide +kernel, by decide +kernel⟩, List.mem_of_getElem? (i := 116) (by decide +kernel), List.mem_of_getElem? (i := 336) (by decide +kernel), List.mem_of_getElem? (i := 337) (by decide +kernel)⟩
theorem lw_p2 : lw_okq (⟨"DecreedStreets$Reader", "fail", "(II)V"⟩, 6) := ⟨⟨by decide +kernel, by decide +kernel⟩, List.mem_of_getElem? (i := 116) (by decide +kernel), List.mem_of_getElem? (i := 340) (by decide +kernel), List.mem_of_getElem? (i := 341) (by decide +kernel)⟩
theorem lw_p3 : lw_okq (⟨"DecreedStreets$Reader", "readCorners", "(LDecreedStreets$City;)V"⟩, 6) := ⟨⟨by decide +kernel, by decide +kernel⟩, List.mem_of_getElem? (i := 116) (by decide +kernel), List.mem_of_getElem? (i := 344) (by decide +kernel), List.mem_of_getElem? (i := 345) (by decide +kernel)⟩
theorem lw_p4 : lw_okq (⟨"DecreedStreets$Reader", "takeWord", "(Z)V"⟩, 6) := ⟨⟨by decide +kernel, by decide +kernel⟩, List.mem_of_getElem? (i := 116) (by decide +kernel), List.mem_of_getElem? (i := 348) (by decide +kernel), List.mem_of_getElem? (i := 349) (by decide +kernel)⟩
theorem lw_p5 : lw_okq (⟨"DecreedStreets$Reader", "readNumber", "(II)I"⟩, 6) := ⟨⟨by decide +kernel, by decide +kernel⟩, List.mem_of_getElem? (i := 116) (by decide +kernel), List.mem_of_getElem? (i := 352) (by decide +kernel), List.mem_of_getElem? (i := 353) (by decide +kernel)⟩
theorem lw_p6 : lw_okq (⟨"DecreedStreets$Reader", "readEnd", "()V"⟩, 6) := ⟨⟨by decide +kernel, by decide +kernel⟩, List.mem_of_getElem? (i := 116) (by decide +kernel), List.mem_of_getElem? (i := 359) (by decide +kernel), List.mem_of_getElem? (i := 360) (by decide +kernel)⟩
theorem lw_p7 : lw_okq (⟨"DecreedStreets$Reader", "readStreet", "(LDecreedStreets$City;)V"⟩, 6) := ⟨⟨by decide +kernel, by decide +kernel⟩, List.mem_of_getElem? (i := 116) (by decide +kernel), List.mem_of_getElem? (i := 363) (by decide +kernel), List.mem_of_getElem? (i := 364) (by decide +kernel)⟩
theorem lw_p8 : lw_okq (⟨"DecreedStreets$Reader", "readOther", "(II)I"⟩, 6) := ⟨⟨by decide +kernel, by decide +kernel⟩, List.mem_of_getElem? (i := 116) (by decide +kernel), List.mem_of_getElem? (i := 367) (by decide +kernel), List.mem_of_getElem? (i := 368) (by decide +kernel)⟩
theorem lw_p9 : lw_okq (⟨"DecreedStreets$Reader", "readCart", "(LDecreedStreets$City;)V"⟩, 6) := ⟨⟨by decide +kernel, by decide +kernel⟩, List.mem_of_getElem? (i := 116) (by decide +kernel), List.mem_of_getElem? (i := 371) (by decide +kernel), List.mem_of_getElem? (i := 372) (by decide +kernel)⟩
theorem lw_p10 : lw_okq (⟨"DecreedStreets$City", "shorten", "(III)V"⟩, 15) := ⟨⟨by decide +kernel, by decide +kernel⟩, List.mem_of_getElem? (i := 21) (by decide +kernel), List.mem_of_getElem? (i := 379) (by decide +kernel), List.mem_of_getElem? (i := 380) (by decide +kernel)⟩
theorem lw_p11 : lw_okq (⟨"DecreedStreets$City", "lead", "()V"⟩, 15) := ⟨⟨by decide +kernel, by decide +kernel⟩, List.mem_of_getElem? (i := 21) (by decide +kernel), List.mem_of_getElem? (i := 387) (by decide +kernel), List.mem_of_getElem? (i := 388) (by decide +kernel)⟩
theorem lw_p12 : lw_okq (⟨"DecreedStreets$City", "leastNearer", "(II)I"⟩, 15) := ⟨⟨by decide +kernel, by decide +kernel⟩, List.mem_of_getElem? (i := 21) (by decide +kernel), List.mem_of_getElem? (i := 391) (by decide +kernel), List.mem_of_getElem? (i := 392) (by decide +kernel)⟩
theorem lw_p13 : lw_okq (⟨"DecreedStreets", "isNoCorner", "(I)Z"⟩, 11) := ⟨⟨by decide +kernel, by decide +kernel⟩, List.mem_of_getElem? (i := 13) (by decide +kernel), List.mem_of_getElem? (i := 424) (by decide +kernel), List.mem_of_getElem? (i := 425) (by decide +kernel)⟩
theorem lw_p14 : lw_okq (⟨"DecreedStreets", "isNoStreet", "(I)Z"⟩, 11) := ⟨⟨by decide +kernel, by decide +kernel⟩, List.mem_of_getElem? (i := 13) (by decide +kernel), List.mem_of_getElem? (i := 434) (by decide +kernel), List.mem_of_getElem? (i := 435) (by decide +kernel)⟩
theorem lw_p15 : lw_okq (⟨"DecreedStreets", "isNoCart", "(I)Z"⟩, 11) := ⟨⟨by decide +kernel, by decide +kernel⟩, List.mem_of_getElem? (i := 13) (by decide +kernel), List.mem_of_getElem? (i := 442) (by decide +kernel), List.mem_of_getElem? (i := 443) (by decide +kernel)⟩
def lw_privs_1 : List (MethodName × Nat) := [(⟨"DecreedStreets$Reader", "skipBlanks", "()V"⟩, 6), (⟨"DecreedStreets$Reader", "readClause", "(LDecreedStreets$City;)V"⟩, 6), (⟨"DecreedStreets$Reader", "fail", "(II)V"⟩, 6), (⟨"DecreedStreets$Reader", "readCorners", "(LDecreedStreets$City;)V"⟩, 6), (⟨"DecreedStreets$Reader", "takeWord", "(Z)V"⟩, 6), (⟨"DecreedStreets$Reader", "readNumber", "(II)I"⟩, 6), (⟨"DecreedStreets$Reader", "readEnd", "()V"⟩, 6), (⟨"DecreedStreets$Reader", "readStreet", "(LDecreedStreets$City;)V"⟩, 6), (⟨"DecreedStreets$Reader", "readOther", "(II)I"⟩, 6), (⟨"DecreedStreets$Reader", "readCart", "(LDecreedStreets$City;)V"⟩, 6), (⟨"DecreedStreets$City", "shorten", "(III)V"⟩, 15), (⟨"DecreedStreets$City", "lead", "()V"⟩, 15), (⟨"DecreedStreets$City", "leastNearer", "(II)I"⟩, 15), (⟨"DecreedStreets", "isNoCorner", "(I)Z"⟩, 11), (⟨"DecreedStreets", "isNoStreet", "(I)Z"⟩, 11), (⟨"DecreedStreets", "isNoCart", "(I)Z"⟩, 11)]
theorem lw_r1 : ∀ q ∈ lw_privs_1, lw_okq q := List.forall_mem_cons.mpr ⟨lw_p0, List.forall_mem_cons.mpr ⟨lw_p1, List.forall_mem_cons.mpr ⟨lw_p2, List.forall_mem_cons.mpr ⟨lw_p3, List.forall_mem_cons.mpr ⟨lw_p4, List.forall_mem_cons.mpr ⟨lw_p5, List.forall_mem_cons.mpr ⟨lw_p6, List.forall_mem_cons.mpr ⟨lw_p7, List.forall_mem_cons.mpr ⟨lw_p8, List.forall_mem_cons.mpr ⟨lw_p9, List.forall_mem_cons.mpr ⟨lw_p10, List.forall_mem_cons.mpr ⟨lw_p11, List.forall_mem_cons.mpr ⟨lw_p12, List.forall_mem_cons.mpr ⟨lw_p13, List.forall_mem_cons.mpr ⟨lw_p14, List.forall_mem_cons.mpr ⟨lw_p15, fun _ h => absurd h List.not_mem_nil⟩⟩⟩⟩⟩⟩⟩⟩⟩⟩⟩⟩⟩⟩⟩⟩
theorem lw_p16 : lw_okq (⟨"DecreedStreets$Traffic", "isAheadOf", "(II)Z"⟩, 12) := ⟨⟨by decide +kernel, by decide +kernel⟩, List.mem_of_getElem? (i := 143) (by decide +kernel), List.mem_of_getElem? (i := 462) (by decide +kernel), List.mem_of_getElem? (i := 463) (by decide +kernel)⟩
theorem lw_p17 : lw_okq (⟨"DecreedStreets", "refusalOfMinutes", "(I)I"⟩, 11) := ⟨⟨by decide +kernel, by decide +kernel⟩, List.mem_of_getElem? (i := 13) (by decide +kernel), List.mem_of_getElem? (i := 470) (by decide +kernel), List.mem_of_getElem? (i := 471) (by decide +kernel)⟩
theorem lw_p18 : lw_okq (⟨"DecreedStreets$Traffic", "skipIdle", "(I)V"⟩, 12) := ⟨⟨by decide +kernel, by decide +kernel⟩, List.mem_of_getElem? (i := 143) (by decide +kernel), List.mem_of_getElem? (i := 491) (by decide +kernel), List.mem_of_getElem? (i := 492) (by decide +kernel)⟩
theorem lw_p19 : lw_okq (⟨"DecreedStreets$Traffic", "passOne", "()V"⟩, 12) := ⟨⟨by decide +kernel, by decide +kernel⟩, List.mem_of_getElem? (i := 143) (by decide +kernel), List.mem_of_getElem? (i := 501) (by decide +kernel), List.mem_of_getElem? (i := 502) (by decide +kernel)⟩
theorem lw_p20 : lw_okq (⟨"DecreedStreets$Traffic", "arrive", "(I)V"⟩, 12) := ⟨⟨by decide +kernel, by decide +kernel⟩, List.mem_of_getElem? (i := 143) (by decide +kernel), List.mem_of_getElem? (i := 505) (by decide +kernel), List.mem_of_getElem? (i := 506) (by decide +kernel)⟩
theorem lw_p21 : lw_okq (⟨"DecreedStreets$Traffic", "settle", "(III)V"⟩, 12) := ⟨⟨by decide +kernel, by decide +kernel⟩, List.mem_of_getElem? (i := 143) (by decide +kernel), List.mem_of_getElem? (i := 509) (by decide +kernel), List.mem_of_getElem? (i := 510) (by decide +kernel)⟩
theorem lw_p22 : lw_okq (⟨"DecreedStreets$Traffic", "waitAt", "(II)V"⟩, 12) := ⟨⟨by decide +kernel, by decide +kernel⟩, List.mem_of_getElem? (i := 143) (by decide +kernel), List.mem_of_getElem? (i := 513) (by decide +kernel), List.mem_of_getElem? (i := 514) (by decide +kernel)⟩
theorem lw_p23 : lw_okq (⟨"DecreedStreets$Traffic", "wayByLaw", "(I)I"⟩, 12) := ⟨⟨by decide +kernel, by decide +kernel⟩, List.mem_of_getElem? (i := 143) (by decide +kernel), List.mem_of_getElem? (i := 522) (by decide +kernel), List.mem_of_getElem? (i := 523) (by decide +kernel)⟩
theorem lw_p24 : lw_okq (⟨"DecreedStreets$Traffic", "wayOfLongest", "(III)I"⟩, 12) := ⟨⟨by decide +kernel, by decide +kernel⟩, List.mem_of_getElem? (i := 143) (by decide +kernel), List.mem_of_getElem? (i := 526) (by decide +kernel), List.mem_of_getElem? (i := 527) (by decide +kernel)⟩
theorem lw_p25 : lw_okq (⟨"DecreedStreets$Traffic", "longest", "(I)I"⟩, 12) := ⟨⟨by decide +kernel, by decide +kernel⟩, List.mem_of_getElem? (i := 143) (by decide +kernel), List.mem_of_getElem? (i := 530) (by decide +kernel), List.mem_of_getElem? (i := 531) (by decide +kernel)⟩
theorem lw_p26 : lw_okq (⟨"DecreedStreets$Traffic", "greatestRank", "(I)I"⟩, 12) := ⟨⟨by decide +kernel, by decide +kernel⟩, List.mem_of_getElem? (i := 143) (by decide +kernel), List.mem_of_getElem? (i := 538) (by decide +kernel), List.mem_of_getElem? (i := 539) (by decide +kernel)⟩
theorem lw_p27 : lw_okq (⟨"DecreedStreets$Traffic", "letIn", "(I)V"⟩, 12) := ⟨⟨by decide +kernel, by decide +kernel⟩, List.mem_of_getElem? (i := 143) (by decide +kernel), List.mem_of_getElem? (i := 543) (by decide +kernel), List.mem_of_getElem? (i := 544) (by decide +kernel)⟩
theorem lw_p28 : lw_okq (⟨"DecreedStreets$Traffic", "losePatience", "(I)V"⟩, 12) := ⟨⟨by decide +kernel, by decide +kernel⟩, List.mem_of_getElem? (i := 143) (by decide +kernel), List.mem_of_getElem? (i := 547) (by decide +kernel), List.mem_of_getElem? (i := 548) (by decide +kernel)⟩
theorem lw_p29 : lw_okq (⟨"DecreedStreets$Traffic", "draw", "(I)I"⟩, 12) := ⟨⟨by decide +kernel, by decide +kernel⟩, List.mem_of_getElem? (i := 143) (by decide +kernel), List.mem_of_getElem? (i := 559) (by decide +kernel), List.mem_of_getElem? (i := 560) (by decide +kernel)⟩
theorem lw_p30 : lw_okq (⟨"DecreedStreets$Way", "goBy", "(II)Z"⟩, 3) := ⟨⟨by decide +kernel, by decide +kernel⟩, List.mem_of_getElem? (i := 206) (by decide +kernel), List.mem_of_getElem? (i := 607) (by decide +kernel), List.mem_of_getElem? (i := 608) (by decide +kernel)⟩
theorem lw_p31 : lw_okq (⟨"DecreedStreets$Way", "entry", "(III)I"⟩, 3) := ⟨⟨by decide +kernel, by decide +kernel⟩, List.mem_of_getElem? (i := 206) (by decide +kernel), List.mem_of_getElem? (i := 611) (by decide +kernel), List.mem_of_getElem? (i := 612) (by decide +kernel)⟩
def lw_privs_2 : List (MethodName × Nat) := [(⟨"DecreedStreets$Traffic", "isAheadOf", "(II)Z"⟩, 12), (⟨"DecreedStreets", "refusalOfMinutes", "(I)I"⟩, 11), (⟨"DecreedStreets$Traffic", "skipIdle", "(I)V"⟩, 12), (⟨"DecreedStreets$Traffic", "passOne", "()V"⟩, 12), (⟨"DecreedStreets$Traffic", "arrive", "(I)V"⟩, 12), (⟨"DecreedStreets$Traffic", "settle", "(III)V"⟩, 12), (⟨"DecreedStreets$Traffic", "waitAt", "(II)V"⟩, 12), (⟨"DecreedStreets$Traffic", "wayByLaw", "(I)I"⟩, 12), (⟨"DecreedStreets$Traffic", "wayOfLongest", "(III)I"⟩, 12), (⟨"DecreedStreets$Traffic", "longest", "(I)I"⟩, 12), (⟨"DecreedStreets$Traffic", "greatestRank", "(I)I"⟩, 12), (⟨"DecreedStreets$Traffic", "letIn", "(I)V"⟩, 12), (⟨"DecreedStreets$Traffic", "losePatience", "(I)V"⟩, 12), (⟨"DecreedStreets$Traffic", "draw", "(I)I"⟩, 12), (⟨"DecreedStreets$Way", "goBy", "(II)Z"⟩, 3), (⟨"DecreedStreets$Way", "entry", "(III)I"⟩, 3)]
theorem lw_r2 : ∀ q ∈ lw_privs_2, lw_okq q := List.forall_mem_cons.mpr ⟨lw_p16, List.forall_mem_cons.mpr ⟨lw_p17, List.forall_mem_cons.mpr ⟨lw_p18, List.forall_mem_cons.mpr ⟨lw_p19, List.forall_mem_cons.mpr ⟨lw_p20, List.forall_mem_cons.mpr ⟨lw_p21, List.forall_mem_cons.mpr ⟨lw_p22, List.forall_mem_cons.mpr ⟨lw_p23, List.forall_mem_cons.mpr ⟨lw_p24, List.forall_mem_cons.mpr ⟨lw_p25, List.forall_mem_cons.mpr ⟨lw_p26, List.forall_mem_cons.mpr ⟨lw_p27, List.forall_mem_cons.mpr ⟨lw_p28, List.forall_mem_cons.mpr ⟨lw_p29, List.forall_mem_cons.mpr ⟨lw_p30, List.forall_mem_cons.mpr ⟨lw_p31, fun _ h => absurd h List.not_mem_nil⟩⟩⟩⟩⟩⟩⟩⟩⟩⟩⟩⟩⟩⟩⟩⟩
theorem lw_p32 : lw_okq (⟨"DecreedStreets$Way", "reach", "(II)Z"⟩, 3) := ⟨⟨by decide +kernel, by decide +kernel⟩, List.mem_of_getElem? (i := 206) (by decide +kernel), List.mem_of_getElem? (i := 615) (by decide +kernel), List.mem_of_getElem? (i := 616) (by decide +kernel)⟩
theorem lw_p33 : lw_okq (⟨"DecreedStreets$Way", "buyOne", "()V"⟩, 3) := ⟨⟨by decide +kernel, by decide +kernel⟩, List.mem_of_getElem? (i := 206) (by decide +kernel), List.mem_of_getElem? (i := 628) (by decide +kernel), List.mem_of_getElem? (i := 629) (by decide +kernel)⟩
theorem lw_p34 : lw_okq (⟨"DecreedStreets$Shuffle", "sortRanks", "([II)V"⟩, 6) := ⟨⟨by decide +kernel, by decide +kernel⟩, List.mem_of_getElem? (i := 224) (by decide +kernel), List.mem_of_getElem? (i := 641) (by decide +kernel), List.mem_of_getElem? (i := 642) (by decide +kernel)⟩
theorem lw_p35 : lw_okq (⟨"DecreedStreets$Shuffle", "goOn", "(I)Z"⟩, 6) := ⟨⟨by decide +kernel, by decide +kernel⟩, List.mem_of_getElem? (i := 224) (by decide +kernel), List.mem_of_getElem? (i := 650) (by decide +kernel), List.mem_of_getElem? (i := 651) (by decide +kernel)⟩
theorem lw_p36 : lw_okq (⟨"DecreedStreets$Shuffle", "swap", "(II)V"⟩, 6) := ⟨⟨by decide +kernel, by decide +kernel⟩, List.mem_of_getElem? (i := 224) (by decide +kernel), List.mem_of_getElem? (i := 654) (by decide +kernel), List.mem_of_getElem? (i := 655) (by decide +kernel)⟩
theorem lw_p37 : lw_okq (⟨"DecreedStreets", "fitsRuts", "(II)Z"⟩, 11) := ⟨⟨by decide +kernel, by decide +kernel⟩, List.mem_of_getElem? (i := 13) (by decide +kernel), List.mem_of_getElem? (i := 691) (by decide +kernel), List.mem_of_getElem? (i := 692) (by decide +kernel)⟩
theorem lw_p38 : lw_okq (⟨"DecreedStreetsModel", "here", "()I"⟩, 47) := ⟨⟨by decide +kernel, by decide +kernel⟩, List.mem_of_getElem? (i := 729) (by decide +kernel), List.mem_of_getElem? (i := 891) (by decide +kernel), List.mem_of_getElem? (i := 892) (by decide +kernel)⟩
theorem lw_p39 : lw_okq (⟨"DecreedStreetsModel", "takeClause", "()I"⟩, 47) := ⟨⟨by decide +kernel, by decide +kernel⟩, List.mem_of_getElem? (i := 729) (by decide +kernel), List.mem_of_getElem? (i := 895) (by decide +kernel), List.mem_of_getElem? (i := 896) (by decide +kernel)⟩
theorem lw_p40 : lw_okq (⟨"DecreedStreetsModel", "fails", "(II)I"⟩, 47) := ⟨⟨by decide +kernel, by decide +kernel⟩, List.mem_of_getElem? (i := 729) (by decide +kernel), List.mem_of_getElem? (i := 899) (by decide +kernel), List.mem_of_getElem? (i := 900) (by decide +kernel)⟩
theorem lw_p41 : lw_okq (⟨"DecreedStreetsModel", "takeCity", "()I"⟩, 47) := ⟨⟨by decide +kernel, by decide +kernel⟩, List.mem_of_getElem? (i := 729) (by decide +kernel), List.mem_of_getElem? (i := 903) (by decide +kernel), List.mem_of_getElem? (i := 904) (by decide +kernel)⟩
theorem lw_p42 : lw_okq (⟨"DecreedStreetsModel", "into", "([IIII)I"⟩, 47) := ⟨⟨by decide +kernel, by decide +kernel⟩, List.mem_of_getElem? (i := 729) (by decide +kernel), List.mem_of_getElem? (i := 907) (by decide +kernel), List.mem_of_getElem? (i := 908) (by decide +kernel)⟩
theorem lw_p43 : lw_okq (⟨"DecreedStreetsModel", "takeNumber", "(II)I"⟩, 47) := ⟨⟨by decide +kernel, by decide +kernel⟩, List.mem_of_getElem? (i := 729) (by decide +kernel), List.mem_of_getElem? (i := 911) (by decide +kernel), List.mem_of_getElem? (i := 912) (by decide +kernel)⟩
theorem lw_p44 : lw_okq (⟨"DecreedStreetsModel", "takeStreet", "()I"⟩, 47) := ⟨⟨by decide +kernel, by decide +kernel⟩, List.mem_of_getElem? (i := 729) (by decide +kernel), List.mem_of_getElem? (i := 917) (by decide +kernel), List.mem_of_getElem? (i := 918) (by decide +kernel)⟩
theorem lw_p45 : lw_okq (⟨"DecreedStreetsModel", "takeTwo", "([I[II)I"⟩, 47) := ⟨⟨by decide +kernel, by decide +kernel⟩, List.mem_of_getElem? (i := 729) (by decide +kernel), List.mem_of_getElem? (i := 921) (by decide +kernel), List.mem_of_getElem? (i := 922) (by decide +kernel)⟩
theorem lw_p46 : lw_okq (⟨"DecreedStreetsModel", "takeCart", "()I"⟩, 47) := ⟨⟨by decide +kernel, by decide +kernel⟩, List.mem_of_getElem? (i := 729) (by decide +kernel), List.mem_of_getElem? (i := 925) (by decide +kernel), List.mem_of_getElem? (i := 926) (by decide +kernel)⟩
theorem lw_p47 : lw_okq (⟨"DecreedStreetsModel", "takeRead", "()V"⟩, 47) := ⟨⟨by decide +kernel, by decide +kernel⟩, List.mem_of_getElem? (i := 729) (by decide +kernel), List.mem_of_getElem? (i := 929) (by decide +kernel), List.mem_of_getElem? (i := 930) (by decide +kernel)⟩
def lw_privs_3 : List (MethodName × Nat) := [(⟨"DecreedStreets$Way", "reach", "(II)Z"⟩, 3), (⟨"DecreedStreets$Way", "buyOne", "()V"⟩, 3), (⟨"DecreedStreets$Shuffle", "sortRanks", "([II)V"⟩, 6), (⟨"DecreedStreets$Shuffle", "goOn", "(I)Z"⟩, 6), (⟨"DecreedStreets$Shuffle", "swap", "(II)V"⟩, 6), (⟨"DecreedStreets", "fitsRuts", "(II)Z"⟩, 11), (⟨"DecreedStreetsModel", "here", "()I"⟩, 47), (⟨"DecreedStreetsModel", "takeClause", "()I"⟩, 47), (⟨"DecreedStreetsModel", "fails", "(II)I"⟩, 47), (⟨"DecreedStreetsModel", "takeCity", "()I"⟩, 47), (⟨"DecreedStreetsModel", "into", "([IIII)I"⟩, 47), (⟨"DecreedStreetsModel", "takeNumber", "(II)I"⟩, 47), (⟨"DecreedStreetsModel", "takeStreet", "()I"⟩, 47), (⟨"DecreedStreetsModel", "takeTwo", "([I[II)I"⟩, 47), (⟨"DecreedStreetsModel", "takeCart", "()I"⟩, 47), (⟨"DecreedStreetsModel", "takeRead", "()V"⟩, 47)]
theorem lw_r3 : ∀ q ∈ lw_privs_3, lw_okq q := List.forall_mem_cons.mpr ⟨lw_p32, List.forall_mem_cons.mpr ⟨lw_p33, List.forall_mem_cons.mpr ⟨lw_p34, List.forall_mem_cons.mpr ⟨lw_p35, List.forall_mem_cons.mpr ⟨lw_p36, List.forall_mem_cons.mpr ⟨lw_p37, List.forall_mem_cons.mpr ⟨lw_p38, List.forall_mem_cons.mpr ⟨lw_p39, List.forall_mem_cons.mpr ⟨lw_p40, List.forall_mem_cons.mpr ⟨lw_p41, List.forall_mem_cons.mpr ⟨lw_p42, List.forall_mem_cons.mpr ⟨lw_p43, List.forall_mem_cons.mpr ⟨lw_p44, List.forall_mem_cons.mpr ⟨lw_p45, List.forall_mem_cons.mpr ⟨lw_p46, List.forall_mem_cons.mpr ⟨lw_p47, fun _ h => absurd h List.not_mem_nil⟩⟩⟩⟩⟩⟩⟩⟩⟩⟩⟩⟩⟩⟩⟩⟩
theorem lw_p48 : lw_okq (⟨"DecreedStreetsModel", "findFar", "()V"⟩, 47) := ⟨⟨by decide +kernel, by decide +kernel⟩, List.mem_of_getElem? (i := 729) (by decide +kernel), List.mem_of_getElem? (i := 933) (by decide +kernel), List.mem_of_getElem? (i := 934) (by decide +kernel)⟩
theorem lw_p49 : lw_okq (⟨"DecreedStreetsModel", "cartsThat", "(I)I"⟩, 47) := ⟨⟨by decide +kernel, by decide +kernel⟩, List.mem_of_getElem? (i := 729) (by decide +kernel), List.mem_of_getElem? (i := 946) (by decide +kernel), List.mem_of_getElem? (i := 947) (by decide +kernel)⟩
theorem lw_p50 : lw_okq (⟨"DecreedStreetsModel", "isCorner", "(I)Z"⟩, 47) := ⟨⟨by decide +kernel, by decide +kernel⟩, List.mem_of_getElem? (i := 729) (by decide +kernel), List.mem_of_getElem? (i := 954) (by decide +kernel), List.mem_of_getElem? (i := 955) (by decide +kernel)⟩
theorem lw_p51 : lw_okq (⟨"DecreedStreetsModel", "isStreet", "(I)Z"⟩, 47) := ⟨⟨by decide +kernel, by decide +kernel⟩, List.mem_of_getElem? (i := 729) (by decide +kernel), List.mem_of_getElem? (i := 963) (by decide +kernel), List.mem_of_getElem? (i := 964) (by decide +kernel)⟩
theorem lw_p52 : lw_okq (⟨"DecreedStreetsModel", "onStreet", "(I)I"⟩, 47) := ⟨⟨by decide +kernel, by decide +kernel⟩, List.mem_of_getElem? (i := 729) (by decide +kernel), List.mem_of_getElem? (i := 967) (by decide +kernel), List.mem_of_getElem? (i := 968) (by decide +kernel)⟩
theorem lw_p53 : lw_okq (⟨"DecreedStreetsModel", "isCart", "(I)Z"⟩, 47) := ⟨⟨by decide +kernel, by decide +kernel⟩, List.mem_of_getElem? (i := 729) (by decide +kernel), List.mem_of_getElem? (i := 975) (by decide +kernel), List.mem_of_getElem? (i := 976) (by decide +kernel)⟩
theorem lw_p54 : lw_okq (⟨"DecreedStreetsModel", "nextOf", "(I)I"⟩, 47) := ⟨⟨by decide +kernel, by decide +kernel⟩, List.mem_of_getElem? (i := 729) (by decide +kernel), List.mem_of_getElem? (i := 983) (by decide +kernel), List.mem_of_getElem? (i := 984) (by decide +kernel)⟩
theorem lw_p55 : lw_okq (⟨"DecreedStreetsModel", "nextFrom", "(II)I"⟩, 47) := ⟨⟨by decide +kernel, by decide +kernel⟩, List.mem_of_getElem? (i := 729) (by decide +kernel), List.mem_of_getElem? (i := 987) (by decide +kernel), List.mem_of_getElem? (i := 988) (by decide +kernel)⟩
theorem lw_p56 : lw_okq (⟨"DecreedStreetsModel", "other", "(II)I"⟩, 47) := ⟨⟨by decide +kernel, by decide +kernel⟩, List.mem_of_getElem? (i := 729) (by decide +kernel), List.mem_of_getElem? (i := 991) (by decide +kernel), List.mem_of_getElem? (i := 992) (by decide +kernel)⟩
theorem lw_p57 : lw_okq (⟨"DecreedStreetsModel", "foremostOf", "(II)I"⟩, 47) := ⟨⟨by decide +kernel, by decide +kernel⟩, List.mem_of_getElem? (i := 729) (by decide +kernel), List.mem_of_getElem? (i := 999) (by decide +kernel), List.mem_of_getElem? (i := 1000) (by decide +kernel)⟩
theorem lw_p58 : lw_okq (⟨"DecreedStreetsModel", "isWaiting", "(III)Z"⟩, 47) := ⟨⟨by decide +kernel, by decide +kernel⟩, List.mem_of_getElem? (i := 729) (by decide +kernel), List.mem_of_getElem? (i := 1003) (by decide +kernel), List.mem_of_getElem? (i := 1004) (by decide +kernel)⟩
theorem lw_p59 : lw_okq (⟨"DecreedStreetsModel", "isAhead", "(II)Z"⟩, 47) := ⟨⟨by decide +kernel, by decide +kernel⟩, List.mem_of_getElem? (i := 729) (by decide +kernel), List.mem_of_getElem? (i := 1007) (by decide +kernel), List.mem_of_getElem? (i := 1008) (by decide +kernel)⟩
theorem lw_p60 : lw_okq (⟨"DecreedStreetsModel", "minutesRefused", "(I)I"⟩, 47) := ⟨⟨by decide +kernel, by decide +kernel⟩, List.mem_of_getElem? (i := 729) (by decide +kernel), List.mem_of_getElem? (i := 1015) (by decide +kernel), List.mem_of_getElem? (i := 1016) (by decide +kernel)⟩
theorem lw_p61 : lw_okq (⟨"DecreedStreetsModel", "home", "()I"⟩, 47) := ⟨⟨by decide +kernel, by decide +kernel⟩, List.mem_of_getElem? (i := 729) (by decide +kernel), List.mem_of_getElem? (i := 1022) (by decide +kernel), List.mem_of_getElem? (i := 1023) (by decide +kernel)⟩
theorem lw_p62 : lw_okq (⟨"DecreedStreetsModel", "pass", "()V"⟩, 47) := ⟨⟨by decide +kernel, by decide +kernel⟩, List.mem_of_getElem? (i := 729) (by decide +kernel), List.mem_of_getElem? (i := 1026) (by decide +kernel), List.mem_of_getElem? (i := 1027) (by decide +kernel)⟩
theorem lw_p63 : lw_okq (⟨"DecreedStreetsModel", "arrive", "(I)V"⟩, 47) := ⟨⟨by decide +kernel, by decide +kernel⟩, List.mem_of_getElem? (i := 729) (by decide +kernel), List.mem_of_getElem? (i := 1030) (by decide +kernel), List.mem_of_getElem? (i := 1031) (by decide +kernel)⟩
def lw_privs_4 : List (MethodName × Nat) := [(⟨"DecreedStreetsModel", "findFar", "()V"⟩, 47), (⟨"DecreedStreetsModel", "cartsThat", "(I)I"⟩, 47), (⟨"DecreedStreetsModel", "isCorner", "(I)Z"⟩, 47), (⟨"DecreedStreetsModel", "isStreet", "(I)Z"⟩, 47), (⟨"DecreedStreetsModel", "onStreet", "(I)I"⟩, 47), (⟨"DecreedStreetsModel", "isCart", "(I)Z"⟩, 47), (⟨"DecreedStreetsModel", "nextOf", "(I)I"⟩, 47), (⟨"DecreedStreetsModel", "nextFrom", "(II)I"⟩, 47), (⟨"DecreedStreetsModel", "other", "(II)I"⟩, 47), (⟨"DecreedStreetsModel", "foremostOf", "(II)I"⟩, 47), (⟨"DecreedStreetsModel", "isWaiting", "(III)Z"⟩, 47), (⟨"DecreedStreetsModel", "isAhead", "(II)Z"⟩, 47), (⟨"DecreedStreetsModel", "minutesRefused", "(I)I"⟩, 47), (⟨"DecreedStreetsModel", "home", "()I"⟩, 47), (⟨"DecreedStreetsModel", "pass", "()V"⟩, 47), (⟨"DecreedStreetsModel", "arrive", "(I)V"⟩, 47)]
theorem lw_r4 : ∀ q ∈ lw_privs_4, lw_okq q := List.forall_mem_cons.mpr ⟨lw_p48, List.forall_mem_cons.mpr ⟨lw_p49, List.forall_mem_cons.mpr ⟨lw_p50, List.forall_mem_cons.mpr ⟨lw_p51, List.forall_mem_cons.mpr ⟨lw_p52, List.forall_mem_cons.mpr ⟨lw_p53, List.forall_mem_cons.mpr ⟨lw_p54, List.forall_mem_cons.mpr ⟨lw_p55, List.forall_mem_cons.mpr ⟨lw_p56, List.forall_mem_cons.mpr ⟨lw_p57, List.forall_mem_cons.mpr ⟨lw_p58, List.forall_mem_cons.mpr ⟨lw_p59, List.forall_mem_cons.mpr ⟨lw_p60, List.forall_mem_cons.mpr ⟨lw_p61, List.forall_mem_cons.mpr ⟨lw_p62, List.forall_mem_cons.mpr ⟨lw_p63, fun _ h => absurd h List.not_mem_nil⟩⟩⟩⟩⟩⟩⟩⟩⟩⟩⟩⟩⟩⟩⟩⟩
theorem lw_p64 : lw_okq (⟨"DecreedStreetsModel", "start", "(I)V"⟩, 47) := ⟨⟨by decide +kernel, by decide +kernel⟩, List.mem_of_getElem? (i := 729) (by decide +kernel), List.mem_of_getElem? (i := 1034) (by decide +kernel), List.mem_of_getElem? (i := 1035) (by decide +kernel)⟩
theorem lw_p65 : lw_okq (⟨"DecreedStreetsModel", "enter", "(I)V"⟩, 47) := ⟨⟨by decide +kernel, by decide +kernel⟩, List.mem_of_getElem? (i := 729) (by decide +kernel), List.mem_of_getElem? (i := 1038) (by decide +kernel), List.mem_of_getElem? (i := 1039) (by decide +kernel)⟩
theorem lw_p66 : lw_okq (⟨"DecreedStreetsModel", "goesBy", "(I)I"⟩, 47) := ⟨⟨by decide +kernel, by decide +kernel⟩, List.mem_of_getElem? (i := 729) (by decide +kernel), List.mem_of_getElem? (i := 1042) (by decide +kernel), List.mem_of_getElem? (i := 1043) (by decide +kernel)⟩
theorem lw_p67 : lw_okq (⟨"DecreedStreetsModel", "longest", "(II)I"⟩, 47) := ⟨⟨by decide +kernel, by decide +kernel⟩, List.mem_of_getElem? (i := 729) (by decide +kernel), List.mem_of_getElem? (i := 1046) (by decide +kernel), List.mem_of_getElem? (i := 1047) (by decide +kernel)⟩
theorem lw_p68 : lw_okq (⟨"DecreedStreetsModel", "waiting", "(II)I"⟩, 47) := ⟨⟨by decide +kernel, by decide +kernel⟩, List.mem_of_getElem? (i := 729) (by decide +kernel), List.mem_of_getElem? (i := 1050) (by decide +kernel), List.mem_of_getElem? (i := 1051) (by decide +kernel)⟩
theorem lw_p69 : lw_okq (⟨"DecreedStreetsModel", "rankOf", "(I)I"⟩, 47) := ⟨⟨by decide +kernel, by decide +kernel⟩, List.mem_of_getElem? (i := 729) (by decide +kernel), List.mem_of_getElem? (i := 1057) (by decide +kernel), List.mem_of_getElem? (i := 1058) (by decide +kernel)⟩
theorem lw_p70 : lw_okq (⟨"DecreedStreetsModel", "tire", "(I)V"⟩, 47) := ⟨⟨by decide +kernel, by decide +kernel⟩, List.mem_of_getElem? (i := 729) (by decide +kernel), List.mem_of_getElem? (i := 1061) (by decide +kernel), List.mem_of_getElem? (i := 1062) (by decide +kernel)⟩
theorem lw_p71 : lw_okq (⟨"DecreedStreetsModel", "draw", "(I)I"⟩, 47) := ⟨⟨by decide +kernel, by decide +kernel⟩, List.mem_of_getElem? (i := 729) (by decide +kernel), List.mem_of_getElem? (i := 1069) (by decide +kernel), List.mem_of_getElem? (i := 1070) (by decide +kernel)⟩
theorem lw_p72 : lw_okq (⟨"DecreedStreetsModel", "turnNow", "(I)V"⟩, 47) := ⟨⟨by decide +kernel, by decide +kernel⟩, List.mem_of_getElem? (i := 729) (by decide +kernel), List.mem_of_getElem? (i := 1077) (by decide +kernel), List.mem_of_getElem? (i := 1078) (by decide +kernel)⟩
theorem lw_p73 : lw_okq (⟨"DecreedStreetsModel", "save", "()V"⟩, 47) := ⟨⟨by decide +kernel, by decide +kernel⟩, List.mem_of_getElem? (i := 729) (by decide +kernel), List.mem_of_getElem? (i := 1099) (by decide +kernel), List.mem_of_getElem? (i := 1100) (by decide +kernel)⟩
theorem lw_p74 : lw_okq (⟨"DecreedStreetsModel", "go", "(I)V"⟩, 47) := ⟨⟨by decide +kernel, by decide +kernel⟩, List.mem_of_getElem? (i := 729) (by decide +kernel), List.mem_of_getElem? (i := 1103) (by decide +kernel), List.mem_of_getElem? (i := 1104) (by decide +kernel)⟩
theorem lw_p75 : lw_okq (⟨"DecreedStreetsModel", "minutes", "(I)I"⟩, 47) := ⟨⟨by decide +kernel, by decide +kernel⟩, List.mem_of_getElem? (i := 729) (by decide +kernel), List.mem_of_getElem? (i := 1107) (by decide +kernel), List.mem_of_getElem? (i := 1108) (by decide +kernel)⟩
theorem lw_p76 : lw_okq (⟨"DecreedStreetsModel", "putBack", "()V"⟩, 47) := ⟨⟨by decide +kernel, by decide +kernel⟩, List.mem_of_getElem? (i := 729) (by decide +kernel), List.mem_of_getElem? (i := 1111) (by decide +kernel), List.mem_of_getElem? (i := 1112) (by decide +kernel)⟩
theorem lw_p77 : lw_okq (⟨"DecreedStreetsModel", "come", "(II)V"⟩, 47) := ⟨⟨by decide +kernel, by decide +kernel⟩, List.mem_of_getElem? (i := 729) (by decide +kernel), List.mem_of_getElem? (i := 1120) (by decide +kernel), List.mem_of_getElem? (i := 1121) (by decide +kernel)⟩
theorem lw_p78 : lw_okq (⟨"DecreedStreetsModel", "entry", "(III)I"⟩, 47) := ⟨⟨by decide +kernel, by decide +kernel⟩, List.mem_of_getElem? (i := 729) (by decide +kernel), List.mem_of_getElem? (i := 1124) (by decide +kernel), List.mem_of_getElem? (i := 1125) (by decide +kernel)⟩
theorem lw_p79 : lw_okq (⟨"DecreedStreetsModel", "buy", "(IIII)V"⟩, 47) := ⟨⟨by decide +kernel, by decide +kernel⟩, List.mem_of_getElem? (i := 729) (by decide +kernel), List.mem_of_getElem? (i := 1132) (by decide +kernel), List.mem_of_getElem? (i := 1133) (by decide +kernel)⟩
def lw_privs_5 : List (MethodName × Nat) := [(⟨"DecreedStreetsModel", "start", "(I)V"⟩, 47), (⟨"DecreedStreetsModel", "enter", "(I)V"⟩, 47), (⟨"DecreedStreetsModel", "goesBy", "(I)I"⟩, 47), (⟨"DecreedStreetsModel", "longest", "(II)I"⟩, 47), (⟨"DecreedStreetsModel", "waiting", "(II)I"⟩, 47), (⟨"DecreedStreetsModel", "rankOf", "(I)I"⟩, 47), (⟨"DecreedStreetsModel", "tire", "(I)V"⟩, 47), (⟨"DecreedStreetsModel", "draw", "(I)I"⟩, 47), (⟨"DecreedStreetsModel", "turnNow", "(I)V"⟩, 47), (⟨"DecreedStreetsModel", "save", "()V"⟩, 47), (⟨"DecreedStreetsModel", "go", "(I)V"⟩, 47), (⟨"DecreedStreetsModel", "minutes", "(I)I"⟩, 47), (⟨"DecreedStreetsModel", "putBack", "()V"⟩, 47), (⟨"DecreedStreetsModel", "come", "(II)V"⟩, 47), (⟨"DecreedStreetsModel", "entry", "(III)I"⟩, 47), (⟨"DecreedStreetsModel", "buy", "(IIII)V"⟩, 47)]
theorem lw_r5 : ∀ q ∈ lw_privs_5, lw_okq q := List.forall_mem_cons.mpr ⟨lw_p64, List.forall_mem_cons.mpr ⟨lw_p65, List.forall_mem_cons.mpr ⟨lw_p66, List.forall_mem_cons.mpr ⟨lw_p67, List.forall_mem_cons.mpr ⟨lw_p68, List.forall_mem_cons.mpr ⟨lw_p69, List.forall_mem_cons.mpr ⟨lw_p70, List.forall_mem_cons.mpr ⟨lw_p71, List.forall_mem_cons.mpr ⟨lw_p72, List.forall_mem_cons.mpr ⟨lw_p73, List.forall_mem_cons.mpr ⟨lw_p74, List.forall_mem_cons.mpr ⟨lw_p75, List.forall_mem_cons.mpr ⟨lw_p76, List.forall_mem_cons.mpr ⟨lw_p77, List.forall_mem_cons.mpr ⟨lw_p78, List.forall_mem_cons.mpr ⟨lw_p79, fun _ h => absurd h List.not_mem_nil⟩⟩⟩⟩⟩⟩⟩⟩⟩⟩⟩⟩⟩⟩⟩⟩
theorem lw_p80 : lw_okq (⟨"DecreedStreetsModel", "give", "(I)Z"⟩, 47) := ⟨⟨by decide +kernel, by decide +kernel⟩, List.mem_of_getElem? (i := 729) (by decide +kernel), List.mem_of_getElem? (i := 1140) (by decide +kernel), List.mem_of_getElem? (i := 1141) (by decide +kernel)⟩
theorem lw_p81 : lw_okq (⟨"DecreedStreetsModel", "isLess", "([I[I)Z"⟩, 47) := ⟨⟨by decide +kernel, by decide +kernel⟩, List.mem_of_getElem? (i := 729) (by decide +kernel), List.mem_of_getElem? (i := 1144) (by decide +kernel), List.mem_of_getElem? (i := 1145) (by decide +kernel)⟩
theorem lw_p82 : lw_okq (⟨"DecreedStreetsModel", "isRut", "(II)Z"⟩, 47) := ⟨⟨by decide +kernel, by decide +kernel⟩, List.mem_of_getElem? (i := 729) (by decide +kernel), List.mem_of_getElem? (i := 1173) (by decide +kernel), List.mem_of_getElem? (i := 1174) (by decide +kernel)⟩
def lw_privs_6 : List (MethodName × Nat) := [(⟨"DecreedStreetsModel", "give", "(I)Z"⟩, 47), (⟨"DecreedStreetsModel", "isLess", "([I[I)Z"⟩, 47), (⟨"DecreedStreetsModel", "isRut", "(II)Z"⟩, 47)]
theorem lw_r6 : ∀ q ∈ lw_privs_6, lw_okq q := List.forall_mem_cons.mpr ⟨lw_p80, List.forall_mem_cons.mpr ⟨lw_p81, List.forall_mem_cons.mpr ⟨lw_p82, fun _ h => absurd h List.not_mem_nil⟩⟩⟩
def lw_privs : List (MethodName × Nat) := lw_privs_1 ++ (lw_privs_2 ++ (lw_privs_3 ++ (lw_privs_4 ++ (lw_privs_5 ++ (lw_privs_6)))))
def lw_tbl : List Cond := k2_sels lw_privs ++ tables_1
theorem lw_privs_ok : ∀ q ∈ lw_privs, lw_okq q := by
  show ∀ q ∈ lw_privs_1 ++ (lw_privs_2 ++ (lw_privs_3 ++ (lw_privs_4 ++ (lw_privs_5 ++ (lw_privs_6))))), lw_okq q
  exact List.forall_mem_append.mpr ⟨lw_r1, List.forall_mem_append.mpr ⟨lw_r2, List.forall_mem_append.mpr ⟨lw_r3, List.forall_mem_append.mpr ⟨lw_r4, List.forall_mem_append.mpr ⟨lw_r5, lw_r6⟩⟩⟩⟩⟩
-- ===== end of PART A; then your names; then what follows =====
end
section
def gR_0 : String := "DecreedStreets$City"
def gT_0 : u_T := fun k => match k with
  | 0 => ("DecreedStreets$City", "corners", "I", false)
  | 1 => ("DecreedStreets$City", "half", "I", false)
  | 2 => ("DecreedStreets$City", "streets", "I", false)
  | 3 => ("DecreedStreets$City", "carts", "I", false)
  | 4 => ("DecreedStreets$City", "endA", "[I", true)
  | 5 => ("DecreedStreets$City", "endB", "[I", true)
  | 6 => ("DecreedStreets$City", "length", "[I", true)
  | 7 => ("DecreedStreets$City", "firstLaw", "[I", true)
  | 8 => ("DecreedStreets$City", "from", "[I", true)
  | 9 => ("DecreedStreets$City", "to", "[I", true)
  | 10 => ("DecreedStreets$City", "start", "[I", true)
  | 11 => ("DecreedStreets$City", "firstRank", "[I", true)
  | 12 => ("DecreedStreets$City", "patience", "[I", true)
  | 13 => ("DecreedStreets$City", "apart", "[I", true)
  | _ => ("DecreedStreets$City", "leading", "[I", true)
def gt_0 : Nat → FieldType := fun k => match k with
  | 0 => .int
  | 1 => .int
  | 2 => .int
  | 3 => .int
  | 4 => .array .int
  | 5 => .array .int
  | 6 => .array .int
  | 7 => .array .int
  | 8 => .array .int
  | 9 => .array .int
  | 10 => .array .int
  | 11 => .array .int
  | 12 => .array .int
  | 13 => .array .int
  | _ => .array .int
theorem gnm_0 : ∀ a, a < 15 → ∀ b, b < 15 → a ≠ b → (gT_0 a).2.1 ≠ (gT_0 b).2.1 := by decide +kernel
theorem gto_0 : ∀ k, k < 15 → parseFieldDescriptor (gT_0 k).2.2.1 = some (gt_0 k) := by decide +kernel
def gR_1 : String := "DecreedStreets$Notes"
def gT_1 : u_T := fun k => match k with
  | 0 => ("DecreedStreets$Notes", "count", "I", false)
  | 1 => ("DecreedStreets$Notes", "whose", "[I", true)
  | 2 => ("DecreedStreets$Notes", "minute", "[I", true)
  | _ => ("DecreedStreets$Notes", "way", "[I", true)
def gt_1 : Nat → FieldType := fun k => match k with
  | 0 => .int
  | 1 => .array .int
  | 2 => .array .int
  | _ => .array .int
theorem gnm_1 : ∀ a, a < 4 → ∀ b, b < 4 → a ≠ b → (gT_1 a).2.1 ≠ (gT_1 b).2.1 := by decide +kernel
theorem gto_1 : ∀ k, k < 4 → parseFieldDescriptor (gT_1 k).2.2.1 = some (gt_1 k) := by decide +kernel
def gR_2 : String := "DecreedStreets$Reader"
def gT_2 : u_T := fun k => match k with
  | 0 => ("DecreedStreets$Reader", "count", "I", false)
  | 1 => ("DecreedStreets$Reader", "faultAt", "I", false)
  | 2 => ("DecreedStreets$Reader", "letters", "[I", true)
  | 3 => ("DecreedStreets$Reader", "at", "I", false)
  | 4 => ("DecreedStreets$Reader", "numberAt", "I", false)
  | _ => ("DecreedStreets$Reader", "faultNumber", "I", false)
def gt_2 : Nat → FieldType := fun k => match k with
  | 0 => .int
  | 1 => .int
  | 2 => .array .int
  | 3 => .int
  | 4 => .int
  | _ => .int
theorem gnm_2 : ∀ a, a < 6 → ∀ b, b < 6 → a ≠ b → (gT_2 a).2.1 ≠ (gT_2 b).2.1 := by decide +kernel
theorem gto_2 : ∀ k, k < 6 → parseFieldDescriptor (gT_2 k).2.2.1 = some (gt_2 k) := by decide +kernel
def gR_3 : String := "DecreedStreets$Shuffle"
def gT_3 : u_T := fun k => match k with
  | 0 => ("DecreedStreets$Shuffle", "least", "I", false)
  | 1 => ("DecreedStreets$Shuffle", "best", "[I", true)
  | 2 => ("DecreedStreets$Shuffle", "order", "[I", true)
  | 3 => ("DecreedStreets$Shuffle", "now", "LDecreedStreets$Traffic;", true)
  | 4 => ("DecreedStreets$Shuffle", "tried", "LDecreedStreets$Traffic;", true)
  | _ => ("DecreedStreets$Shuffle", "foundFor", "I", false)
def gt_3 : Nat → FieldType := fun k => match k with
  | 0 => .int
  | 1 => .array .int
  | 2 => .array .int
  | 3 => .object "DecreedStreets$Traffic"
  | 4 => .object "DecreedStreets$Traffic"
  | _ => .int
theorem gnm_3 : ∀ a, a < 6 → ∀ b, b < 6 → a ≠ b → (gT_3 a).2.1 ≠ (gT_3 b).2.1 := by decide +kernel
theorem gto_3 : ∀ k, k < 6 → parseFieldDescriptor (gT_3 k).2.2.1 = some (gt_3 k) := by decide +kernel
def gR_4 : String := "DecreedStreets$Traffic"
def gT_4 : u_T := fun k => match k with
  | 0 => ("DecreedStreets$Traffic", "city", "LDecreedStreets$City;", false)
  | 1 => ("DecreedStreets$Traffic", "minute", "I", false)
  | 2 => ("DecreedStreets$Traffic", "seed", "I", false)
  | 3 => ("DecreedStreets$Traffic", "law", "[I", true)
  | 4 => ("DecreedStreets$Traffic", "goes", "[I", true)
  | 5 => ("DecreedStreets$Traffic", "on", "[I", true)
  | 6 => ("DecreedStreets$Traffic", "waiting", "[I", true)
  | 7 => ("DecreedStreets$Traffic", "rank", "[I", true)
  | 8 => ("DecreedStreets$Traffic", "how", "[I", true)
  | 9 => ("DecreedStreets$Traffic", "place", "[I", true)
  | 10 => ("DecreedStreets$Traffic", "since", "[I", true)
  | _ => ("DecreedStreets$Traffic", "waited", "[I", true)
def gt_4 : Nat → FieldType := fun k => match k with
  | 0 => .object "DecreedStreets$City"
  | 1 => .int
  | 2 => .int
  | 3 => .array .int
  | 4 => .array .int
  | 5 => .array .int
  | 6 => .array .int
  | 7 => .array .int
  | 8 => .array .int
  | 9 => .array .int
  | 10 => .array .int
  | _ => .array .int
theorem gnm_4 : ∀ a, a < 12 → ∀ b, b < 12 → a ≠ b → (gT_4 a).2.1 ≠ (gT_4 b).2.1 := by decide +kernel
theorem gto_4 : ∀ k, k < 12 → parseFieldDescriptor (gT_4 k).2.2.1 = some (gt_4 k) := by decide +kernel
def gR_5 : String := "DecreedStreets$Way"
def gT_5 : u_T := fun k => match k with
  | 0 => ("DecreedStreets$Way", "soonest", "[I", true)
  | 1 => ("DecreedStreets$Way", "before", "[I", true)
  | _ => ("DecreedStreets$Way", "now", "LDecreedStreets$Traffic;", true)
def gt_5 : Nat → FieldType := fun k => match k with
  | 0 => .array .int
  | 1 => .array .int
  | _ => .object "DecreedStreets$Traffic"
theorem gnm_5 : ∀ a, a < 3 → ∀ b, b < 3 → a ≠ b → (gT_5 a).2.1 ≠ (gT_5 b).2.1 := by decide +kernel
theorem gto_5 : ∀ k, k < 3 → parseFieldDescriptor (gT_5 k).2.2.1 = some (gt_5 k) := by decide +kernel
def gR_6 : String := "DecreedStreets"
def gT_6 : u_T := fun k => match k with
  | 0 => ("DecreedStreets", "city", "LDecreedStreets$City;", false)
  | 1 => ("DecreedStreets", "draft", "LDecreedStreets$City;", false)
  | 2 => ("DecreedStreets", "reader", "LDecreedStreets$Reader;", true)
  | 3 => ("DecreedStreets", "now", "LDecreedStreets$Traffic;", true)
  | 4 => ("DecreedStreets", "tried", "LDecreedStreets$Traffic;", true)
  | 5 => ("DecreedStreets", "images", "[LDecreedStreets$Traffic;", true)
  | 6 => ("DecreedStreets", "kept", "[Z", true)
  | 7 => ("DecreedStreets", "way", "LDecreedStreets$Way;", true)
  | 8 => ("DecreedStreets", "shuffle", "LDecreedStreets$Shuffle;", true)
  | 9 => ("DecreedStreets", "ruts", "LDecreedStreets$Notes;", true)
  | _ => ("DecreedStreets", "record", "LDecreedStreets$Notes;", true)
def gt_6 : Nat → FieldType := fun k => match k with
  | 0 => .object "DecreedStreets$City"
  | 1 => .object "DecreedStreets$City"
  | 2 => .object "DecreedStreets$Reader"
  | 3 => .object "DecreedStreets$Traffic"
  | 4 => .object "DecreedStreets$Traffic"
  | 5 => .array (.object "DecreedStreets$Traffic")
  | 6 => .array .boolean
  | 7 => .object "DecreedStreets$Way"
  | 8 => .object "DecreedStreets$Shuffle"
  | 9 => .object "DecreedStreets$Notes"
  | _ => .object "DecreedStreets$Notes"
theorem gnm_6 : ∀ a, a < 11 → ∀ b, b < 11 → a ≠ b → (gT_6 a).2.1 ≠ (gT_6 b).2.1 := by decide +kernel
theorem gto_6 : ∀ k, k < 11 → parseFieldDescriptor (gT_6 k).2.2.1 = some (gt_6 k) := by decide +kernel
def gR_7 : String := "DecreedStreetsModel"
def gT_7 : u_T := fun k => match k with
  | 0 => ("DecreedStreetsModel", "corners", "I", false)
  | 1 => ("DecreedStreetsModel", "half", "I", false)
  | 2 => ("DecreedStreetsModel", "streets", "I", false)
  | 3 => ("DecreedStreetsModel", "from", "[I", true)
  | 4 => ("DecreedStreetsModel", "to", "[I", true)
  | 5 => ("DecreedStreetsModel", "wide", "[I", true)
  | 6 => ("DecreedStreetsModel", "carts", "I", false)
  | 7 => ("DecreedStreetsModel", "begins", "[I", true)
  | 8 => ("DecreedStreetsModel", "wants", "[I", true)
  | 9 => ("DecreedStreetsModel", "starts", "[I", true)
  | 10 => ("DecreedStreetsModel", "patience", "[I", true)
  | 11 => ("DecreedStreetsModel", "far", "[I", true)
  | 12 => ("DecreedStreetsModel", "now", "[I", true)
  | 13 => ("DecreedStreetsModel", "seed", "I", false)
  | 14 => ("DecreedStreetsModel", "text", "[I", true)
  | 15 => ("DecreedStreetsModel", "texted", "I", false)
  | 16 => ("DecreedStreetsModel", "faultPlace", "I", false)
  | 17 => ("DecreedStreetsModel", "at0", "I", false)
  | 18 => ("DecreedStreetsModel", "number", "I", false)
  | 19 => ("DecreedStreetsModel", "numberAt", "I", false)
  | 20 => ("DecreedStreetsModel", "readCity", "[I", true)
  | 21 => ("DecreedStreetsModel", "readStreets", "I", false)
  | 22 => ("DecreedStreetsModel", "readFrom", "[I", true)
  | 23 => ("DecreedStreetsModel", "readTo", "[I", true)
  | 24 => ("DecreedStreetsModel", "readWide", "[I", true)
  | 25 => ("DecreedStreetsModel", "readLaw", "[I", true)
  | 26 => ("DecreedStreetsModel", "readCarts", "I", false)
  | 27 => ("DecreedStreetsModel", "readBegins", "[I", true)
  | 28 => ("DecreedStreetsModel", "readWants", "[I", true)
  | 29 => ("DecreedStreetsModel", "readStarts", "[I", true)
  | 30 => ("DecreedStreetsModel", "readRank", "[I", true)
  | 31 => ("DecreedStreetsModel", "readPatience", "[I", true)
  | 32 => ("DecreedStreetsModel", "absent", "I", false)
  | 33 => ("DecreedStreetsModel", "was", "[I", true)
  | 34 => ("DecreedStreetsModel", "soonest", "[I", true)
  | 35 => ("DecreedStreetsModel", "fewest", "[I", true)
  | 36 => ("DecreedStreetsModel", "given", "[I", true)
  | 37 => ("DecreedStreetsModel", "bestGiven", "[I", true)
  | 38 => ("DecreedStreetsModel", "ruts", "I", false)
  | 39 => ("DecreedStreetsModel", "rutStreet", "[I", true)
  | 40 => ("DecreedStreetsModel", "rutBehind", "[I", true)
  | 41 => ("DecreedStreetsModel", "rutWay", "[I", true)
  | 42 => ("DecreedStreetsModel", "booked", "I", false)
  | 43 => ("DecreedStreetsModel", "bookWho", "[I", true)
  | 44 => ("DecreedStreetsModel", "bookMinute", "[I", true)
  | 45 => ("DecreedStreetsModel", "images", "[I", true)
  | _ => ("DecreedStreetsModel", "isKept", "[Z", true)
def gt_7 : Nat → FieldType := fun k => match k with
  | 0 => .int
  | 1 => .int
  | 2 => .int
  | 3 => .array .int
  | 4 => .array .int
  | 5 => .array .int
  | 6 => .int
  | 7 => .array .int
  | 8 => .array .int
  | 9 => .array .int
  | 10 => .array .int
  | 11 => .array .int
  | 12 => .array .int
  | 13 => .int
  | 14 => .array .int
  | 15 => .int
  | 16 => .int
  | 17 => .int
  | 18 => .int
  | 19 => .int
  | 20 => .array .int
  | 21 => .int
  | 22 => .array .int
  | 23 => .array .int
  | 24 => .array .int
  | 25 => .array .int
  | 26 => .int
  | 27 => .array .int
  | 28 => .array .int
  | 29 => .array .int
  | 30 => .array .int
  | 31 => .array .int
  | 32 => .int
  | 33 => .array .int
  | 34 => .array .int
  | 35 => .array .int
  | 36 => .array .int
  | 37 => .array .int
  | 38 => .int
  | 39 => .array .int
  | 40 => .array .int
  | 41 => .array .int
  | 42 => .int
  | 43 => .array .int
  | 44 => .array .int
  | 45 => .array .int
  | _ => .array .boolean
theorem gnm_7 : ∀ a, a < 47 → ∀ b, b < 47 → a ≠ b → (gT_7 a).2.1 ≠ (gT_7 b).2.1 := by decide +kernel
theorem gto_7 : ∀ k, k < 47 → parseFieldDescriptor (gT_7 k).2.2.1 = some (gt_7 k) := by decide +kernel
abbrev gcls : List vw_C := [(gR_0, gT_0, 15), (gR_1, gT_1, 4), (gR_2, gT_2, 6), (gR_3, gT_3, 6), (gR_4, gT_4, 12), (gR_5, gT_5, 3), (gR_6, gT_6, 11), (gR_7, gT_7, 47)]
def gtbl : List Cond := lw_tbl.filter goodWord
theorem gtbl_good : ∀ w ∈ gtbl, goodWord w = true := fun _ h => (List.mem_filter.mp h).2
theorem gtbl_in : ∀ w ∈ gtbl, w ∈ lw_tbl := fun _ h => (List.mem_filter.mp h).1
theorem gtab_at {w : Cond} (i : Nat) (h : tables_1[i]? = some w) (hg : goodWord w = true) : w ∈ gtbl := List.mem_filter.mpr ⟨List.mem_append_right _ (List.mem_of_getElem? h), hg⟩
set_option maxRecDepth 20000 in
theorem gin_0 : ∀ w ∈ u_ws gR_0 gT_0 15, w ∈ gtbl := by decide +kernel
set_option maxRecDepth 20000 in
theorem gin_1 : ∀ w ∈ u_ws gR_1 gT_1 4, w ∈ gtbl := by decide +kernel
set_option maxRecDepth 20000 in
theorem gin_2 : ∀ w ∈ u_ws gR_2 gT_2 6, w ∈ gtbl := by decide +kernel
set_option maxRecDepth 20000 in
theorem gin_3 : ∀ w ∈ u_ws gR_3 gT_3 6, w ∈ gtbl := by decide +kernel
set_option maxRecDepth 20000 in
theorem gin_4 : ∀ w ∈ u_ws gR_4 gT_4 12, w ∈ gtbl := by decide +kernel
set_option maxRecDepth 20000 in
theorem gin_5 : ∀ w ∈ u_ws gR_5 gT_5 3, w ∈ gtbl := by decide +kernel
set_option maxRecDepth 20000 in
theorem gin_6 : ∀ w ∈ u_ws gR_6 gT_6 11, w ∈ gtbl := by decide +kernel
set_option maxRecDepth 20000 in
theorem gin_7 : ∀ w ∈ u_ws gR_7 gT_7 47, w ∈ gtbl := by decide +kernel
abbrev gc_DS_init : ByteArray := prog_1_method_1_code
def gy_DS_init : MethodName := ⟨gR_6, "<init>", "()V"⟩
abbrev gc_DS_feed : ByteArray := prog_1_method_2_code
def gy_DS_feed : MethodName := ⟨gR_6, "feed", "(I)I"⟩
abbrev gc_DS_city : ByteArray := prog_1_method_3_code
def gy_DS_city : MethodName := ⟨gR_6, "city", "()I"⟩
abbrev gc_DS_fault : ByteArray := prog_1_method_4_code
def gy_DS_fault : MethodName := ⟨gR_6, "fault", "()I"⟩
abbrev gc_DS_told : ByteArray := prog_1_method_5_code
def gy_DS_told : MethodName := ⟨gR_6, "told", "(I)I"⟩
abbrev gc_DS_far : ByteArray := prog_1_method_6_code
def gy_DS_far : MethodName := ⟨gR_6, "far", "(II)I"⟩
abbrev gc_DS_street : ByteArray := prog_1_method_7_code
def gy_DS_street : MethodName := ⟨gR_6, "street", "(II)I"⟩
abbrev gc_DS_cart : ByteArray := prog_1_method_8_code
def gy_DS_cart : MethodName := ⟨gR_6, "cart", "(II)I"⟩
abbrev gc_DS_next : ByteArray := prog_1_method_9_code
def gy_DS_next : MethodName := ⟨gR_6, "next", "(I)I"⟩
abbrev gc_DS_foremost : ByteArray := prog_1_method_10_code
def gy_DS_foremost : MethodName := ⟨gR_6, "foremost", "(II)I"⟩
abbrev gc_DS_minute : ByteArray := prog_1_method_11_code
def gy_DS_minute : MethodName := ⟨gR_6, "minute", "(I)I"⟩
abbrev gc_DS_drift : ByteArray := prog_1_method_12_code
def gy_DS_drift : MethodName := ⟨gR_6, "drift", "(I)I"⟩
abbrev gc_DS_turn : ByteArray := prog_1_method_13_code
def gy_DS_turn : MethodName := ⟨gR_6, "turn", "(I)I"⟩
abbrev gc_DS_law : ByteArray := prog_1_method_14_code
def gy_DS_law : MethodName := ⟨gR_6, "law", "(II)I"⟩
abbrev gc_DS_rank : ByteArray := prog_1_method_15_code
def gy_DS_rank : MethodName := ⟨gR_6, "rank", "(II)I"⟩
abbrev gc_DS_allHome : ByteArray := prog_1_method_16_code
def gy_DS_allHome : MethodName := ⟨gR_6, "allHome", "(II)I"⟩
abbrev gc_DS_foreseen : ByteArray := prog_1_method_17_code
def gy_DS_foreseen : MethodName := ⟨gR_6, "foreseen", "(III)I"⟩
abbrev gc_DS_bought : ByteArray := prog_1_method_18_code
def gy_DS_bought : MethodName := ⟨gR_6, "bought", "(IIII)I"⟩
abbrev gc_DS_ranks : ByteArray := prog_1_method_19_code
def gy_DS_ranks : MethodName := ⟨gR_6, "ranks", "(II)I"⟩
abbrev gc_DS_bestLaw : ByteArray := prog_1_method_20_code
def gy_DS_bestLaw : MethodName := ⟨gR_6, "bestLaw", "(II)I"⟩
abbrev gc_DS_lost : ByteArray := prog_1_method_21_code
def gy_DS_lost : MethodName := ⟨gR_6, "lost", "()I"⟩
abbrev gc_DS_costs : ByteArray := prog_1_method_22_code
def gy_DS_costs : MethodName := ⟨gR_6, "costs", "(II)I"⟩
abbrev gc_DS_decree : ByteArray := prog_1_method_23_code
def gy_DS_decree : MethodName := ⟨gR_6, "decree", "(I)I"⟩
abbrev gc_DS_rut : ByteArray := prog_1_method_24_code
def gy_DS_rut : MethodName := ⟨gR_6, "rut", "(III)I"⟩
abbrev gc_DS_laws : ByteArray := prog_1_method_25_code
def gy_DS_laws : MethodName := ⟨gR_6, "laws", "(I)I"⟩
abbrev gc_DS_write : ByteArray := prog_1_method_26_code
def gy_DS_write : MethodName := ⟨gR_6, "write", "(II)I"⟩
abbrev gc_DS_tear : ByteArray := prog_1_method_27_code
def gy_DS_tear : MethodName := ⟨gR_6, "tear", "()I"⟩
abbrev gc_DS_judge : ByteArray := prog_1_method_28_code
def gy_DS_judge : MethodName := ⟨gR_6, "judge", "()I"⟩
abbrev gc_DS_seed : ByteArray := prog_1_method_29_code
def gy_DS_seed : MethodName := ⟨gR_6, "seed", "(I)I"⟩
abbrev gc_DS_keep : ByteArray := prog_1_method_30_code
def gy_DS_keep : MethodName := ⟨gR_6, "keep", "(I)I"⟩
abbrev gc_DS_goBack : ByteArray := prog_1_method_31_code
def gy_DS_goBack : MethodName := ⟨gR_6, "goBack", "(I)I"⟩
abbrev gc_DS_isOutside : ByteArray := prog_1_method_32_code
def gy_DS_isOutside : MethodName := ⟨gR_6, "isOutside", "(III)Z"⟩
abbrev gc_DS_isNoCorner : ByteArray := prog_1_method_33_code
def gy_DS_isNoCorner : MethodName := ⟨gR_6, "isNoCorner", "(I)Z"⟩
abbrev gc_DS_isNoStreet : ByteArray := prog_1_method_34_code
def gy_DS_isNoStreet : MethodName := ⟨gR_6, "isNoStreet", "(I)Z"⟩
abbrev gc_DS_isNoCart : ByteArray := prog_1_method_35_code
def gy_DS_isNoCart : MethodName := ⟨gR_6, "isNoCart", "(I)Z"⟩
abbrev gc_DS_refusalOfMinutes : ByteArray := prog_1_method_36_code
def gy_DS_refusalOfMinutes : MethodName := ⟨gR_6, "refusalOfMinutes", "(I)I"⟩
abbrev gc_DS_fitsRuts : ByteArray := prog_1_method_37_code
def gy_DS_fitsRuts : MethodName := ⟨gR_6, "fitsRuts", "(II)Z"⟩
abbrev gc_Mo_init : ByteArray := prog_9_method_1_code
def gy_Mo_init : MethodName := ⟨gR_7, "<init>", "()V"⟩
abbrev gc_Mo_in : ByteArray := prog_9_method_3_code
def gy_Mo_in : MethodName := ⟨gR_7, "in", "(JJJ)Z"⟩
abbrev gc_Mo_isCorner : ByteArray := prog_9_method_4_code
def gy_Mo_isCorner : MethodName := ⟨gR_7, "isCorner", "(I)Z"⟩
abbrev gc_Mo_isStreet : ByteArray := prog_9_method_5_code
def gy_Mo_isStreet : MethodName := ⟨gR_7, "isStreet", "(I)Z"⟩
abbrev gc_Mo_isCart : ByteArray := prog_9_method_6_code
def gy_Mo_isCart : MethodName := ⟨gR_7, "isCart", "(I)Z"⟩
abbrev gc_Mo_feed : ByteArray := prog_9_method_7_code
def gy_Mo_feed : MethodName := ⟨gR_7, "feed", "(I)I"⟩
abbrev gc_Mo_here : ByteArray := prog_9_method_8_code
def gy_Mo_here : MethodName := ⟨gR_7, "here", "()I"⟩
abbrev gc_Mo_fails : ByteArray := prog_9_method_9_code
def gy_Mo_fails : MethodName := ⟨gR_7, "fails", "(II)I"⟩
abbrev gc_Mo_takeNumber : ByteArray := prog_9_method_10_code
def gy_Mo_takeNumber : MethodName := ⟨gR_7, "takeNumber", "(II)I"⟩
abbrev gc_Mo_into : ByteArray := prog_9_method_11_code
def gy_Mo_into : MethodName := ⟨gR_7, "into", "([IIII)I"⟩
abbrev gc_Mo_takeTwo : ByteArray := prog_9_method_12_code
def gy_Mo_takeTwo : MethodName := ⟨gR_7, "takeTwo", "([I[II)I"⟩
abbrev gc_Mo_takeStreet : ByteArray := prog_9_method_13_code
def gy_Mo_takeStreet : MethodName := ⟨gR_7, "takeStreet", "()I"⟩
abbrev gc_Mo_takeCart : ByteArray := prog_9_method_14_code
def gy_Mo_takeCart : MethodName := ⟨gR_7, "takeCart", "()I"⟩
abbrev gc_Mo_takeCity : ByteArray := prog_9_method_15_code
def gy_Mo_takeCity : MethodName := ⟨gR_7, "takeCity", "()I"⟩
abbrev gc_Mo_takeClause : ByteArray := prog_9_method_16_code
def gy_Mo_takeClause : MethodName := ⟨gR_7, "takeClause", "()I"⟩
abbrev gc_Mo_findFar : ByteArray := prog_9_method_17_code
def gy_Mo_findFar : MethodName := ⟨gR_7, "findFar", "()V"⟩
abbrev gc_Mo_takeRead : ByteArray := prog_9_method_18_code
def gy_Mo_takeRead : MethodName := ⟨gR_7, "takeRead", "()V"⟩
abbrev gc_Mo_city : ByteArray := prog_9_method_19_code
def gy_Mo_city : MethodName := ⟨gR_7, "city", "()I"⟩
abbrev gc_Mo_fault : ByteArray := prog_9_method_20_code
def gy_Mo_fault : MethodName := ⟨gR_7, "fault", "()I"⟩
abbrev gc_Mo_cartsThat : ByteArray := prog_9_method_21_code
def gy_Mo_cartsThat : MethodName := ⟨gR_7, "cartsThat", "(I)I"⟩
abbrev gc_Mo_told : ByteArray := prog_9_method_22_code
def gy_Mo_told : MethodName := ⟨gR_7, "told", "(I)I"⟩
abbrev gc_Mo_far : ByteArray := prog_9_method_23_code
def gy_Mo_far : MethodName := ⟨gR_7, "far", "(II)I"⟩
abbrev gc_Mo_onStreet : ByteArray := prog_9_method_24_code
def gy_Mo_onStreet : MethodName := ⟨gR_7, "onStreet", "(I)I"⟩
abbrev gc_Mo_street : ByteArray := prog_9_method_25_code
def gy_Mo_street : MethodName := ⟨gR_7, "street", "(II)I"⟩
abbrev gc_Mo_cart : ByteArray := prog_9_method_26_code
def gy_Mo_cart : MethodName := ⟨gR_7, "cart", "(II)I"⟩
abbrev gc_Mo_other : ByteArray := prog_9_method_27_code
def gy_Mo_other : MethodName := ⟨gR_7, "other", "(II)I"⟩
abbrev gc_Mo_nextFrom : ByteArray := prog_9_method_28_code
def gy_Mo_nextFrom : MethodName := ⟨gR_7, "nextFrom", "(II)I"⟩
abbrev gc_Mo_nextOf : ByteArray := prog_9_method_29_code
def gy_Mo_nextOf : MethodName := ⟨gR_7, "nextOf", "(I)I"⟩
abbrev gc_Mo_next : ByteArray := prog_9_method_30_code
def gy_Mo_next : MethodName := ⟨gR_7, "next", "(I)I"⟩
abbrev gc_Mo_isWaiting : ByteArray := prog_9_method_31_code
def gy_Mo_isWaiting : MethodName := ⟨gR_7, "isWaiting", "(III)Z"⟩
abbrev gc_Mo_isAhead : ByteArray := prog_9_method_32_code
def gy_Mo_isAhead : MethodName := ⟨gR_7, "isAhead", "(II)Z"⟩
abbrev gc_Mo_foremostOf : ByteArray := prog_9_method_33_code
def gy_Mo_foremostOf : MethodName := ⟨gR_7, "foremostOf", "(II)I"⟩
abbrev gc_Mo_foremost : ByteArray := prog_9_method_34_code
def gy_Mo_foremost : MethodName := ⟨gR_7, "foremost", "(II)I"⟩
abbrev gc_Mo_longest : ByteArray := prog_9_method_35_code
def gy_Mo_longest : MethodName := ⟨gR_7, "longest", "(II)I"⟩
abbrev gc_Mo_waiting : ByteArray := prog_9_method_36_code
def gy_Mo_waiting : MethodName := ⟨gR_7, "waiting", "(II)I"⟩
abbrev gc_Mo_rankOf : ByteArray := prog_9_method_37_code
def gy_Mo_rankOf : MethodName := ⟨gR_7, "rankOf", "(I)I"⟩
abbrev gc_Mo_sideBy : ByteArray := prog_9_method_38_code
def gy_Mo_sideBy : MethodName := ⟨gR_7, "sideBy", "(III)I"⟩
abbrev gc_Mo_goesBy : ByteArray := prog_9_method_39_code
def gy_Mo_goesBy : MethodName := ⟨gR_7, "goesBy", "(I)I"⟩
abbrev gc_Mo_arrive : ByteArray := prog_9_method_40_code
def gy_Mo_arrive : MethodName := ⟨gR_7, "arrive", "(I)V"⟩
abbrev gc_Mo_start : ByteArray := prog_9_method_41_code
def gy_Mo_start : MethodName := ⟨gR_7, "start", "(I)V"⟩
abbrev gc_Mo_enter : ByteArray := prog_9_method_42_code
def gy_Mo_enter : MethodName := ⟨gR_7, "enter", "(I)V"⟩
abbrev gc_Mo_tire : ByteArray := prog_9_method_43_code
def gy_Mo_tire : MethodName := ⟨gR_7, "tire", "(I)V"⟩
abbrev gc_Mo_pass : ByteArray := prog_9_method_44_code
def gy_Mo_pass : MethodName := ⟨gR_7, "pass", "()V"⟩
abbrev gc_Mo_home : ByteArray := prog_9_method_45_code
def gy_Mo_home : MethodName := ⟨gR_7, "home", "()I"⟩
abbrev gc_Mo_minutesRefused : ByteArray := prog_9_method_46_code
def gy_Mo_minutesRefused : MethodName := ⟨gR_7, "minutesRefused", "(I)I"⟩
abbrev gc_Mo_minute : ByteArray := prog_9_method_47_code
def gy_Mo_minute : MethodName := ⟨gR_7, "minute", "(I)I"⟩
abbrev gc_Mo_draw : ByteArray := prog_9_method_48_code
def gy_Mo_draw : MethodName := ⟨gR_7, "draw", "(I)I"⟩
abbrev gc_Mo_turnNow : ByteArray := prog_9_method_49_code
def gy_Mo_turnNow : MethodName := ⟨gR_7, "turnNow", "(I)V"⟩
abbrev gc_Mo_drift : ByteArray := prog_9_method_50_code
def gy_Mo_drift : MethodName := ⟨gR_7, "drift", "(I)I"⟩
abbrev gc_Mo_turn : ByteArray := prog_9_method_51_code
def gy_Mo_turn : MethodName := ⟨gR_7, "turn", "(I)I"⟩
abbrev gc_Mo_law : ByteArray := prog_9_method_52_code
def gy_Mo_law : MethodName := ⟨gR_7, "law", "(II)I"⟩
abbrev gc_Mo_rank : ByteArray := prog_9_method_53_code
def gy_Mo_rank : MethodName := ⟨gR_7, "rank", "(II)I"⟩
abbrev gc_Mo_save : ByteArray := prog_9_method_54_code
def gy_Mo_save : MethodName := ⟨gR_7, "save", "()V"⟩
abbrev gc_Mo_putBack : ByteArray := prog_9_method_55_code
def gy_Mo_putBack : MethodName := ⟨gR_7, "putBack", "()V"⟩
abbrev gc_Mo_go : ByteArray := prog_9_method_56_code
def gy_Mo_go : MethodName := ⟨gR_7, "go", "(I)V"⟩
abbrev gc_Mo_minutes : ByteArray := prog_9_method_57_code
def gy_Mo_minutes : MethodName := ⟨gR_7, "minutes", "(I)I"⟩
abbrev gc_Mo_allHome : ByteArray := prog_9_method_58_code
def gy_Mo_allHome : MethodName := ⟨gR_7, "allHome", "(II)I"⟩
abbrev gc_Mo_entry : ByteArray := prog_9_method_59_code
def gy_Mo_entry : MethodName := ⟨gR_7, "entry", "(III)I"⟩
abbrev gc_Mo_foreseen : ByteArray := prog_9_method_60_code
def gy_Mo_foreseen : MethodName := ⟨gR_7, "foreseen", "(III)I"⟩
abbrev gc_Mo_come : ByteArray := prog_9_method_61_code
def gy_Mo_come : MethodName := ⟨gR_7, "come", "(II)V"⟩
abbrev gc_Mo_buy : ByteArray := prog_9_method_62_code
def gy_Mo_buy : MethodName := ⟨gR_7, "buy", "(IIII)V"⟩
abbrev gc_Mo_bought : ByteArray := prog_9_method_63_code
def gy_Mo_bought : MethodName := ⟨gR_7, "bought", "(IIII)I"⟩
abbrev gc_Mo_give : ByteArray := prog_9_method_64_code
def gy_Mo_give : MethodName := ⟨gR_7, "give", "(I)Z"⟩
abbrev gc_Mo_isLess : ByteArray := prog_9_method_65_code
def gy_Mo_isLess : MethodName := ⟨gR_7, "isLess", "([I[I)Z"⟩
abbrev gc_Mo_ranks : ByteArray := prog_9_method_66_code
def gy_Mo_ranks : MethodName := ⟨gR_7, "ranks", "(II)I"⟩
abbrev gc_Mo_bestLaw : ByteArray := prog_9_method_67_code
def gy_Mo_bestLaw : MethodName := ⟨gR_7, "bestLaw", "(II)I"⟩
abbrev gc_Mo_lost : ByteArray := prog_9_method_68_code
def gy_Mo_lost : MethodName := ⟨gR_7, "lost", "()I"⟩
abbrev gc_Mo_costs : ByteArray := prog_9_method_69_code
def gy_Mo_costs : MethodName := ⟨gR_7, "costs", "(II)I"⟩
abbrev gc_Mo_decree : ByteArray := prog_9_method_70_code
def gy_Mo_decree : MethodName := ⟨gR_7, "decree", "(I)I"⟩
abbrev gc_Mo_rut : ByteArray := prog_9_method_71_code
def gy_Mo_rut : MethodName := ⟨gR_7, "rut", "(III)I"⟩
abbrev gc_Mo_isRut : ByteArray := prog_9_method_72_code
def gy_Mo_isRut : MethodName := ⟨gR_7, "isRut", "(II)Z"⟩
abbrev gc_Mo_laws : ByteArray := prog_9_method_73_code
def gy_Mo_laws : MethodName := ⟨gR_7, "laws", "(I)I"⟩
abbrev gc_Mo_write : ByteArray := prog_9_method_74_code
def gy_Mo_write : MethodName := ⟨gR_7, "write", "(II)I"⟩
abbrev gc_Mo_tear : ByteArray := prog_9_method_75_code
def gy_Mo_tear : MethodName := ⟨gR_7, "tear", "()I"⟩
abbrev gc_Mo_judge : ByteArray := prog_9_method_76_code
def gy_Mo_judge : MethodName := ⟨gR_7, "judge", "()I"⟩
abbrev gc_Mo_seed : ByteArray := prog_9_method_77_code
def gy_Mo_seed : MethodName := ⟨gR_7, "seed", "(I)I"⟩
abbrev gc_Mo_keep : ByteArray := prog_9_method_78_code
def gy_Mo_keep : MethodName := ⟨gR_7, "keep", "(I)I"⟩
abbrev gc_Mo_goBack : ByteArray := prog_9_method_79_code
def gy_Mo_goBack : MethodName := ⟨gR_7, "goBack", "(I)I"⟩
abbrev gc_City_init : ByteArray := prog_2_method_1_code
def gy_City_init : MethodName := ⟨gR_0, "<init>", "()V"⟩
abbrev gc_City_clear : ByteArray := prog_2_method_2_code
def gy_City_clear : MethodName := ⟨gR_0, "clear", "()V"⟩
abbrev gc_City_distance : ByteArray := prog_2_method_3_code
def gy_City_distance : MethodName := ⟨gR_0, "distance", "(II)I"⟩
abbrev gc_City_nextStreet : ByteArray := prog_2_method_4_code
def gy_City_nextStreet : MethodName := ⟨gR_0, "nextStreet", "(II)I"⟩
abbrev gc_City_otherEnd : ByteArray := prog_2_method_5_code
def gy_City_otherEnd : MethodName := ⟨gR_0, "otherEnd", "(II)I"⟩
abbrev gc_City_sideOf : ByteArray := prog_2_method_6_code
def gy_City_sideOf : MethodName := ⟨gR_0, "sideOf", "(II)I"⟩
abbrev gc_City_measure : ByteArray := prog_2_method_7_code
def gy_City_measure : MethodName := ⟨gR_0, "measure", "()V"⟩
abbrev gc_City_shorten : ByteArray := prog_2_method_8_code
def gy_City_shorten : MethodName := ⟨gR_0, "shorten", "(III)V"⟩
abbrev gc_City_lead : ByteArray := prog_2_method_9_code
def gy_City_lead : MethodName := ⟨gR_0, "lead", "()V"⟩
abbrev gc_City_leastNearer : ByteArray := prog_2_method_10_code
def gy_City_leastNearer : MethodName := ⟨gR_0, "leastNearer", "(II)I"⟩
abbrev gc_Notes_init : ByteArray := prog_3_method_1_code
def gy_Notes_init : MethodName := ⟨gR_1, "<init>", "(I)V"⟩
abbrev gc_Notes_add : ByteArray := prog_3_method_2_code
def gy_Notes_add : MethodName := ⟨gR_1, "add", "(III)Z"⟩
abbrev gc_Notes_minutesOf : ByteArray := prog_3_method_3_code
def gy_Notes_minutesOf : MethodName := ⟨gR_1, "minutesOf", "(I)I"⟩
abbrev gc_Notes_agree : ByteArray := prog_3_method_4_code
def gy_Notes_agree : MethodName := ⟨gR_1, "agree", "(III)Z"⟩
abbrev gc_Reader_init : ByteArray := prog_4_method_1_code
def gy_Reader_init : MethodName := ⟨gR_2, "<init>", "()V"⟩
abbrev gc_Reader_add : ByteArray := prog_4_method_2_code
def gy_Reader_add : MethodName := ⟨gR_2, "add", "(I)Z"⟩
abbrev gc_Reader_readInto : ByteArray := prog_4_method_3_code
def gy_Reader_readInto : MethodName := ⟨gR_2, "readInto", "(LDecreedStreets$City;)I"⟩
abbrev gc_Reader_readClause : ByteArray := prog_4_method_4_code
def gy_Reader_readClause : MethodName := ⟨gR_2, "readClause", "(LDecreedStreets$City;)V"⟩
abbrev gc_Reader_readCorners : ByteArray := prog_4_method_5_code
def gy_Reader_readCorners : MethodName := ⟨gR_2, "readCorners", "(LDecreedStreets$City;)V"⟩
abbrev gc_Reader_readStreet : ByteArray := prog_4_method_6_code
def gy_Reader_readStreet : MethodName := ⟨gR_2, "readStreet", "(LDecreedStreets$City;)V"⟩
abbrev gc_Reader_readCart : ByteArray := prog_4_method_7_code
def gy_Reader_readCart : MethodName := ⟨gR_2, "readCart", "(LDecreedStreets$City;)V"⟩
abbrev gc_Reader_takeWord : ByteArray := prog_4_method_8_code
def gy_Reader_takeWord : MethodName := ⟨gR_2, "takeWord", "(Z)V"⟩
abbrev gc_Reader_readOther : ByteArray := prog_4_method_9_code
def gy_Reader_readOther : MethodName := ⟨gR_2, "readOther", "(II)I"⟩
abbrev gc_Reader_readNumber : ByteArray := prog_4_method_10_code
def gy_Reader_readNumber : MethodName := ⟨gR_2, "readNumber", "(II)I"⟩
abbrev gc_Reader_readEnd : ByteArray := prog_4_method_11_code
def gy_Reader_readEnd : MethodName := ⟨gR_2, "readEnd", "()V"⟩
abbrev gc_Reader_skipBlanks : ByteArray := prog_4_method_12_code
def gy_Reader_skipBlanks : MethodName := ⟨gR_2, "skipBlanks", "()V"⟩
abbrev gc_Reader_isFigure : ByteArray := prog_4_method_13_code
def gy_Reader_isFigure : MethodName := ⟨gR_2, "isFigure", "(I)Z"⟩
abbrev gc_Reader_fail : ByteArray := prog_4_method_14_code
def gy_Reader_fail : MethodName := ⟨gR_2, "fail", "(II)V"⟩
abbrev gc_Shuffle_init : ByteArray := prog_5_method_1_code
def gy_Shuffle_init : MethodName := ⟨gR_3, "<init>", "(LDecreedStreets$Traffic;LDecreedStreets$Traffic;)V"⟩
abbrev gc_Shuffle_forget : ByteArray := prog_5_method_2_code
def gy_Shuffle_forget : MethodName := ⟨gR_3, "forget", "()V"⟩
abbrev gc_Shuffle_find : ByteArray := prog_5_method_3_code
def gy_Shuffle_find : MethodName := ⟨gR_3, "find", "(I)V"⟩
abbrev gc_Shuffle_sortRanks : ByteArray := prog_5_method_4_code
def gy_Shuffle_sortRanks : MethodName := ⟨gR_3, "sortRanks", "([II)V"⟩
abbrev gc_Shuffle_goOn : ByteArray := prog_5_method_5_code
def gy_Shuffle_goOn : MethodName := ⟨gR_3, "goOn", "(I)Z"⟩
abbrev gc_Shuffle_swap : ByteArray := prog_5_method_6_code
def gy_Shuffle_swap : MethodName := ⟨gR_3, "swap", "(II)V"⟩
abbrev gc_Traffic_init : ByteArray := prog_6_method_1_code
def gy_Traffic_init : MethodName := ⟨gR_4, "<init>", "(LDecreedStreets$City;)V"⟩
abbrev gc_Traffic_begin : ByteArray := prog_6_method_2_code
def gy_Traffic_begin : MethodName := ⟨gR_4, "begin", "(LDecreedStreets$City;)V"⟩
abbrev gc_Traffic_copyFrom : ByteArray := prog_6_method_3_code
def gy_Traffic_copyFrom : MethodName := ⟨gR_4, "copyFrom", "(LDecreedStreets$Traffic;)V"⟩
abbrev gc_Traffic_decreeLaw : ByteArray := prog_6_method_4_code
def gy_Traffic_decreeLaw : MethodName := ⟨gR_4, "decreeLaw", "(II)V"⟩
abbrev gc_Traffic_those : ByteArray := prog_6_method_5_code
def gy_Traffic_those : MethodName := ⟨gR_4, "those", "(I)I"⟩
abbrev gc_Traffic_countHome : ByteArray := prog_6_method_6_code
def gy_Traffic_countHome : MethodName := ⟨gR_4, "countHome", "()I"⟩
abbrev gc_Traffic_toll : ByteArray := prog_6_method_7_code
def gy_Traffic_toll : MethodName := ⟨gR_4, "toll", "()I"⟩
abbrev gc_Traffic_together : ByteArray := prog_6_method_8_code
def gy_Traffic_together : MethodName := ⟨gR_4, "together", "(I)I"⟩
abbrev gc_Traffic_pass : ByteArray := prog_6_method_9_code
def gy_Traffic_pass : MethodName := ⟨gR_4, "pass", "(I)V"⟩
abbrev gc_Traffic_passByDraws : ByteArray := prog_6_method_10_code
def gy_Traffic_passByDraws : MethodName := ⟨gR_4, "passByDraws", "(I)V"⟩
abbrev gc_Traffic_draw : ByteArray := prog_6_method_11_code
def gy_Traffic_draw : MethodName := ⟨gR_4, "draw", "(I)I"⟩
abbrev gc_Traffic_skipIdle : ByteArray := prog_6_method_12_code
def gy_Traffic_skipIdle : MethodName := ⟨gR_4, "skipIdle", "(I)V"⟩
abbrev gc_Traffic_passOne : ByteArray := prog_6_method_13_code
def gy_Traffic_passOne : MethodName := ⟨gR_4, "passOne", "()V"⟩
abbrev gc_Traffic_arrive : ByteArray := prog_6_method_14_code
def gy_Traffic_arrive : MethodName := ⟨gR_4, "arrive", "(I)V"⟩
abbrev gc_Traffic_waitAt : ByteArray := prog_6_method_15_code
def gy_Traffic_waitAt : MethodName := ⟨gR_4, "waitAt", "(II)V"⟩
abbrev gc_Traffic_settle : ByteArray := prog_6_method_16_code
def gy_Traffic_settle : MethodName := ⟨gR_4, "settle", "(III)V"⟩
abbrev gc_Traffic_letIn : ByteArray := prog_6_method_17_code
def gy_Traffic_letIn : MethodName := ⟨gR_4, "letIn", "(I)V"⟩
abbrev gc_Traffic_losePatience : ByteArray := prog_6_method_18_code
def gy_Traffic_losePatience : MethodName := ⟨gR_4, "losePatience", "(I)V"⟩
abbrev gc_Traffic_wayByLaw : ByteArray := prog_6_method_19_code
def gy_Traffic_wayByLaw : MethodName := ⟨gR_4, "wayByLaw", "(I)I"⟩
abbrev gc_Traffic_wayOfLongest : ByteArray := prog_6_method_20_code
def gy_Traffic_wayOfLongest : MethodName := ⟨gR_4, "wayOfLongest", "(III)I"⟩
abbrev gc_Traffic_wayOfMore : ByteArray := prog_6_method_21_code
def gy_Traffic_wayOfMore : MethodName := ⟨gR_4, "wayOfMore", "(III)I"⟩
abbrev gc_Traffic_longest : ByteArray := prog_6_method_22_code
def gy_Traffic_longest : MethodName := ⟨gR_4, "longest", "(I)I"⟩
abbrev gc_Traffic_greatestRank : ByteArray := prog_6_method_23_code
def gy_Traffic_greatestRank : MethodName := ⟨gR_4, "greatestRank", "(I)I"⟩
abbrev gc_Traffic_firstOf : ByteArray := prog_6_method_24_code
def gy_Traffic_firstOf : MethodName := ⟨gR_4, "firstOf", "(I)I"⟩
abbrev gc_Traffic_isAheadOf : ByteArray := prog_6_method_25_code
def gy_Traffic_isAheadOf : MethodName := ⟨gR_4, "isAheadOf", "(II)Z"⟩
abbrev gc_Way_init : ByteArray := prog_7_method_1_code
def gy_Way_init : MethodName := ⟨gR_5, "<init>", "(LDecreedStreets$Traffic;)V"⟩
abbrev gc_Way_setOut : ByteArray := prog_7_method_2_code
def gy_Way_setOut : MethodName := ⟨gR_5, "setOut", "(II)V"⟩
abbrev gc_Way_spread : ByteArray := prog_7_method_3_code
def gy_Way_spread : MethodName := ⟨gR_5, "spread", "()V"⟩
abbrev gc_Way_fewestBought : ByteArray := prog_7_method_4_code
def gy_Way_fewestBought : MethodName := ⟨gR_5, "fewestBought", "(II)I"⟩
abbrev gc_Way_buyOne : ByteArray := prog_7_method_5_code
def gy_Way_buyOne : MethodName := ⟨gR_5, "buyOne", "()V"⟩
abbrev gc_Way_goBy : ByteArray := prog_7_method_6_code
def gy_Way_goBy : MethodName := ⟨gR_5, "goBy", "(II)Z"⟩
abbrev gc_Way_entry : ByteArray := prog_7_method_7_code
def gy_Way_entry : MethodName := ⟨gR_5, "entry", "(III)I"⟩
abbrev gc_Way_reach : ByteArray := prog_7_method_8_code
def gy_Way_reach : MethodName := ⟨gR_5, "reach", "(II)Z"⟩
abbrev gc_Law_law : ByteArray := code
abbrev gc_JO_init : ByteArray := object_method_1_code
def gy_JO_init : MethodName := ⟨"java/lang/Object", "<init>", "()V"⟩
abbrev gc_JI_bitCount : ByteArray := prog_10_method_49_code
def gy_JI_bitCount : MethodName := ⟨"java/lang/Integer", "bitCount", "(I)I"⟩
abbrev gc_JM_max : ByteArray := prog_11_method_65_code
def gy_JM_max : MethodName := ⟨"java/lang/Math", "max", "(II)I"⟩
abbrev gc_JM_min : ByteArray := prog_11_method_69_code
def gy_JM_min : MethodName := ⟨"java/lang/Math", "min", "(II)I"⟩
end
section
abbrev gV : Type := Int ⊕ (Int ⊕ Nat)
abbrev gL : Type := List (Nat × gV)
abbrev gH : Type := Nat → Nat → Int
abbrev gO : Type := gH × Int
abbrev gM : Type := ByteArray × String × Nat × Nat × Nat
abbrev gG : Type := ClassId × ClassId × ClassId
abbrev gZ : Type := Launch × va_G × Nat × List Nat × gG
abbrev gX : Type := gZ × Program × Env × Room × State × MethodId × Array Value × List Frame × Method × Code × Nat × Nat × Nat × (State → Prop) × Heap
abbrev zl (Z : gZ) : Launch := Z.1
abbrev zD (Z : gZ) : va_G := Z.2.1
abbrev zb (Z : gZ) : Nat := Z.2.2.1
abbrev zL (Z : gZ) : List Nat := Z.2.2.2.1
abbrev zG (Z : gZ) : gG := Z.2.2.2.2
abbrev xZ (X : gX) : gZ := X.1
abbrev xp (X : gX) : Program := X.2.1
abbrev xe (X : gX) : Env := X.2.2.1
abbrev xR (X : gX) : Room := X.2.2.2.1
abbrev xs (X : gX) : State := X.2.2.2.2.1
abbrev xm (X : gX) : MethodId := X.2.2.2.2.2.1
abbrev xa (X : gX) : Array Value := X.2.2.2.2.2.2.1
abbrev xb (X : gX) : List Frame := X.2.2.2.2.2.2.2.1
abbrev xme (X : gX) : Method := X.2.2.2.2.2.2.2.2.1
abbrev xc (X : gX) : Code := X.2.2.2.2.2.2.2.2.2.1
abbrev xn (X : gX) : Nat := X.2.2.2.2.2.2.2.2.2.2.1
abbrev xce (X : gX) : Nat := X.2.2.2.2.2.2.2.2.2.2.2.1
abbrev xsl (X : gX) : Nat := X.2.2.2.2.2.2.2.2.2.2.2.2.1
abbrev xQ (X : gX) : State → Prop := X.2.2.2.2.2.2.2.2.2.2.2.2.2.1
abbrev xH (X : gX) : Heap := X.2.2.2.2.2.2.2.2.2.2.2.2.2.2
def gem (b : Nat) (v : gV) : Value := match v with
  | .inl x => .int (Int32.ofInt x)
  | .inr (.inl x) => .long (Int64.ofInt x)
  | .inr (.inr a) => .ref (b + a)
def gR32 (x : Int) : Prop := -2147483648 ≤ x ∧ x ≤ 2147483647
def gR64 (x : Int) : Prop := -9223372036854775808 ≤ x ∧ x ≤ 9223372036854775807
def gRv (v : gV) : Prop := match v with
  | .inl x => gR32 x
  | .inr (.inl x) => gR64 x
  | .inr (.inr _) => True
def gRl (st : List gV) : Prop := ∀ v ∈ st, gRv v
def gRg (h : gH) : Prop := ∀ a i, gR32 (h a i)
def gup (h : gH) (a k : Nat) (v : Int) : gH := fun x y => if x = a ∧ y = k then v else h x y
abbrev gK : Type := (Nat × Nat) ⊕ Nat
def gtab : List gK := [.inr 6, .inr 0, .inl (0, 9), .inl (0, 9), .inl (0, 9), .inl (0, 9), .inl (0, 6), .inl (0, 6), .inl (0, 6), .inl (0, 6), .inl (0, 6), .inl (0, 49), .inl (0, 49), .inr 0, .inl (0, 9), .inl (0, 9), .inl (0, 9), .inl (0, 9), .inl (0, 6), .inl (0, 6), .inl (0, 6), .inl (0, 6), .inl (0, 6), .inl (0, 49), .inl (0, 49), .inr 2, .inl (0, 250), .inr 4, .inl (0, 9), .inl (0, 9), .inl (0, 9), .inl (0, 18), .inl (0, 6), .inl (0, 6), .inl (0, 6), .inl (0, 6), .inl (0, 6), .inr 4, .inl (0, 9), .inl (0, 9), .inl (0, 9), .inl (0, 18), .inl (0, 6), .inl (0, 6), .inl (0, 6), .inl (0, 6), .inl (0, 6), .inl (2, 2), .inr 4, .inl (0, 9), .inl (0, 9), .inl (0, 9), .inl (0, 18), .inl (0, 6), .inl (0, 6), .inl (0, 6), .inl (0, 6), .inl (0, 6), .inr 4, .inl (0, 9), .inl (0, 9), .inl (0, 9), .inl (0, 18), .inl (0, 6), .inl (0, 6), .inl (0, 6), .inl (0, 6), .inl (0, 6), .inl (1, 2), .inr 5, .inl (0, 7), .inl (0, 7), .inr 3, .inl (0, 6), .inl (0, 6), .inr 1, .inl (0, 8), .inl (0, 8), .inl (0, 8), .inr 1, .inl (0, 15), .inl (0, 15), .inl (0, 15), .inr 7, .inl (0, 9), .inl (0, 9), .inl (0, 9), .inl (0, 6), .inl (0, 6), .inl (0, 6), .inl (0, 6), .inl (0, 49), .inl (0, 50), .inl (0, 250), .inl (0, 2), .inl (0, 9), .inl (0, 9), .inl (0, 9), .inl (0, 9), .inl (0, 6), .inl (0, 6), .inl (0, 6), .inl (0, 6), .inl (0, 6), .inl (0, 50), .inl (0, 7), .inl (0, 2107), .inl (0, 6), .inl (0, 6), .inl (0, 8), .inl (0, 8), .inl (0, 8), .inl (0, 15), .inl (0, 15), .inl (0, 102), .inl (1, 2)]
def gN : Nat := 116
def gsh (i : Nat) : gK := gtab.getD i (.inl (9, 0))
def gln (i : Nat) : Int := match gsh i with
  | .inl (_, n) => (n : Int)
  | .inr _ => 0
def gfk (ci : Nat) : List (Nat × Nat) := match ci with
  | 0 => [(0, 0), (0, 0), (0, 0), (0, 0), (2, 1), (2, 2), (2, 3), (2, 4), (2, 5), (2, 6), (2, 7), (2, 8), (2, 9), (2, 10), (2, 11)]
  | 1 => [(0, 0), (2, 1), (2, 2), (2, 3)]
  | 2 => [(0, 0), (0, 0), (2, 1), (0, 0), (0, 0), (0, 0)]
  | 3 => [(0, 0), (2, 1), (2, 2), (3, 27), (3, 37), (0, 0)]
  | 4 => [(1, 0), (0, 0), (0, 0), (2, 1), (2, 2), (2, 3), (2, 4), (2, 5), (2, 6), (2, 7), (2, 8), (2, 9)]
  | 5 => [(2, 1), (2, 2), (3, 27)]
  | 6 => [(1, 0), (1, 0), (3, 25), (3, 27), (3, 37), (3, 47), (3, 68), (3, 69), (3, 72), (3, 75), (3, 79)]
  | _ => [(0, 0), (0, 0), (0, 0), (2, 1), (2, 2), (2, 3), (0, 0), (2, 4), (2, 5), (2, 6), (2, 7), (2, 8), (2, 9), (0, 0), (2, 10), (0, 0), (0, 0), (0, 0), (0, 0), (0, 0), (2, 11), (0, 0), (2, 12), (2, 13), (2, 14), (2, 15), (0, 0), (2, 16), (2, 17), (2, 18), (2, 19), (2, 20), (0, 0), (2, 21), (2, 22), (2, 23), (2, 24), (2, 25), (0, 0), (2, 26), (2, 27), (2, 28), (0, 0), (2, 29), (2, 30), (2, 31), (2, 32)]
def gfv (b i : Nat) (h : gH) (k : Nat) (q : Nat × Nat) : Value := match q.1 with
  | 0 => .int (Int32.ofInt (h i k))
  | 1 => .ref (b + (h i k).toNat)
  | 2 => .ref (b + (i + q.2))
  | _ => .ref (b + q.2)
def gE (G : gG) (b : Nat) (h : gH) (i : Nat) : va_E := match gsh i with
  | .inl (0, n) => .inl (G.1, n, .inl (fun j => Int32.ofInt (h i j)))
  | .inl (1, n) => .inl (G.2.1, n, .inl (fun j => Int32.ofInt (h i j)))
  | .inl (_, n) => .inl (G.2.2, n, .inr (.inr (.inr (.inr (fun j => some (b + (i + 1 + 10 * j)))))))
  | .inr ci => .inr (ci, (gfk ci).mapIdx (fun k q => gfv b i h k q))
def gW (Z : gZ) (h : gH) : va_W := (zL Z).map (fun i => (zb Z + i, gE (zG Z) (zb Z) h i))
def gA (Z : gZ) : Nat → Prop := fun q => ∃ i, i ∈ zL Z ∧ q = zb Z + i
def gTy (Z : gZ) : List (ClassId × FieldType) := [((zG Z).1, .int), ((zG Z).2.1, .boolean), ((zG Z).2.2, .object "DecreedStreets$Traffic")]
def gEL (b : Nat) (lv : gL) : List (Nat × Value) := lv.map (fun q => (q.1, gem b q.2))
def gKn (M : gM) (X : gX) : Prop :=
  (xp X).tables.exec = Jvm.exec ∧ (xc X).code = M.1 ∧ ((xc X).maxLocals = xn X ∧ xn X = M.2.2.2.2) ∧ (xs X).vm.findClass M.2.1 = some (xm X).cls ∧ (∀ w ∈ gtbl, w.before (xa X) (xs X) = true) ∧ va_K (zD (xZ X)) gcls (gTy (xZ X)) (xs X) ∧ M.2.2.1 ≤ (xR X).frames ∧ M.2.2.2.1 ≤ (xR X).locals ∧ xce X ≤ (xR X).cells ∧ xsl X ≤ (xR X).slots ∧ (zL (xZ X)).Nodup
def gSt (X : gX) (h : gH) (lv : gL) (H : Heap) (locs : List Loc) (ls : Array Slot) : Prop :=
  gRg h ∧ gRl (lv.map Prod.snd) ∧ va_P (zD (xZ X)) gcls (gW (xZ X) h) H ∧ va_S (gA (xZ X)) (xH X) H locs ∧ lv_has ls (xn X) (gEL (zb (xZ X)) lv)
def gWW (X : gX) (H : Heap) (locs : List Loc) (pc : Nat) (ls : Array Slot) (st : List gV) : Prop :=
  W (xp X) (zl (xZ X)) (xe X) (xR X) (xs X) (xm X) (xa X) (xb X) (xme X) (xc X) H locs (xce X) (xsl X) (xQ X) (F0 (xm X) pc ls (st.map (gem (zb (xZ X)))))
def gr (x : Option gO) (o : gO) (M : gM) (X : gX) (h : gH) (pc : Nat) (lv : gL) (st : List gV) : Prop :=
  x = some o → gKn M X → gRl st → ∀ (H : Heap) (locs : List Loc) (ls : Array Slot), gSt X h lv H locs ls → gWW X H locs pc ls st
/- the words of a program: guards, binds -/
def gd (c : Bool) (x : Option gO) : Option gO := if c then x else none
def gb (x : Option gO) (k : gH → Int → Option gO) : Option gO := match x with
  | some o => k o.1 o.2
  | none => none
def gs (h : gH) (k : gH → Option gO) : Option gO := k h
def gj {α : Type} (j : α) (k : α → Option gO) : Option gO := k j
def gix (n : Int) (i : Int) : Bool := decide (0 ≤ i) && decide (i < n)
def gcl (i ci : Nat) : Bool := decide (gsh i = .inr ci)
def gia (i : Nat) : Bool := match gsh i with
  | .inl (0, _) => true
  | _ => false
def gadd (x y : Int) : Int := (Int32.ofInt x + Int32.ofInt y).toInt
def gsub (x y : Int) : Int := (Int32.ofInt x - Int32.ofInt y).toInt
def gmul (x y : Int) : Int := (Int32.ofInt x * Int32.ofInt y).toInt
def gdiv (x y : Int) : Int := (Int32.ofInt x / Int32.ofInt y).toInt
def grem (x y : Int) : Int := (Int32.ofInt x - Int32.ofInt x / Int32.ofInt y * Int32.ofInt y).toInt
def gand (x y : Int) : Int := (Int32.ofInt x &&& Int32.ofInt y).toInt
def gor (x y : Int) : Int := (Int32.ofInt x ||| Int32.ofInt y).toInt
def gxor (x y : Int) : Int := (Int32.ofInt x ^^^ Int32.ofInt y).toInt
def gshl (x y : Int) : Int := (Int32.ofInt x <<< (Int32.ofInt y &&& 31)).toInt
def gshr (x y : Int) : Int := (Int32.ofInt x >>> (Int32.ofInt y &&& 31)).toInt
def gushr (x y : Int) : Int := ((Int32.ofInt x).toUInt32 >>> ((Int32.ofInt y).toUInt32 &&& Int32.toUInt32 31)).toInt32.toInt
def gl2i (x : Int) : Int := (Int64.ofInt x).toInt32.toInt
def gladd (x y : Int) : Int := (Int64.ofInt x + Int64.ofInt y).toInt
def glmul (x y : Int) : Int := (Int64.ofInt x * Int64.ofInt y).toInt
def gland (x y : Int) : Int := (Int64.ofInt x &&& Int64.ofInt y).toInt
def glrem (x y : Int) : Int := (Int64.ofInt x - Int64.ofInt x / Int64.ofInt y * Int64.ofInt y).toInt
def glcmp (x y : Int) : Int := if y < x then 1 else if x = y then 0 else -1
end
section
theorem g32 {x : Int} (h : gR32 x) : (Int32.ofInt x).toInt = x := Int32.toInt_ofInt_of_le (by have := h.1; omega) (by have := h.2; omega)
theorem g64 {x : Int} (h : gR64 x) : (Int64.ofInt x).toInt = x := Int64.toInt_ofInt_of_le (by have := h.1; omega) (by have := h.2; omega)
theorem gR_t (z : Int32) : gR32 z.toInt := ⟨by have := Int32.le_toInt z; omega, by have := Int32.toInt_lt z; omega⟩
theorem gR_t64 (z : Int64) : gR64 z.toInt := ⟨by have := Int64.le_toInt z; omega, by have := Int64.toInt_lt z; omega⟩
theorem glt {a b : Int} (ha : gR32 a) (hb : gR32 b) : Int32.ofInt a < Int32.ofInt b ↔ a < b := by rw [Int32.lt_iff_toInt_lt, g32 ha, g32 hb]
theorem gle {a b : Int} (ha : gR32 a) (hb : gR32 b) : Int32.ofInt a ≤ Int32.ofInt b ↔ a ≤ b := by rw [Int32.le_iff_toInt_le, g32 ha, g32 hb]
theorem geq {a b : Int} (ha : gR32 a) (hb : gR32 b) : Int32.ofInt a = Int32.ofInt b ↔ a = b := by rw [← Int32.toInt_inj, g32 ha, g32 hb]
theorem gR0 : gR32 0 := ⟨by decide, by decide⟩
theorem gof0 : (0 : Int32) = Int32.ofInt 0 := by decide
theorem gRl_c {v : gV} {st : List gV} (h1 : gRv v) (h2 : gRl st) : gRl (v :: st) := fun u hu => by
  rcases List.mem_cons.mp hu with rfl | hu
  · exact h1
  · exact h2 u hu
theorem gRl_h {v : gV} {st : List gV} (h : gRl (v :: st)) : gRv v := h v List.mem_cons_self
theorem gRl_t {v : gV} {st : List gV} (h : gRl (v :: st)) : gRl st := fun u hu => h u (List.mem_cons_of_mem _ hu)
theorem gRl_at {lv : gL} {k i : Nat} {v : gV} (h : gRl (lv.map Prod.snd)) (hk : lv[k]? = some (i, v)) : gRv v := h v (List.mem_map.mpr ⟨(i, v), List.mem_of_getElem? hk, rfl⟩)
theorem gEL_at {b : Nat} {lv : gL} {k i : Nat} {v : gV} (hk : lv[k]? = some (i, v)) : (gEL b lv)[k]? = some (i, gem b v) := by
  rw [gEL, List.getElem?_map, hk]; rfl
/- storing a local of one word -/
def gst (i : Nat) (v : gV) (lv : gL) : gL := (i, v) :: lv.filter (fun q => !(q.1 == i) && !(q.1 + 1 == i && (match q.2 with
  | .inr (.inl _) => true
  | _ => false)))
theorem gcat (b : Nat) (v : gV) : ((gem b v).category == 2) = (match v with
  | .inr (.inl _) => true
  | _ => false) := by
  rcases v with x | x | x <;> rfl
theorem gEL_st (b i : Nat) (v : gV) (lv : gL) : (i, gem b v) :: (gEL b lv).filter (fun q => !(q.1 == i) && !(q.1 + 1 == i && q.2.category == 2)) = gEL b (gst i v lv) := by
  rw [gst, gEL, gEL, List.map_cons, List.filter_map]
  congr 2
  apply List.filter_congr
  intro q _
  simp only [Function.comp, gcat]
theorem gRl_st {i : Nat} {v : gV} {lv : gL} (h1 : gRv v) (h2 : gRl (lv.map Prod.snd)) : gRl ((gst i v lv).map Prod.snd) := by
  intro u hu
  rw [gst, List.map_cons] at hu
  rcases List.mem_cons.mp hu with rfl | hu
  · exact h1
  · obtain ⟨q, hq, rfl⟩ := List.mem_map.mp hu
    exact h2 _ (List.mem_map.mpr ⟨q, (List.mem_filter.mp hq).1, rfl⟩)
theorem gr_ite {x y : Option gO} {o : gO} {M : gM} {X : gX} {h : gH} {pc : Nat} {lv : gL} {st : List gV} {c : Prop} {inst : Decidable c} (kt : c → gr x o M X h pc lv st) (kf : ¬ c → gr y o M X h pc lv st) : gr (@ite _ c inst x y) o M X h pc lv st := by
  by_cases hc : c
  · rw [if_pos hc]; exact kt hc
  · rw [if_neg hc]; exact kf hc
theorem gr_gd {x : Option gO} {o : gO} {M : gM} {X : gX} {h : gH} {pc : Nat} {lv : gL} {st : List gV} {c : Bool} (k : c = true → gr x o M X h pc lv st) : gr (gd c x) o M X h pc lv st := by
  intro hx
  cases c with
  | true => exact k rfl hx
  | false => cases hx
theorem gr_none {o : gO} {M : gM} {X : gX} {h : gH} {pc : Nat} {lv : gL} {st : List gV} : gr none o M X h pc lv st := fun hx => by cases hx
section GR
variable {x y : Option gO} {o : gO} {M : gM} {X : gX} {h : gH} {pc : Nat} {lv : gL} {st : List gV}
theorem gr_iconst {n v : Int} (hd : decode M.1 pc = .ok (.iconst n, 1)) (hv : Int32.ofInt n = Int32.ofInt v) (hr : gR32 v) (pc' : Nat) (hp : pc + 1 = pc') (k : gr x o M X h pc' lv (.inl v :: st)) : gr x o M X h pc lv st := by
  subst hp
  intro hx hK hs H locs ls hS
  exact lv_iconst hK.1 hK.2.1 hd hv (k hx hK (gRl_c hr hs) H locs ls hS)
theorem gr_bipush {n v : Int} (hd : decode M.1 pc = .ok (.bipush n, 2)) (hv : (Int8.ofInt n).toInt32 = Int32.ofInt v) (hr : gR32 v) (pc' : Nat) (hp : pc + 2 = pc') (k : gr x o M X h pc' lv (.inl v :: st)) : gr x o M X h pc lv st := by
  subst hp
  intro hx hK hs H locs ls hS
  exact lv_bipush hK.1 hK.2.1 hd hv (k hx hK (gRl_c hr hs) H locs ls hS)
theorem gr_sipush {n v : Int} (hd : decode M.1 pc = .ok (.sipush n, 3)) (hv : (Int16.ofInt n).toInt32 = Int32.ofInt v) (hr : gR32 v) (pc' : Nat) (hp : pc + 3 = pc') (k : gr x o M X h pc' lv (.inl v :: st)) : gr x o M X h pc lv st := by
  subst hp
  intro hx hK hs H locs ls hS
  exact lv_sipush hK.1 hK.2.1 hd hv (k hx hK (gRl_c hr hs) H locs ls hS)
theorem gr_lconst {n : Fin 2} {v : Int} (hd : decode M.1 pc = .ok (.lconst n, 1)) (hv : Int64.ofNat (n : Nat) = Int64.ofInt v) (hr : gR64 v) (pc' : Nat) (hp : pc + 1 = pc') (k : gr x o M X h pc' lv (.inr (.inl v) :: st)) : gr x o M X h pc lv st := by
  subst hp
  intro hx hK hs H locs ls hS
  exact lv_lconst hK.1 hK.2.1 hd hv (k hx hK (gRl_c hr hs) H locs ls hS)
theorem gr_ldc {index : Nat} {v : Int} (hd : decode M.1 pc = .ok (.ldc index, 2)) (hc : Cond.constant M.2.1 index (Int32.ofInt v) ∈ gtbl) (hr : gR32 v) (pc' : Nat) (hp : pc + 2 = pc') (k : gr x o M X h pc' lv (.inl v :: st)) : gr x o M X h pc lv st := by
  subst hp
  intro hx hK hs H locs ls hS
  exact lv_ldc hK.1 hK.2.1 hK.2.2.2.1 (hK.2.2.2.2.1 _ hc) hd (k hx hK (gRl_c hr hs) H locs ls hS)
theorem gr_ldc_w {index : Nat} {v : Int} (hd : decode M.1 pc = .ok (.ldc_w index, 3)) (hc : Cond.constant M.2.1 index (Int32.ofInt v) ∈ gtbl) (hr : gR32 v) (pc' : Nat) (hp : pc + 3 = pc') (k : gr x o M X h pc' lv (.inl v :: st)) : gr x o M X h pc lv st := by
  subst hp
  intro hx hK hs H locs ls hS
  exact lv_ldcw hK.1 hK.2.1 hK.2.2.2.1 (hK.2.2.2.2.1 _ hc) hd (k hx hK (gRl_c hr hs) H locs ls hS)
theorem gr_ldc2_w {index : Nat} {v : Int} (hd : decode M.1 pc = .ok (.ldc2_w index, 3)) (hc : Cond.constantLong M.2.1 index (Int64.ofInt v) ∈ gtbl) (hr : gR64 v) (pc' : Nat) (hp : pc + 3 = pc') (k : gr x o M X h pc' lv (.inr (.inl v) :: st)) : gr x o M X h pc lv st := by
  subst hp
  intro hx hK hs H locs ls hS
  exact lv_ldc2 hK.1 hK.2.1 hK.2.2.2.1 (hK.2.2.2.2.1 _ hc) hd (k hx hK (gRl_c hr hs) H locs ls hS)
theorem gr_iload_n {kk : Fin 4} {i : Nat} {a : Int} (hd : decode M.1 pc = .ok (.iload_n kk, 1)) (hi : (kk : Nat) = i) (q : Nat) (hq : lv[q]? = some (i, .inl a)) (pc' : Nat) (hp : pc + 1 = pc') (k : gr x o M X h pc' lv (.inl a :: st)) : gr x o M X h pc lv st := by
  subst hp
  intro hx hK hs H locs ls hS
  exact lv_iload_n hK.1 hK.2.1 hd hi (lv_at hS.2.2.2.2 q (gEL_at hq)) (k hx hK (gRl_c (gRl_at hS.2.1 hq) hs) H locs ls hS)
theorem gr_iload {i : Nat} {a : Int} (hd : decode M.1 pc = .ok (.iload i, 2)) (q : Nat) (hq : lv[q]? = some (i, .inl a)) (pc' : Nat) (hp : pc + 2 = pc') (k : gr x o M X h pc' lv (.inl a :: st)) : gr x o M X h pc lv st := by
  subst hp
  intro hx hK hs H locs ls hS
  exact lv_iload hK.1 hK.2.1 hd (lv_at hS.2.2.2.2 q (gEL_at hq)) (k hx hK (gRl_c (gRl_at hS.2.1 hq) hs) H locs ls hS)
theorem gr_lload_n {kk : Fin 4} {i : Nat} {a : Int} (hd : decode M.1 pc = .ok (.lload_n kk, 1)) (hi : (kk : Nat) = i) (q : Nat) (hq : lv[q]? = some (i, .inr (.inl a))) (pc' : Nat) (hp : pc + 1 = pc') (k : gr x o M X h pc' lv (.inr (.inl a) :: st)) : gr x o M X h pc lv st := by
  subst hp
  intro hx hK hs H locs ls hS
  exact lv_lload_n hK.1 hK.2.1 hd hi (lv_at hS.2.2.2.2 q (gEL_at hq)) (k hx hK (gRl_c (gRl_at hS.2.1 hq) hs) H locs ls hS)
theorem gr_lload {i : Nat} {a : Int} (hd : decode M.1 pc = .ok (.lload i, 2)) (q : Nat) (hq : lv[q]? = some (i, .inr (.inl a))) (pc' : Nat) (hp : pc + 2 = pc') (k : gr x o M X h pc' lv (.inr (.inl a) :: st)) : gr x o M X h pc lv st := by
  subst hp
  intro hx hK hs H locs ls hS
  exact lv_lload hK.1 hK.2.1 hd (lv_at hS.2.2.2.2 q (gEL_at hq)) (k hx hK (gRl_c (gRl_at hS.2.1 hq) hs) H locs ls hS)
theorem gr_aload_n {kk : Fin 4} {i : Nat} {a : Nat} (hd : decode M.1 pc = .ok (.aload_n kk, 1)) (hi : (kk : Nat) = i) (q : Nat) (hq : lv[q]? = some (i, .inr (.inr a))) (pc' : Nat) (hp : pc + 1 = pc') (k : gr x o M X h pc' lv (.inr (.inr a) :: st)) : gr x o M X h pc lv st := by
  subst hp
  intro hx hK hs H locs ls hS
  exact lv_aload_n hK.1 hK.2.1 hd hi (lv_at hS.2.2.2.2 q (gEL_at hq)) (k hx hK (gRl_c (gRl_at hS.2.1 hq) hs) H locs ls hS)
theorem gr_aload {i : Nat} {a : Nat} (hd : decode M.1 pc = .ok (.aload i, 2)) (q : Nat) (hq : lv[q]? = some (i, .inr (.inr a))) (pc' : Nat) (hp : pc + 2 = pc') (k : gr x o M X h pc' lv (.inr (.inr a) :: st)) : gr x o M X h pc lv st := by
  subst hp
  intro hx hK hs H locs ls hS
  exact lv_aload hK.1 hK.2.1 hd (lv_at hS.2.2.2.2 q (gEL_at hq)) (k hx hK (gRl_c (gRl_at hS.2.1 hq) hs) H locs ls hS)
theorem gr_istore_n {kk : Fin 4} {i : Nat} {a : Int} {lv' : gL} (hd : decode M.1 pc = .ok (.istore_n kk, 1)) (hi : (kk : Nat) = i) (hn : i < M.2.2.2.2) (hl : gst i (.inl a) lv = lv') (pc' : Nat) (hp : pc + 1 = pc') (k : gr x o M X h pc' lv' st) : gr x o M X h pc lv (.inl a :: st) := by
  subst hp
  subst hl
  intro hx hK hs H locs ls hS
  exact lv_istore_n hK.1 hK.2.1 hd hi hS.2.2.2.2 (by rw [hK.2.2.1.2]; exact hn) (gEL_st (zb (xZ X)) i (.inl a) lv) (fun ls' h' => k hx hK (gRl_t hs) H locs ls' ⟨hS.1, gRl_st (gRl_h hs) hS.2.1, hS.2.2.1, hS.2.2.2.1, h'⟩)
theorem gr_istore {kk : Fin 4} {i : Nat} {a : Int} {lv' : gL} (hd : decode M.1 pc = .ok (.istore i, 2)) (hn : i < M.2.2.2.2) (hl : gst i (.inl a) lv = lv') (pc' : Nat) (hp : pc + 2 = pc') (k : gr x o M X h pc' lv' st) : gr x o M X h pc lv (.inl a :: st) := by
  subst hp
  subst hl
  intro hx hK hs H locs ls hS
  exact lv_istore hK.1 hK.2.1 hd hS.2.2.2.2 (by rw [hK.2.2.1.2]; exact hn) (gEL_st (zb (xZ X)) i (.inl a) lv) (fun ls' h' => k hx hK (gRl_t hs) H locs ls' ⟨hS.1, gRl_st (gRl_h hs) hS.2.1, hS.2.2.1, hS.2.2.2.1, h'⟩)
theorem gr_astore_n {kk : Fin 4} {i : Nat} {a : Nat} {lv' : gL} (hd : decode M.1 pc = .ok (.astore_n kk, 1)) (hi : (kk : Nat) = i) (hn : i < M.2.2.2.2) (hl : gst i (.inr (.inr a)) lv = lv') (pc' : Nat) (hp : pc + 1 = pc') (k : gr x o M X h pc' lv' st) : gr x o M X h pc lv (.inr (.inr a) :: st) := by
  subst hp
  subst hl
  intro hx hK hs H locs ls hS
  exact lv_astore_n hK.1 hK.2.1 hd hi hS.2.2.2.2 (by rw [hK.2.2.1.2]; exact hn) (gEL_st (zb (xZ X)) i (.inr (.inr a)) lv) (fun ls' h' => k hx hK (gRl_t hs) H locs ls' ⟨hS.1, gRl_st (gRl_h hs) hS.2.1, hS.2.2.1, hS.2.2.2.1, h'⟩)
theorem gr_astore {kk : Fin 4} {i : Nat} {a : Nat} {lv' : gL} (hd : decode M.1 pc = .ok (.astore i, 2)) (hn : i < M.2.2.2.2) (hl : gst i (.inr (.inr a)) lv = lv') (pc' : Nat) (hp : pc + 2 = pc') (k : gr x o M X h pc' lv' st) : gr x o M X h pc lv (.inr (.inr a) :: st) := by
  subst hp
  subst hl
  intro hx hK hs H locs ls hS
  exact lv_astore hK.1 hK.2.1 hd hS.2.2.2.2 (by rw [hK.2.2.1.2]; exact hn) (gEL_st (zb (xZ X)) i (.inr (.inr a)) lv) (fun ls' h' => k hx hK (gRl_t hs) H locs ls' ⟨hS.1, gRl_st (gRl_h hs) hS.2.1, hS.2.2.1, hS.2.2.2.1, h'⟩)
theorem gr_iinc {i : Nat} {n a v : Int} {lv' : gL} (hd : decode M.1 pc = .ok (.iinc i n, 3)) (q : Nat) (hq : lv[q]? = some (i, .inl a)) (hv : gadd a n = v) (hn : i < M.2.2.2.2) (hl : gst i (.inl v) lv = lv') (pc' : Nat) (hp : pc + 3 = pc') (k : gr x o M X h pc' lv' st) : gr x o M X h pc lv st := by
  subst hp
  subst hl
  subst hv
  intro hx hK hs H locs ls hS
  exact lv_iinc hK.1 hK.2.1 hd hS.2.2.2.2 (gEL_at (k := q) hq) (v := Int32.ofInt (gadd a n)) (by rw [gadd, Int32.ofInt_toInt]) (by rw [hK.2.2.1.2]; exact hn) (gEL_st (zb (xZ X)) i (.inl (gadd a n)) lv) (fun ls' h' => k hx hK hs H locs ls' ⟨hS.1, gRl_st (gR_t _) hS.2.1, hS.2.2.1, hS.2.2.2.1, h'⟩)
theorem gr_iadd {a b : Int} (hd : decode M.1 pc = .ok (.iadd, 1)) (pc' : Nat) (hp : pc + 1 = pc') (k : gr x o M X h pc' lv (.inl (gadd a b) :: st)) : gr x o M X h pc lv (.inl b :: .inl a :: st) := by
  subst hp
  intro hx hK hs H locs ls hS
  have q := k hx hK (gRl_c (gR_t _) (gRl_t (gRl_t hs))) H locs ls hS
  rw [gWW, List.map_cons, gem, gadd, Int32.ofInt_toInt] at q
  exact lv_iadd hK.1 hK.2.1 hd q
theorem gr_isub {a b : Int} (hd : decode M.1 pc = .ok (.isub, 1)) (pc' : Nat) (hp : pc + 1 = pc') (k : gr x o M X h pc' lv (.inl (gsub a b) :: st)) : gr x o M X h pc lv (.inl b :: .inl a :: st) := by
  subst hp
  intro hx hK hs H locs ls hS
  have q := k hx hK (gRl_c (gR_t _) (gRl_t (gRl_t hs))) H locs ls hS
  rw [gWW, List.map_cons, gem, gsub, Int32.ofInt_toInt] at q
  exact lv_isub hK.1 hK.2.1 hd q
theorem gr_imul {a b : Int} (hd : decode M.1 pc = .ok (.imul, 1)) (pc' : Nat) (hp : pc + 1 = pc') (k : gr x o M X h pc' lv (.inl (gmul a b) :: st)) : gr x o M X h pc lv (.inl b :: .inl a :: st) := by
  subst hp
  intro hx hK hs H locs ls hS
  have q := k hx hK (gRl_c (gR_t _) (gRl_t (gRl_t hs))) H locs ls hS
  rw [gWW, List.map_cons, gem, gmul, Int32.ofInt_toInt] at q
  exact lv_imul hK.1 hK.2.1 hd q
theorem gr_iand {a b : Int} (hd : decode M.1 pc = .ok (.iand, 1)) (pc' : Nat) (hp : pc + 1 = pc') (k : gr x o M X h pc' lv (.inl (gand a b) :: st)) : gr x o M X h pc lv (.inl b :: .inl a :: st) := by
  subst hp
  intro hx hK hs H locs ls hS
  have q := k hx hK (gRl_c (gR_t _) (gRl_t (gRl_t hs))) H locs ls hS
  rw [gWW, List.map_cons, gem, gand, Int32.ofInt_toInt] at q
  exact lv_iand hK.1 hK.2.1 hd q
theorem gr_ior {a b : Int} (hd : decode M.1 pc = .ok (.ior, 1)) (pc' : Nat) (hp : pc + 1 = pc') (k : gr x o M X h pc' lv (.inl (gor a b) :: st)) : gr x o M X h pc lv (.inl b :: .inl a :: st) := by
  subst hp
  intro hx hK hs H locs ls hS
  have q := k hx hK (gRl_c (gR_t _) (gRl_t (gRl_t hs))) H locs ls hS
  rw [gWW, List.map_cons, gem, gor, Int32.ofInt_toInt] at q
  exact lv_ior hK.1 hK.2.1 hd q
theorem gr_ixor {a b : Int} (hd : decode M.1 pc = .ok (.ixor, 1)) (pc' : Nat) (hp : pc + 1 = pc') (k : gr x o M X h pc' lv (.inl (gxor a b) :: st)) : gr x o M X h pc lv (.inl b :: .inl a :: st) := by
  subst hp
  intro hx hK hs H locs ls hS
  have q := k hx hK (gRl_c (gR_t _) (gRl_t (gRl_t hs))) H locs ls hS
  rw [gWW, List.map_cons, gem, gxor, Int32.ofInt_toInt] at q
  exact lv_ixor hK.1 hK.2.1 hd q
theorem gr_ishl {a b : Int} (hd : decode M.1 pc = .ok (.ishl, 1)) (pc' : Nat) (hp : pc + 1 = pc') (k : gr x o M X h pc' lv (.inl (gshl a b) :: st)) : gr x o M X h pc lv (.inl b :: .inl a :: st) := by
  subst hp
  intro hx hK hs H locs ls hS
  have q := k hx hK (gRl_c (gR_t _) (gRl_t (gRl_t hs))) H locs ls hS
  rw [gWW, List.map_cons, gem, gshl, Int32.ofInt_toInt] at q
  exact lv_ishl hK.1 hK.2.1 hd q
theorem gr_ishr {a b : Int} (hd : decode M.1 pc = .ok (.ishr, 1)) (pc' : Nat) (hp : pc + 1 = pc') (k : gr x o M X h pc' lv (.inl (gshr a b) :: st)) : gr x o M X h pc lv (.inl b :: .inl a :: st) := by
  subst hp
  intro hx hK hs H locs ls hS
  have q := k hx hK (gRl_c (gR_t _) (gRl_t (gRl_t hs))) H locs ls hS
  rw [gWW, List.map_cons, gem, gshr, Int32.ofInt_toInt] at q
  exact lv_ishr hK.1 hK.2.1 hd q
theorem gr_iushr {a b : Int} (hd : decode M.1 pc = .ok (.iushr, 1)) (pc' : Nat) (hp : pc + 1 = pc') (k : gr x o M X h pc' lv (.inl (gushr a b) :: st)) : gr x o M X h pc lv (.inl b :: .inl a :: st) := by
  subst hp
  intro hx hK hs H locs ls hS
  have q := k hx hK (gRl_c (gR_t _) (gRl_t (gRl_t hs))) H locs ls hS
  rw [gWW, List.map_cons, gem, gushr, Int32.ofInt_toInt] at q
  exact lv_iushr hK.1 hK.2.1 hd rfl q
theorem gr_idiv {a b : Int} (hd : decode M.1 pc = .ok (.idiv, 1)) (pc' : Nat) (hp : pc + 1 = pc') (k : gr x o M X h pc' lv (.inl (gdiv a b) :: st)) : gr (gd (decide (b ≠ 0)) x) o M X h pc lv (.inl b :: .inl a :: st) := by
  subst hp
  refine gr_gd fun hc => ?_
  intro hx hK hs H locs ls hS
  have q := k hx hK (gRl_c (gR_t _) (gRl_t (gRl_t hs))) H locs ls hS
  rw [gWW, List.map_cons, gem, gdiv, Int32.ofInt_toInt] at q
  refine lv_idiv hK.1 hK.2.1 hd (fun e => ?_) q
  rw [gof0, geq (gRl_h hs) gR0] at e
  exact (of_decide_eq_true hc) e
theorem gr_irem {a b : Int} (hd : decode M.1 pc = .ok (.irem, 1)) (pc' : Nat) (hp : pc + 1 = pc') (k : gr x o M X h pc' lv (.inl (grem a b) :: st)) : gr (gd (decide (b ≠ 0)) x) o M X h pc lv (.inl b :: .inl a :: st) := by
  subst hp
  refine gr_gd fun hc => ?_
  intro hx hK hs H locs ls hS
  have q := k hx hK (gRl_c (gR_t _) (gRl_t (gRl_t hs))) H locs ls hS
  rw [gWW, List.map_cons, gem, grem, Int32.ofInt_toInt] at q
  refine lv_irem hK.1 hK.2.1 hd (fun e => ?_) q
  rw [gof0, geq (gRl_h hs) gR0] at e
  exact (of_decide_eq_true hc) e
theorem gr_ladd {a b : Int} (hd : decode M.1 pc = .ok (.ladd, 1)) (pc' : Nat) (hp : pc + 1 = pc') (k : gr x o M X h pc' lv (.inr (.inl (gladd a b)) :: st)) : gr x o M X h pc lv (.inr (.inl b) :: .inr (.inl a) :: st) := by
  subst hp
  intro hx hK hs H locs ls hS
  have q := k hx hK (gRl_c (gR_t64 _) (gRl_t (gRl_t hs))) H locs ls hS
  rw [gWW, List.map_cons, gem, gladd, Int64.ofInt_toInt] at q
  exact lv_ladd hK.1 hK.2.1 hd q
theorem gr_lmul {a b : Int} (hd : decode M.1 pc = .ok (.lmul, 1)) (pc' : Nat) (hp : pc + 1 = pc') (k : gr x o M X h pc' lv (.inr (.inl (glmul a b)) :: st)) : gr x o M X h pc lv (.inr (.inl b) :: .inr (.inl a) :: st) := by
  subst hp
  intro hx hK hs H locs ls hS
  have q := k hx hK (gRl_c (gR_t64 _) (gRl_t (gRl_t hs))) H locs ls hS
  rw [gWW, List.map_cons, gem, glmul, Int64.ofInt_toInt] at q
  exact lv_lmul hK.1 hK.2.1 hd q
theorem gr_land {a b : Int} (hd : decode M.1 pc = .ok (.land, 1)) (pc' : Nat) (hp : pc + 1 = pc') (k : gr x o M X h pc' lv (.inr (.inl (gland a b)) :: st)) : gr x o M X h pc lv (.inr (.inl b) :: .inr (.inl a) :: st) := by
  subst hp
  intro hx hK hs H locs ls hS
  have q := k hx hK (gRl_c (gR_t64 _) (gRl_t (gRl_t hs))) H locs ls hS
  rw [gWW, List.map_cons, gem, gland, Int64.ofInt_toInt] at q
  exact lv_land hK.1 hK.2.1 hd q
theorem geq64 {a b : Int} (ha : gR64 a) (hb : gR64 b) : Int64.ofInt a = Int64.ofInt b ↔ a = b := by rw [← Int64.toInt_inj, g64 ha, g64 hb]
theorem glt64 {a b : Int} (ha : gR64 a) (hb : gR64 b) : Int64.ofInt a < Int64.ofInt b ↔ a < b := by rw [Int64.lt_iff_toInt_lt, g64 ha, g64 hb]
theorem gr_lrem {a b : Int} (hd : decode M.1 pc = .ok (.lrem, 1)) (pc' : Nat) (hp : pc + 1 = pc') (k : gr x o M X h pc' lv (.inr (.inl (glrem a b)) :: st)) : gr (gd (decide (b ≠ 0)) x) o M X h pc lv (.inr (.inl b) :: .inr (.inl a) :: st) := by
  subst hp
  refine gr_gd fun hc => ?_
  intro hx hK hs H locs ls hS
  have q := k hx hK (gRl_c (gR_t64 _) (gRl_t (gRl_t hs))) H locs ls hS
  rw [gWW, List.map_cons, gem, glrem, Int64.ofInt_toInt] at q
  refine lv_lrem hK.1 hK.2.1 hd (fun e => ?_) q
  rw [show (0 : Int64) = Int64.ofInt 0 by decide, geq64 (gRl_h hs) ⟨by decide, by decide⟩] at e
  exact (of_decide_eq_true hc) e
theorem gr_i2l {a : Int} (hd : decode M.1 pc = .ok (.i2l, 1)) (pc' : Nat) (hp : pc + 1 = pc') (k : gr x o M X h pc' lv (.inr (.inl a) :: st)) : gr x o M X h pc lv (.inl a :: st) := by
  subst hp
  intro hx hK hs H locs ls hS
  have ra : gR32 a := gRl_h hs
  have ra' : gR64 a := ⟨by have := ra.1; omega, by have := ra.2; omega⟩
  refine lv_i2l hK.1 hK.2.1 hd (v := Int64.ofInt a) ?_ (k hx hK (gRl_c ra' (gRl_t hs)) H locs ls hS)
  rw [← Int64.toInt_inj, Int32.toInt_toInt64, g32 ra, g64 ra']
theorem gr_l2i {a : Int} (hd : decode M.1 pc = .ok (.l2i, 1)) (pc' : Nat) (hp : pc + 1 = pc') (k : gr x o M X h pc' lv (.inl (gl2i a) :: st)) : gr x o M X h pc lv (.inr (.inl a) :: st) := by
  subst hp
  intro hx hK hs H locs ls hS
  refine lv_l2i hK.1 hK.2.1 hd (v := Int32.ofInt (gl2i a)) (by rw [gl2i, Int32.ofInt_toInt]) (k hx hK (gRl_c (gR_t _) (gRl_t hs)) H locs ls hS)
theorem gr_lcmp {a b : Int} (hd : decode M.1 pc = .ok (.lcmp, 1)) (pc' : Nat) (hp : pc + 1 = pc') (k : gr x o M X h pc' lv (.inl (glcmp a b) :: st)) : gr x o M X h pc lv (.inr (.inl b) :: .inr (.inl a) :: st) := by
  subst hp
  intro hx hK hs H locs ls hS
  have rb : gR64 b := gRl_h hs
  have ra : gR64 a := gRl_h (gRl_t hs)
  have e : lg_cmp (Int64.ofInt a) (Int64.ofInt b) = Int32.ofInt (glcmp a b) := by
    unfold lg_cmp glcmp
    by_cases c1 : b < a
    · rw [if_pos (show Int64.ofInt a > Int64.ofInt b from (glt64 rb ra).mpr c1), if_pos c1]; rfl
    · rw [if_neg (show ¬ Int64.ofInt a > Int64.ofInt b from fun q => c1 ((glt64 rb ra).mp q)), if_neg c1]
      by_cases c2 : a = b
      · rw [if_pos ((geq64 ra rb).mpr c2), if_pos c2]; rfl
      · rw [if_neg (fun q => c2 ((geq64 ra rb).mp q)), if_neg c2]; rfl
  have rg : gR32 (glcmp a b) := by
    unfold glcmp gR32
    split <;> first | (split <;> omega) | omega
  have q := k hx hK (gRl_c rg (gRl_t (gRl_t hs))) H locs ls hS
  rw [gWW, List.map_cons, gem, ← e] at q
  exact W.lcmp hK.1 hK.2.1 hd q
theorem gcat1 (b : Nat) {v : gV} (hv : ∀ z, v ≠ .inr (.inl z)) : (gem b v).category = 1 := by
  rcases v with z | z | z
  · rfl
  · exact absurd rfl (hv z)
  · rfl
theorem gr_dup {v : gV} (hd : decode M.1 pc = .ok (.dup, 1)) (hv : ∀ z, v ≠ .inr (.inl z)) (pc' : Nat) (hp : pc + 1 = pc') (k : gr x o M X h pc' lv (v :: v :: st)) : gr x o M X h pc lv (v :: st) := by
  subst hp
  intro hx hK hs H locs ls hS
  exact lv_dup hK.1 hK.2.1 hd (gcat1 _ hv) (k hx hK (gRl_c (gRl_h hs) hs) H locs ls hS)
theorem gr_pop {v : gV} (hd : decode M.1 pc = .ok (.pop, 1)) (hv : ∀ z, v ≠ .inr (.inl z)) (pc' : Nat) (hp : pc + 1 = pc') (k : gr x o M X h pc' lv st) : gr x o M X h pc lv (v :: st) := by
  subst hp
  intro hx hK hs H locs ls hS
  exact lv_pop hK.1 hK.2.1 hd (gcat1 _ hv) (k hx hK (gRl_t hs) H locs ls hS)
theorem gr_dup2 {v u : gV} (hd : decode M.1 pc = .ok (.dup2, 1)) (hv : ∀ z, v ≠ .inr (.inl z)) (hu : ∀ z, u ≠ .inr (.inl z)) (pc' : Nat) (hp : pc + 1 = pc') (k : gr x o M X h pc' lv (v :: u :: v :: u :: st)) : gr x o M X h pc lv (v :: u :: st) := by
  subst hp
  intro hx hK hs H locs ls hS
  exact lv_dup2_11 hK.1 hK.2.1 hd (gcat1 _ hv) (gcat1 _ hu) (k hx hK (gRl_c (gRl_h hs) (gRl_c (gRl_h (gRl_t hs)) hs)) H locs ls hS)
theorem gr_goto {off : Int} (hd : decode M.1 pc = .ok (.goto off, 3)) (tgt : Nat) (ht : (pc : Int) + off = (tgt : Int)) (k : gr x o M X h tgt lv st) : gr x o M X h pc lv st := by
  intro hx hK hs H locs ls hS
  exact lv_goto hK.1 hK.2.1 hd ht (k hx hK hs H locs ls hS)
theorem gr_icmp_eq {a b off : Int} (hd : decode M.1 pc = .ok (.if_icmp .eq off, 3)) (tgt pc' : Nat) (ht : (pc : Int) + off = (tgt : Int)) (hp : pc + 3 = pc') (kt : a = b → gr x o M X h tgt lv st) (kf : ¬ (a = b) → gr y o M X h pc' lv st) : gr (if a = b then x else y) o M X h pc lv (.inl b :: .inl a :: st) := by
  subst hp
  intro hx hK hs H locs ls hS
  have rb : gR32 b := gRl_h hs
  have ra : gR32 a := gRl_h (gRl_t hs)
  refine lv_icmp_eq hK.1 hK.2.1 hd ht (fun c => ?_) (fun c => ?_)
  · have c' := (geq ra rb).mp c
    rw [if_pos c'] at hx
    exact kt c' hx hK (gRl_t (gRl_t hs)) H locs ls hS
  · have c' := fun q => c ((geq ra rb).mpr q)
    rw [if_neg c'] at hx
    exact kf c' hx hK (gRl_t (gRl_t hs)) H locs ls hS
theorem gr_if_eq {a off : Int} (hd : decode M.1 pc = .ok (.ifCond .eq off, 3)) (tgt pc' : Nat) (ht : (pc : Int) + off = (tgt : Int)) (hp : pc + 3 = pc') (kt : a = 0 → gr x o M X h tgt lv st) (kf : ¬ (a = 0) → gr y o M X h pc' lv st) : gr (if a = 0 then x else y) o M X h pc lv (.inl a :: st) := by
  subst hp
  intro hx hK hs H locs ls hS
  have ra : gR32 a := gRl_h hs
  refine lv_if_eq hK.1 hK.2.1 hd ht (fun c => ?_) (fun c => ?_)
  · rw [gof0] at c
    have c' := (geq ra gR0).mp c
    rw [if_pos c'] at hx
    exact kt c' hx hK (gRl_t hs) H locs ls hS
  · rw [gof0] at c
    have c' := fun q => c ((geq ra gR0).mpr q)
    rw [if_neg c'] at hx
    exact kf c' hx hK (gRl_t hs) H locs ls hS
theorem gr_icmp_lt {a b off : Int} (hd : decode M.1 pc = .ok (.if_icmp .lt off, 3)) (tgt pc' : Nat) (ht : (pc : Int) + off = (tgt : Int)) (hp : pc + 3 = pc') (kt : a < b → gr x o M X h tgt lv st) (kf : ¬ (a < b) → gr y o M X h pc' lv st) : gr (if a < b then x else y) o M X h pc lv (.inl b :: .inl a :: st) := by
  subst hp
  intro hx hK hs H locs ls hS
  have rb : gR32 b := gRl_h hs
  have ra : gR32 a := gRl_h (gRl_t hs)
  refine lv_icmp_lt hK.1 hK.2.1 hd ht (fun c => ?_) (fun c => ?_)
  · have c' := (glt ra rb).mp c
    rw [if_pos c'] at hx
    exact kt c' hx hK (gRl_t (gRl_t hs)) H locs ls hS
  · have c' := fun q => c ((glt ra rb).mpr q)
    rw [if_neg c'] at hx
    exact kf c' hx hK (gRl_t (gRl_t hs)) H locs ls hS
theorem gr_if_lt {a off : Int} (hd : decode M.1 pc = .ok (.ifCond .lt off, 3)) (tgt pc' : Nat) (ht : (pc : Int) + off = (tgt : Int)) (hp : pc + 3 = pc') (kt : a < 0 → gr x o M X h tgt lv st) (kf : ¬ (a < 0) → gr y o M X h pc' lv st) : gr (if a < 0 then x else y) o M X h pc lv (.inl a :: st) := by
  subst hp
  intro hx hK hs H locs ls hS
  have ra : gR32 a := gRl_h hs
  refine lv_if_lt hK.1 hK.2.1 hd ht (fun c => ?_) (fun c => ?_)
  · rw [gof0] at c
    have c' := (glt ra gR0).mp c
    rw [if_pos c'] at hx
    exact kt c' hx hK (gRl_t hs) H locs ls hS
  · rw [gof0] at c
    have c' := fun q => c ((glt ra gR0).mpr q)
    rw [if_neg c'] at hx
    exact kf c' hx hK (gRl_t hs) H locs ls hS
theorem gr_icmp_ge {a b off : Int} (hd : decode M.1 pc = .ok (.if_icmp .ge off, 3)) (tgt pc' : Nat) (ht : (pc : Int) + off = (tgt : Int)) (hp : pc + 3 = pc') (kt : b ≤ a → gr x o M X h tgt lv st) (kf : ¬ (b ≤ a) → gr y o M X h pc' lv st) : gr (if b ≤ a then x else y) o M X h pc lv (.inl b :: .inl a :: st) := by
  subst hp
  intro hx hK hs H locs ls hS
  have rb : gR32 b := gRl_h hs
  have ra : gR32 a := gRl_h (gRl_t hs)
  refine lv_icmp_ge hK.1 hK.2.1 hd ht (fun c => ?_) (fun c => ?_)
  · have c' := (gle rb ra).mp c
    rw [if_pos c'] at hx
    exact kt c' hx hK (gRl_t (gRl_t hs)) H locs ls hS
  · have c' := fun q => c ((gle rb ra).mpr q)
    rw [if_neg c'] at hx
    exact kf c' hx hK (gRl_t (gRl_t hs)) H locs ls hS
theorem gr_if_ge {a off : Int} (hd : decode M.1 pc = .ok (.ifCond .ge off, 3)) (tgt pc' : Nat) (ht : (pc : Int) + off = (tgt : Int)) (hp : pc + 3 = pc') (kt : 0 ≤ a → gr x o M X h tgt lv st) (kf : ¬ (0 ≤ a) → gr y o M X h pc' lv st) : gr (if 0 ≤ a then x else y) o M X h pc lv (.inl a :: st) := by
  subst hp
  intro hx hK hs H locs ls hS
  have ra : gR32 a := gRl_h hs
  refine lv_if_ge hK.1 hK.2.1 hd ht (fun c => ?_) (fun c => ?_)
  · rw [gof0] at c
    have c' := (gle gR0 ra).mp c
    rw [if_pos c'] at hx
    exact kt c' hx hK (gRl_t hs) H locs ls hS
  · rw [gof0] at c
    have c' := fun q => c ((gle gR0 ra).mpr q)
    rw [if_neg c'] at hx
    exact kf c' hx hK (gRl_t hs) H locs ls hS
theorem gr_icmp_gt {a b off : Int} (hd : decode M.1 pc = .ok (.if_icmp .gt off, 3)) (tgt pc' : Nat) (ht : (pc : Int) + off = (tgt : Int)) (hp : pc + 3 = pc') (kt : b < a → gr x o M X h tgt lv st) (kf : ¬ (b < a) → gr y o M X h pc' lv st) : gr (if b < a then x else y) o M X h pc lv (.inl b :: .inl a :: st) := by
  subst hp
  intro hx hK hs H locs ls hS
  have rb : gR32 b := gRl_h hs
  have ra : gR32 a := gRl_h (gRl_t hs)
  refine lv_icmp_gt hK.1 hK.2.1 hd ht (fun c => ?_) (fun c => ?_)
  · have c' := (glt rb ra).mp c
    rw [if_pos c'] at hx
    exact kt c' hx hK (gRl_t (gRl_t hs)) H locs ls hS
  · have c' := fun q => c ((glt rb ra).mpr q)
    rw [if_neg c'] at hx
    exact kf c' hx hK (gRl_t (gRl_t hs)) H locs ls hS
theorem gr_if_gt {a off : Int} (hd : decode M.1 pc = .ok (.ifCond .gt off, 3)) (tgt pc' : Nat) (ht : (pc : Int) + off = (tgt : Int)) (hp : pc + 3 = pc') (kt : 0 < a → gr x o M X h tgt lv st) (kf : ¬ (0 < a) → gr y o M X h pc' lv st) : gr (if 0 < a then x else y) o M X h pc lv (.inl a :: st) := by
  subst hp
  intro hx hK hs H locs ls hS
  have ra : gR32 a := gRl_h hs
  refine lv_if_gt hK.1 hK.2.1 hd ht (fun c => ?_) (fun c => ?_)
  · rw [gof0] at c
    have c' := (glt gR0 ra).mp c
    rw [if_pos c'] at hx
    exact kt c' hx hK (gRl_t hs) H locs ls hS
  · rw [gof0] at c
    have c' := fun q => c ((glt gR0 ra).mpr q)
    rw [if_neg c'] at hx
    exact kf c' hx hK (gRl_t hs) H locs ls hS
theorem gr_icmp_le {a b off : Int} (hd : decode M.1 pc = .ok (.if_icmp .le off, 3)) (tgt pc' : Nat) (ht : (pc : Int) + off = (tgt : Int)) (hp : pc + 3 = pc') (kt : a ≤ b → gr x o M X h tgt lv st) (kf : ¬ (a ≤ b) → gr y o M X h pc' lv st) : gr (if a ≤ b then x else y) o M X h pc lv (.inl b :: .inl a :: st) := by
  subst hp
  intro hx hK hs H locs ls hS
  have rb : gR32 b := gRl_h hs
  have ra : gR32 a := gRl_h (gRl_t hs)
  refine lv_icmp_le hK.1 hK.2.1 hd ht (fun c => ?_) (fun c => ?_)
  · have c' := (gle ra rb).mp c
    rw [if_pos c'] at hx
    exact kt c' hx hK (gRl_t (gRl_t hs)) H locs ls hS
  · have c' := fun q => c ((gle ra rb).mpr q)
    rw [if_neg c'] at hx
    exact kf c' hx hK (gRl_t (gRl_t hs)) H locs ls hS
theorem gr_if_le {a off : Int} (hd : decode M.1 pc = .ok (.ifCond .le off, 3)) (tgt pc' : Nat) (ht : (pc : Int) + off = (tgt : Int)) (hp : pc + 3 = pc') (kt : a ≤ 0 → gr x o M X h tgt lv st) (kf : ¬ (a ≤ 0) → gr y o M X h pc' lv st) : gr (if a ≤ 0 then x else y) o M X h pc lv (.inl a :: st) := by
  subst hp
  intro hx hK hs H locs ls hS
  have ra : gR32 a := gRl_h hs
  refine lv_if_le hK.1 hK.2.1 hd ht (fun c => ?_) (fun c => ?_)
  · rw [gof0] at c
    have c' := (gle ra gR0).mp c
    rw [if_pos c'] at hx
    exact kt c' hx hK (gRl_t hs) H locs ls hS
  · rw [gof0] at c
    have c' := fun q => c ((gle ra gR0).mpr q)
    rw [if_neg c'] at hx
    exact kf c' hx hK (gRl_t hs) H locs ls hS
theorem gr_icmp_ne {a b off : Int} (hd : decode M.1 pc = .ok (.if_icmp .ne off, 3)) (tgt pc' : Nat) (ht : (pc : Int) + off = (tgt : Int)) (hp : pc + 3 = pc') (kt : ¬ a = b → gr x o M X h tgt lv st) (kf : a = b → gr y o M X h pc' lv st) : gr (if a = b then y else x) o M X h pc lv (.inl b :: .inl a :: st) := by
  subst hp
  intro hx hK hs H locs ls hS
  have rb : gR32 b := gRl_h hs
  have ra : gR32 a := gRl_h (gRl_t hs)
  refine lv_icmp_ne hK.1 hK.2.1 hd ht (fun c => ?_) (fun c => ?_)
  · have c' : ¬ a = b := fun q => c (by rw [q])
    rw [if_neg c'] at hx
    exact kt c' hx hK (gRl_t (gRl_t hs)) H locs ls hS
  · have c' : a = b := (geq ra rb).mp (by rw [c])
    rw [if_pos c'] at hx
    exact kf c' hx hK (gRl_t (gRl_t hs)) H locs ls hS
theorem gr_if_ne {a off : Int} (hd : decode M.1 pc = .ok (.ifCond .ne off, 3)) (tgt pc' : Nat) (ht : (pc : Int) + off = (tgt : Int)) (hp : pc + 3 = pc') (kt : ¬ a = 0 → gr x o M X h tgt lv st) (kf : a = 0 → gr y o M X h pc' lv st) : gr (if a = 0 then y else x) o M X h pc lv (.inl a :: st) := by
  subst hp
  intro hx hK hs H locs ls hS
  have rb : gR32 0 := gR0
  have ra : gR32 a := gRl_h hs
  refine lv_if_ne hK.1 hK.2.1 hd ht (fun c => ?_) (fun c => ?_)
  · have c' : ¬ a = 0 := fun q => c (by rw [gof0, q])
    rw [if_neg c'] at hx
    exact kt c' hx hK (gRl_t hs) H locs ls hS
  · have c' : a = 0 := (geq ra rb).mp (by rw [c]; exact gof0)
    rw [if_pos c'] at hx
    exact kf c' hx hK (gRl_t hs) H locs ls hS
theorem gr_tswIn {a dflt lo hi off : Int} {offs : Array Int} {len : Nat} (hd : decode M.1 pc = .ok (.tableswitch dflt lo hi offs, len)) (v : Int) (he : a = v) (h1 : ¬ v < lo) (h2 : ¬ hi < v) (ho : offs[(v - lo).toNat]? = some off) (tgt : Nat) (ht : (pc : Int) + off = (tgt : Int)) (k : gr x o M X h tgt lv st) : gr x o M X h pc lv (.inl a :: st) := by
  subst he
  intro hx hK hs H locs ls hS
  have ra : gR32 a := gRl_h hs
  exact lv_tableIn hK.1 hK.2.1 hd (by rw [g32 ra]; exact h1) (by rw [g32 ra]; exact h2) (by rw [g32 ra]; exact ho) ht (k hx hK (gRl_t hs) H locs ls hS)
theorem gr_tswOut {a dflt lo hi : Int} {offs : Array Int} {len : Nat} (hd : decode M.1 pc = .ok (.tableswitch dflt lo hi offs, len)) {h' : gH} (h : a < lo ∨ hi < a) (tgt : Nat) (ht : (pc : Int) + dflt = (tgt : Int)) (k : gr x o M X h' tgt lv st) : gr x o M X h' pc lv (.inl a :: st) := by
  intro hx hK hs H locs ls hS
  have ra : gR32 a := gRl_h hs
  exact lv_tableOut hK.1 hK.2.1 hd (by rw [g32 ra]; exact h) ht (k hx hK (gRl_t hs) H locs ls hS)
end GR
end
section
theorem gup_at (h : gH) (a k : Nat) (v : Int) : gup h a k v a k = v := if_pos ⟨rfl, rfl⟩
theorem gup_ne {h : gH} {a k : Nat} {v : Int} {x y : Nat} (hn : ¬ (x = a ∧ y = k)) : gup h a k v x y = h x y := if_neg hn
theorem gRg_up {h : gH} {a k : Nat} {v : Int} (hg : gRg h) (hv : gR32 v) : gRg (gup h a k v) := by
  intro x y
  unfold gup
  split
  · exact hv
  · exact hg x y
theorem gsh_lt {i : Nat} {k : gK} (h : gsh i = k) (hk : k ≠ .inl (9, 0)) : i < gN := by
  apply Decidable.byContradiction
  intro hn
  have hl : gtab.length ≤ i := by
    have : gtab.length = gN := by decide +kernel
    omega
  unfold gsh at h
  rw [List.getD_eq_getElem?_getD, List.getElem?_eq_none hl] at h
  exact hk h.symm
abbrev gLive (Z : gZ) : Prop := ∀ i, i < gN → i ∈ zL Z
theorem gli {Z : gZ} (hL : gLive Z) {i ci : Nat} (h : gsh i = .inr ci) : i ∈ zL Z := hL i (gsh_lt h (by intro q; cases q))
theorem glj {Z : gZ} (hL : gLive Z) {i t n : Nat} (h : gsh i = .inl (t, n)) (ht : t ≠ 9) : i ∈ zL Z := hL i (gsh_lt h (by intro q; cases q; exact ht rfl))
theorem gE_congr {G : gG} {b : Nat} {h h' : gH} {i : Nat} (e : ∀ y, h' i y = h i y) : gE G b h' i = gE G b h i := by
  have e' : h' i = h i := funext e
  unfold gE
  rcases hs : gsh i with ⟨t, n⟩ | ci
  · rcases t with _ | t
    · simp only [e']
    · rcases t with _ | t <;> simp only [e']
  · simp only []
    congr 2
    congr 1
    funext k q
    unfold gfv
    rw [e']
theorem gnd {L : List Nat} (hn : L.Nodup) {i j a : Nat} (hi : L[i]? = some a) (hj : L[j]? = some a) : i = j := by
  have hp := List.pairwise_iff_getElem.mp hn
  obtain ⟨l1, e1⟩ := List.getElem?_eq_some_iff.mp hi
  obtain ⟨l2, e2⟩ := List.getElem?_eq_some_iff.mp hj
  rcases Nat.lt_trichotomy i j with h | h | h
  · exact absurd (e1.trans e2.symm) (hp i j l1 l2 h)
  · exact h
  · exact absurd (e2.trans e1.symm) (hp j i l2 l1 h)
theorem gW_len (Z : gZ) (h : gH) : (gW Z h).length = (zL Z).length := by rw [gW, List.length_map]
theorem gW_at {Z : gZ} (h : gH) {q i : Nat} (hq : (zL Z)[q]? = some i) : (gW Z h)[q]? = some (zb Z + i, gE (zG Z) (zb Z) h i) := by
  rw [gW, List.getElem?_map, hq]; rfl
theorem gW_set {Z : gZ} (hn : (zL Z).Nodup) {h h' : gH} {q i : Nat} (hq : (zL Z)[q]? = some i) (hh : ∀ j, j ≠ i → ∀ y, h' j y = h j y) : (gW Z h).set q (zb Z + i, gE (zG Z) (zb Z) h' i) = gW Z h' := by
  apply List.ext_getElem?
  intro k
  rw [List.getElem?_set, gW_len]
  by_cases hk : q = k
  · subst hk
    rw [if_pos rfl, gW_at h' hq, if_pos (List.getElem?_eq_some_iff.mp hq).1]
  · rw [if_neg hk]
    cases hz : (zL Z)[k]? with
    | none => rw [gW, gW, List.getElem?_map, List.getElem?_map, hz]; rfl
    | some j =>
      rw [gW_at h hz, gW_at h' hz]
      have hj : j ≠ i := by
        intro e
        subst e
        exact hk (gnd hn hq hz)
      rw [gE_congr (hh j hj)]
theorem gD {Z : gZ} (hn : (zL Z).Nodup) (h : gH) : va_D (gA Z) (gW Z h) := by
  refine ⟨fun i j p q hp hq e => ?_, fun k q hq => ?_⟩
  · rw [gW, List.getElem?_map] at hp hq
    cases h1 : (zL Z)[i]? with
    | none => rw [h1] at hp; cases hp
    | some a =>
      cases h2 : (zL Z)[j]? with
      | none => rw [h2] at hq; cases hq
      | some b =>
        rw [h1] at hp
        rw [h2] at hq
        cases hp
        cases hq
        have e' : a = b := Nat.add_left_cancel e
        subst e'
        exact gnd hn h1 h2
  · rw [gW, List.getElem?_map] at hq
    cases h1 : (zL Z)[k]? with
    | none => rw [h1] at hq; cases hq
    | some a =>
      rw [h1] at hq
      cases hq
      exact ⟨a, List.mem_of_getElem? h1, rfl⟩
theorem gE_i {G : gG} {b : Nat} {h : gH} {i n : Nat} (hs : gsh i = .inl (0, n)) : gE G b h i = .inl (G.1, n, .inl (fun j => Int32.ofInt (h i j))) := by unfold gE; rw [hs]; rfl
theorem gE_z {G : gG} {b : Nat} {h : gH} {i n : Nat} (hs : gsh i = .inl (1, n)) : gE G b h i = .inl (G.2.1, n, .inl (fun j => Int32.ofInt (h i j))) := by unfold gE; rw [hs]; rfl
theorem gE_q {G : gG} {b : Nat} {h : gH} {i n : Nat} (hs : gsh i = .inl (2, n)) : gE G b h i = .inl (G.2.2, n, .inr (.inr (.inr (.inr (fun j => some (b + (i + 1 + 10 * j))))))) := by unfold gE; rw [hs]; rfl
theorem gE_o {G : gG} {b : Nat} {h : gH} {i ci : Nat} (hs : gsh i = .inr ci) : gE G b h i = .inr (ci, (gfk ci).mapIdx (fun k q => gfv b i h k q)) := by unfold gE; rw [hs]
/- a field that an instruction names: class ci, number k -/
def gFl (own : String) (idx ci k : Nat) : Prop := ∃ (C : String) (T : u_T) (N : Nat), gcls[ci]? = some (C, T, N) ∧ k < N ∧ Cond.fieldLink own idx (T k).1 (T k).2.1 (T k).2.2.1 ∈ gtbl ∧ ∀ w ∈ u_ws C T N, w ∈ gtbl
def gFp (own : String) (idx ci k : Nat) (ty : FieldType) : Prop := ∃ (C : String) (T : u_T) (N : Nat) (ty0 : Nat → FieldType), gcls[ci]? = some (C, T, N) ∧ k < N ∧ Cond.fieldLink own idx (T k).1 (T k).2.1 (T k).2.2.1 ∈ gtbl ∧ (∀ w ∈ u_ws C T N, w ∈ gtbl) ∧ (∀ k, k < N → parseFieldDescriptor (T k).2.2.1 = some (ty0 k)) ∧ (∀ a, a < N → ∀ b, b < N → a ≠ b → (T a).2.1 ≠ (T b).2.1) ∧ (T k).2.2.2 = false ∧ parseFieldDescriptor (T k).2.2.1 = some ty
theorem gfs_at {b i : Nat} {h : gH} {ci k : Nat} {q : Nat × Nat} (hk : (gfk ci)[k]? = some q) : ((gfk ci).mapIdx (fun k q => gfv b i h k q))[k]? = some (gfv b i h k q) := by rw [List.getElem?_mapIdx, hk]; rfl
theorem gvin {n : Nat} {i : Int} (ri : gR32 i) (hi : gix n i = true) : vp_in (Int32.ofInt i) n ∧ (Int32.ofInt i).toNatClampNeg = i.toNat := by
  have e : (Int32.ofInt i).toNatClampNeg = i.toNat := by
    show ((Int32.ofInt i).toInt).toNat = i.toNat
    rw [g32 ri]
  unfold gix at hi
  rw [Bool.and_eq_true, decide_eq_true_eq, decide_eq_true_eq] at hi
  refine ⟨fun q => ?_, e⟩
  rcases q with q | q
  · rw [gof0, glt ri gR0] at q; omega
  · rw [e] at q; omega
theorem gupd_eq {h : gH} {a : Nat} {k : Nat} {v : Int} : (fun j => Int32.ofInt (gup h a k v a j)) = upd (fun j => Int32.ofInt (h a j)) k (Int32.ofInt v) := by
  funext j
  unfold gup upd
  by_cases e : j = k
  · subst e; simp
  · simp [e]
theorem gfs_set {b i : Nat} {h : gH} {ci k : Nat} {v : Int} {q : Nat × Nat} (hk : (gfk ci)[k]? = some q) : ((gfk ci).mapIdx (fun k q => gfv b i h k q)).set k (gfv b i (gup h i k v) k q) = (gfk ci).mapIdx (fun k' q' => gfv b i (gup h i k v) k' q') := by
  apply List.ext_getElem?
  intro j
  rw [List.getElem?_set, List.getElem?_mapIdx, List.getElem?_mapIdx, List.length_mapIdx]
  by_cases e : k = j
  · subst e
    rw [if_pos rfl, if_pos (List.getElem?_eq_some_iff.mp hk).1, hk]; rfl
  · rw [if_neg e]
    cases (gfk ci)[j]? with
    | none => rfl
    | some r =>
      show some _ = some _
      congr 1
      show gfv b i h j r = gfv b i (gup h i k v) j r
      unfold gfv
      rw [gup_ne (fun q => e q.2.symm)]
section GH
variable {x y : Option gO} {o : gO} {M : gM} {X : gX} {h : gH} {pc : Nat} {lv : gL} {st : List gV}
theorem gget {idx ci k a : Nat} {q : Nat × Nat} {w : gV} (hd : decode M.1 pc = .ok (.getfield idx, 3)) (pc' : Nat) (hp : pc + 3 = pc') (hf : gFl M.2.1 idx ci k) (hsh : gsh a = .inr ci) (hk : (gfk ci)[k]? = some q) (hi : a ∈ zL (xZ X)) (hw : gRg h → gRv w) (he : gfv (zb (xZ X)) a h k q = gem (zb (xZ X)) w) (kk : gr x o M X h pc' lv (w :: st)) : gr x o M X h pc lv (.inr (.inr a) :: st) := by
  subst hp
  intro hx hK hs H locs ls hS
  obtain ⟨C, T, N, h1, h2, h3, h4⟩ := hf
  obtain ⟨q0, hq0⟩ := List.getElem?_of_mem hi
  have hat := gW_at h hq0
  rw [gE_o hsh] at hat
  refine va_get hK.1 hK.2.1 hK.2.2.2.2.1 h4 hK.2.2.2.1 hK.2.2.2.2.2.1 hS.2.2.1 q0 hat h1 k h2 (hK.2.2.2.2.1 _ h3) (fun _ z => z) (gfs_at hk) hd ?_
  rw [he]
  exact kk hx hK (gRl_c (hw hS.1) (gRl_t hs)) H locs ls hS
theorem gr_geti {idx ci k a z : Nat} (hd : decode M.1 pc = .ok (.getfield idx, 3)) (pc' : Nat) (hp : pc + 3 = pc') (hf : gFl M.2.1 idx ci k) (hsh : gsh a = .inr ci) (hk : (gfk ci)[k]? = some (0, z)) (hi : a ∈ zL (xZ X)) (kk : gr x o M X h pc' lv (.inl (h a k) :: st)) : gr x o M X h pc lv (.inr (.inr a) :: st) :=
  gget (w := .inl (h a k)) hd pc' hp hf hsh hk hi (fun hg => hg a k) rfl kk
theorem gr_getd {idx ci k a z : Nat} (hd : decode M.1 pc = .ok (.getfield idx, 3)) (pc' : Nat) (hp : pc + 3 = pc') (hf : gFl M.2.1 idx ci k) (hsh : gsh a = .inr ci) (hk : (gfk ci)[k]? = some (1, z)) (hi : a ∈ zL (xZ X)) (kk : gr x o M X h pc' lv (.inr (.inr (h a k).toNat) :: st)) : gr x o M X h pc lv (.inr (.inr a) :: st) :=
  gget (w := .inr (.inr (h a k).toNat)) hd pc' hp hf hsh hk hi (fun _ => trivial) rfl kk
theorem gr_getr {idx ci k a z : Nat} (hd : decode M.1 pc = .ok (.getfield idx, 3)) (pc' : Nat) (hp : pc + 3 = pc') (hf : gFl M.2.1 idx ci k) (hsh : gsh a = .inr ci) (hk : (gfk ci)[k]? = some (2, z)) (hi : a ∈ zL (xZ X)) (r : Nat) (hr : a + z = r) (kk : gr x o M X h pc' lv (.inr (.inr r) :: st)) : gr x o M X h pc lv (.inr (.inr a) :: st) :=
  gget (w := .inr (.inr r)) hd pc' hp hf hsh hk hi (fun _ => trivial) (by rw [← hr]; rfl) kk
theorem gr_geta {idx ci k a z : Nat} (hd : decode M.1 pc = .ok (.getfield idx, 3)) (pc' : Nat) (hp : pc + 3 = pc') (hf : gFl M.2.1 idx ci k) (hsh : gsh a = .inr ci) (hk : (gfk ci)[k]? = some (3, z)) (hi : a ∈ zL (xZ X)) (kk : gr x o M X h pc' lv (.inr (.inr z) :: st)) : gr x o M X h pc lv (.inr (.inr a) :: st) :=
  gget (w := .inr (.inr z)) hd pc' hp hf hsh hk hi (fun _ => trivial) rfl kk
theorem gput {idx ci k a : Nat} {q : Nat × Nat} {v : Int} {w : gV} {ty : FieldType} (hd : decode M.1 pc = .ok (.putfield idx, 3)) (pc' : Nat) (hp : pc + 3 = pc') (hf : gFp M.2.1 idx ci k ty) (hsh : gsh a = .inr ci) (hk : (gfk ci)[k]? = some q) (hi : a ∈ zL (xZ X)) (hv : gRl (w :: .inr (.inr a) :: st) → gR32 v) (he : gem (zb (xZ X)) w = gfv (zb (xZ X)) a (gup h a k v) k q) (hn : narrow ty (gem (zb (xZ X)) w) = gem (zb (xZ X)) w) (hfit : fits ty (gem (zb (xZ X)) w) = true) (kk : gr x o M X (gup h a k v) pc' lv st) : gr x o M X h pc lv (w :: .inr (.inr a) :: st) := by
  subst hp
  intro hx hK hs H locs ls hS
  obtain ⟨C, T, N, ty0, h1, h2, h3, h4, h5, h6, h7, h8⟩ := hf
  obtain ⟨q0, hq0⟩ := List.getElem?_of_mem hi
  have hat := gW_at h hq0
  rw [gE_o hsh] at hat
  have hlen : k < ((gfk ci).mapIdx (fun k q => gfv (zb (xZ X)) a h k q)).length := by
    rw [List.length_mapIdx]; exact (List.getElem?_eq_some_iff.mp hk).1
  refine va_put hK.1 hK.2.1 hK.2.2.2.2.1 h4 ty0 h5 h6 hK.2.2.2.1 hK.2.2.2.2.2.1 hS.2.2.1 (gD hK.2.2.2.2.2.2.2.2.2.2 h) hS.2.2.2.1 q0 hat h1 k h2 (hK.2.2.2.2.1 _ h3) (fun _ z => z) h7 h8 hn hfit hlen hd (fun H1 locs1 hP1 _ hS1 => ?_)
  rw [he, gfs_set hk, ← gE_o (G := zG (xZ X)) (b := zb (xZ X)) (h := gup h a k v) hsh, gW_set hK.2.2.2.2.2.2.2.2.2.2 hq0 (fun j hj y => gup_ne (fun q => hj q.1))] at hP1
  exact kk hx hK (gRl_t (gRl_t hs)) H1 locs1 ls ⟨gRg_up hS.1 (hv hs), hS.2.1, hP1, hS1, hS.2.2.2.2⟩
theorem gr_puti {idx ci k a z : Nat} {v : Int} (hd : decode M.1 pc = .ok (.putfield idx, 3)) (pc' : Nat) (hp : pc + 3 = pc') (hf : gFp M.2.1 idx ci k .int) (hsh : gsh a = .inr ci) (hk : (gfk ci)[k]? = some (0, z)) (hi : a ∈ zL (xZ X)) {kk : gH → Option gO} (k1 : ∀ h1, h1 = gup h a k v → gr (kk h1) o M X h1 pc' lv st) : gr (gs (gup h a k v) kk) o M X h pc lv (.inl v :: .inr (.inr a) :: st) :=
  gput hd pc' hp hf hsh hk hi (fun hs => gRl_h hs) (by show Value.int _ = Value.int _; rw [gup_at]) rfl rfl (k1 _ rfl)
theorem gr_putd {idx ci k a c z : Nat} {C : String} (hd : decode M.1 pc = .ok (.putfield idx, 3)) (pc' : Nat) (hp : pc + 3 = pc') (hf : gFp M.2.1 idx ci k (.object C)) (hsh : gsh a = .inr ci) (hk : (gfk ci)[k]? = some (1, z)) (hi : a ∈ zL (xZ X)) (hc : c < 2147483647) {kk : gH → Option gO} (k1 : ∀ h1, h1 = gup h a k (c : Int) → gr (kk h1) o M X h1 pc' lv st) : gr (gs (gup h a k (c : Int)) kk) o M X h pc lv (.inr (.inr c) :: .inr (.inr a) :: st) :=
  gput hd pc' hp hf hsh hk hi (fun _ => ⟨by omega, by omega⟩) (by show Value.ref _ = Value.ref _; rw [gup_at]; rfl) rfl rfl (k1 _ rfl)
theorem gr_iald {a n : Nat} {i : Int} (hd : decode M.1 pc = .ok (.iaload, 1)) (pc' : Nat) (hp : pc + 1 = pc') (hsh : gsh a = .inl (0, n)) (hi : a ∈ zL (xZ X)) (kk : gr x o M X h pc' lv (.inl (h a i.toNat) :: st)) : gr (gd (gix n i) x) o M X h pc lv (.inl i :: .inr (.inr a) :: st) := by
  subst hp
  refine gr_gd fun hc => ?_
  intro hx hK hs H locs ls hS
  obtain ⟨q0, hq0⟩ := List.getElem?_of_mem hi
  have hat := gW_at h hq0
  rw [gE_i hsh] at hat
  have hv := gvin (gRl_h hs) hc
  refine va_iald hK.1 hK.2.1 hK.2.2.2.2.2.1 hS.2.2.1 q0 0 hat rfl hv.1 hd ?_
  rw [hv.2]
  exact kk hx hK (gRl_c (hS.1 _ _) (gRl_t (gRl_t hs))) H locs ls hS
theorem gr_zald {a n : Nat} {i : Int} (hd : decode M.1 pc = .ok (.baload, 1)) (pc' : Nat) (hp : pc + 1 = pc') (hsh : gsh a = .inl (1, n)) (hi : a ∈ zL (xZ X)) (kk : gr x o M X h pc' lv (.inl (h a i.toNat) :: st)) : gr (gd (gix n i) x) o M X h pc lv (.inl i :: .inr (.inr a) :: st) := by
  subst hp
  refine gr_gd fun hc => ?_
  intro hx hK hs H locs ls hS
  obtain ⟨q0, hq0⟩ := List.getElem?_of_mem hi
  have hat := gW_at h hq0
  rw [gE_z hsh] at hat
  have hv := gvin (gRl_h hs) hc
  refine va_zald hK.1 hK.2.1 hK.2.2.2.2.2.1 hS.2.2.1 q0 1 hat rfl hv.1 hd ?_
  rw [hv.2]
  exact kk hx hK (gRl_c (hS.1 _ _) (gRl_t (gRl_t hs))) H locs ls hS
theorem gr_qald {a n : Nat} {i : Int} (hd : decode M.1 pc = .ok (.aaload, 1)) (pc' : Nat) (hp : pc + 1 = pc') (hsh : gsh a = .inl (2, n)) (hi : a ∈ zL (xZ X)) (kk : gr x o M X h pc' lv (.inr (.inr (a + 1 + 10 * i.toNat)) :: st)) : gr (gd (gix n i) x) o M X h pc lv (.inl i :: .inr (.inr a) :: st) := by
  subst hp
  refine gr_gd fun hc => ?_
  intro hx hK hs H locs ls hS
  obtain ⟨q0, hq0⟩ := List.getElem?_of_mem hi
  have hat := gW_at h hq0
  rw [gE_q hsh] at hat
  have hv := gvin (gRl_h hs) hc
  refine va_aldq hK.1 hK.2.1 hK.2.2.2.2.2.1 hS.2.2.1 q0 2 hat rfl hv.1 hd ?_
  rw [hv.2]
  exact kk hx hK (gRl_c trivial (gRl_t (gRl_t hs))) H locs ls hS
theorem gr_alen {a t n : Nat} (hd : decode M.1 pc = .ok (.arraylength, 1)) (pc' : Nat) (hp : pc + 1 = pc') (hsh : gsh a = .inl (t, n)) (ht : t = 0) (hi : a ∈ zL (xZ X)) (hn : n < 2147483647) (kk : gr x o M X h pc' lv (.inl (n : Int) :: st)) : gr x o M X h pc lv (.inr (.inr a) :: st) := by
  subst hp
  subst ht
  intro hx hK hs H locs ls hS
  obtain ⟨q0, hq0⟩ := List.getElem?_of_mem hi
  have hat := gW_at h hq0
  rw [gE_i hsh] at hat
  refine va_alen hK.1 hK.2.1 hK.2.2.2.2.2.1 hS.2.2.1 q0 0 hat rfl (v := Int32.ofInt (n : Int)) ?_ hd (kk hx hK (gRl_c ⟨by omega, by omega⟩ (gRl_t hs)) H locs ls hS)
  rfl
theorem gr_iast {a n : Nat} {i v : Int} (hd : decode M.1 pc = .ok (.iastore, 1)) (pc' : Nat) (hp : pc + 1 = pc') (hsh : gsh a = .inl (0, n)) (hi : a ∈ zL (xZ X)) {kk : gH → Option gO} (k1 : ∀ h1, h1 = gup h a i.toNat v → gr (kk h1) o M X h1 pc' lv st) : gr (gd (gix n i) (gs (gup h a i.toNat v) kk)) o M X h pc lv (.inl v :: .inl i :: .inr (.inr a) :: st) := by
  subst hp
  refine gr_gd fun hc => ?_
  intro hx hK hs H locs ls hS
  obtain ⟨q0, hq0⟩ := List.getElem?_of_mem hi
  have hat := gW_at h hq0
  rw [gE_i hsh] at hat
  have hv := gvin (gRl_h (gRl_t hs)) hc
  refine va_iast hK.1 hK.2.1 hK.2.2.2.2.2.1 hS.2.2.1 (gD hK.2.2.2.2.2.2.2.2.2.2 h) hS.2.2.2.1 q0 0 hat rfl hv.1 hd (fun H1 locs1 hP1 _ hS1 => ?_)
  rw [hv.2, ← gupd_eq, ← gE_i (G := zG (xZ X)) (b := zb (xZ X)) hsh, gW_set hK.2.2.2.2.2.2.2.2.2.2 hq0 (fun j hj y => gup_ne (fun q => hj q.1))] at hP1
  exact k1 _ rfl hx hK (gRl_t (gRl_t (gRl_t hs))) H1 locs1 ls ⟨gRg_up hS.1 (gRl_h hs), hS.2.1, hP1, hS1, hS.2.2.2.2⟩
theorem gr_zast {a n : Nat} {i v : Int} (hd : decode M.1 pc = .ok (.bastore, 1)) (hz : v = 0 ∨ v = 1) (pc' : Nat) (hp : pc + 1 = pc') (hsh : gsh a = .inl (1, n)) (hi : a ∈ zL (xZ X)) {kk : gH → Option gO} (k1 : ∀ h1, h1 = gup h a i.toNat v → gr (kk h1) o M X h1 pc' lv st) : gr (gd (gix n i) (gs (gup h a i.toNat v) kk)) o M X h pc lv (.inl v :: .inl i :: .inr (.inr a) :: st) := by
  subst hp
  refine gr_gd fun hc => ?_
  intro hx hK hs H locs ls hS
  obtain ⟨q0, hq0⟩ := List.getElem?_of_mem hi
  have hat := gW_at h hq0
  rw [gE_z hsh] at hat
  have hv := gvin (gRl_h (gRl_t hs)) hc
  have hnz : vp_nar .boolean (Int32.ofInt v) = Int32.ofInt v := by rcases hz with rfl | rfl <;> decide
  refine va_zast hK.1 hK.2.1 hK.2.2.2.2.2.1 hS.2.2.1 (gD hK.2.2.2.2.2.2.2.2.2.2 h) hS.2.2.2.1 q0 1 hat rfl hv.1 hd (fun H1 locs1 hP1 _ hS1 => ?_)
  rw [hv.2, hnz, ← gupd_eq, ← gE_z (G := zG (xZ X)) (b := zb (xZ X)) hsh, gW_set hK.2.2.2.2.2.2.2.2.2.2 hq0 (fun j hj y => gup_ne (fun q => hj q.1))] at hP1
  exact k1 _ rfl hx hK (gRl_t (gRl_t (gRl_t hs))) H1 locs1 ls ⟨gRg_up hS.1 (gRl_h hs), hS.2.1, hP1, hS1, hS.2.2.2.2⟩
end GH
end
section
def gRet (ret : Option FieldType) (r : Int) : Option Value := ret.map (fun _ => .int (Int32.ofInt r))
def gRs (ret : Option FieldType) (r : Int) : List gV := match ret with
  | none => []
  | some _ => [.inl r]
def gWd (Z : gZ) (h : gH) (U : State) : Prop := va_P (zD Z) gcls (gW Z h) U.heap ∧ va_K (zD Z) gcls (gTy Z) U
def gPre (Z : gZ) (as : List gV) (h : gH) : Array Value → State → Prop := va_Pc (as.map (gem (zb Z))) (gWd Z h)
def gPost (Z : gZ) (ret : Option FieldType) (o : gO) : Array Value → State → Outcome → State → Prop := fun _ st oc t => oc = .returned (gRet ret o.2) ∧ (gRg o.1 ∧ gR32 o.2) ∧ gWd Z o.1 t ∧ va_F (gA Z) st t
def gRm (fr lo : Nat) : Room := { frames := fr, cells := 0, slots := 0, locals := lo }
/- a contract: from the memory h the method comes to o -/
def gC (Z : gZ) (y : MethodName) (cc : ByteArray) (nL : Nat) (ret : Option FieldType) (fr lo : Nat) (as : List gV) (h : gH) (o : gO) : Prop :=
  Met (zl Z) y (.code y cc nL ret :: gtbl) (gRm fr lo) (gPre Z as h) (gPost Z ret o) 0 0 (gA Z)
def gFin (X : gX) (ret : Option FieldType) (o : gO) : Prop := (xme X).sig.returnType = ret ∧ (xme X).locks = false ∧ xQ X = MQ (xb X) (gPost (xZ X) ret o) (xa X) (xs X) (xce X) (xsl X) (gA (xZ X)) ∧ xH X = (xs X).heap
theorem gC_of {Z : gZ} {y : MethodName} {cc : ByteArray} {nL : Nat} {ret : Option FieldType} {fr lo : Nat} {as : List gV} {h : gH} {o : gO} {lv : gL} {own : String} {x : Option gO} (hy : plainName y.cls = true) (hown : y.cls = own) (hlen : (lg_sl (as.map (gem (zb Z)))).length ≤ nL) (hlv : lv_args 0 (as.map (gem (zb Z))) = gEL (zb Z) lv) (hlvs : lv.map Prod.snd = as) (hn : (zL Z).Nodup) (hg : gRg h) (ha : gRl as) (hx : x = some o)
    (k : ∀ X : gX, xZ X = Z → gFin X ret o → gr x o (cc, own, fr, lo, nL) X h 0 lv []) : gC Z y cc nL ret fr lo as h o := by
  refine Met.ofW (cc := cc) (maxL := nL) (ret := ret) hy rfl ?_
  intro p e s m args below meth c s₁ B hml hv
  obtain ⟨rfl, hP, hK⟩ := hv
  have hts := atoms_spec (ws := .code y cc nL ret :: gtbl) B.pre
  have hown' : s.vm.findClass own = some m.cls := by rw [← hown]; exact findClass_of_methodNamed B.named
  have hl := lv_entry (as.map (gem (zb Z))) (n := nL) hlen
  rw [lg_entry_eq]
  generalize (lg_sl (as.map (gem (zb Z))) ++ List.replicate (nL - (lg_sl (as.map (gem (zb Z)))).length) Slot.unset).toArray = ls at hl ⊢
  rw [hlv] at hl
  exact k (Z, p, e, gRm fr lo, s, m, (as.map (gem (zb Z))).toArray, below, meth, c, nL, 0, 0, MQ below (gPost Z ret o) (as.map (gem (zb Z))).toArray s 0 0 (gA Z), s.heap) rfl
    ⟨B.returns, B.notSynchronized, rfl, rfl⟩ hx ⟨B.exec, B.bytes, ⟨hml, rfl⟩, hown', fun w hw => hts w (List.mem_cons_of_mem _ hw), hK, Nat.le_refl _, Nat.le_refl _, Nat.zero_le _, Nat.zero_le _, hn⟩ (fun _ h => by cases h) s.heap [] ls ⟨hg, by rw [hlvs]; exact ha, hP, va_S.rf, hl⟩
def gCat (v : gV) : Nat := match v with
  | .inr (.inl _) => 2
  | _ => 1
theorem gCat_eq (b : Nat) (st : List gV) : ((st.map (gem b)).map fun v => v.category) = st.map gCat := by
  rw [List.map_map]
  apply List.map_congr_left
  intro v _
  rcases v with x | x | x <;> rfl
/- what the tables say of a call: by an instance, of a static method -/
def gCy (own : String) (idx : Nat) (y : MethodName) (cc : ByteArray) (nL : Nat) (ret : Option FieldType) (n : Nat) : Prop :=
  Cond.methodLink own idx y ∈ gtbl ∧ Cond.initialized y.cls ∈ gtbl ∧ Cond.code y cc nL ret ∈ gtbl ∧ (y.cls ≠ "java/lang/invoke/MethodHandle" ∧ y.cls ≠ "java/lang/invoke/VarHandle" ∧ (parseMethodDescriptor y.desc).map (fun d => d.parameters.length) = some n)
theorem gGood {c : Cond} (h : c ∈ gtbl) : GoodIn gtbl (c :: gtbl) := fun w hw => by
  have hm : w ∈ gtbl := by
    rcases List.mem_cons.mp hw with rfl | hw
    · exact h
    · exact hw
  exact ⟨hm, good_of_word (gtbl_good w hm)⟩
theorem gBlind (Z : gZ) (as : List gV) (h : gH) : FrameBlind (gPre Z as h) := fun _ U g mk q => ⟨q.1, q.2.1, va_K.moved (u := U) (Vm.Alike.refl U.vm) q.2.2⟩
section GCALL
variable {x y : Option gO} {o : gO} {M : gM} {X : gX} {h : gH} {pc : Nat} {lv : gL} {st : List gV}
theorem gafter {ret : Option FieldType} {o1 : gO} {kk : gH → Int → Option gO} {args' : Array Value} {H : Heap} {locs : List Loc} {ls : Array Slot} {stk : List gV} (hK : gKn M X) (hs : gRl st) (hS : gSt X h lv H locs ls) (hx : kk o1.1 o1.2 = some o)
    (run : va_Run (xp X) (zl (xZ X)) (xe X) (xR X) (xs X) (xm X) (xa X) (xb X) (xme X) (xc X) H locs (xce X) (xsl X) 0 0 (F0 (xm X) pc ls (stk.map (gem (zb (xZ X))))) (st.map (gem (zb (xZ X)))) (gPost (xZ X) ret o1 args') (gA (xZ X)))
    (k : gr (kk o1.1 o1.2) o M X o1.1 (pc + 3) lv (gRs ret o1.2 ++ st)) : gWW X H locs pc ls stk := by
  intro T hT X'
  obtain ⟨v, st₀, t, T', L, h0, X'', hL, e1, e2, ⟨hv, ⟨hg1, hr1⟩, ⟨hP1, hK1⟩, hF⟩, stp⟩ := run T hT X'
  have hv' : v = gRet ret o1.2 := by cases hv; rfl
  subst hv'
  have hP1' : va_P (zD (xZ X)) gcls (gW (xZ X) o1.1) T'.heap := by rw [e1]; exact hP1
  have hz : H.size ≤ T'.heap.size := by rw [e1, ← h0]; exact hF.1
  have hkeep : ∀ q : Nat, q < H.size → ¬ gA (xZ X) q → T'.heap[q]? = H[q]? := fun q h1 h2 => by
    rw [e1, hF.2 q (by rw [h0]; exact h1) h2, h0]
  have hSS := hS.2.2.2.1
  have hS1 : va_S (gA (xZ X)) (xH X) T'.heap (locs ++ L) := by
    refine ⟨Nat.le_trans hSS.1 hz, fun q h1 h2 => ?_, fun q hq => ?_⟩
    · rw [hkeep q (Nat.lt_of_lt_of_le h1 hSS.1) h2]
      exact hSS.2.1 q h1 h2
    · rcases List.mem_append.mp hq with h | h
      · exact hSS.2.2 q h
      · exact hL q h
  have hst : gRl (gRs ret o1.2 ++ st) := by
    intro u hu
    rcases List.mem_append.mp hu with hu | hu
    · cases ret with
      | none => cases hu
      | some _ =>
        have e : u = .inl o1.2 := by simpa [gRs] using hu
        rw [e]; exact hr1
    · exact hs u hu
  obtain ⟨t2, a1, b1⟩ := k hx hK hst T'.heap (locs ++ L) ls ⟨hg1, hS.2.1, hP1', hS1, hS.2.2.2.2⟩ T' rfl X''
  refine ⟨t2, stp t2 ?_, b1⟩
  have e : (gRs ret o1.2 ++ st).map (gem (zb (xZ X))) = (gRet ret o1.2).toList ++ st.map (gem (zb (xZ X))) := by
    cases ret <;> rfl
  rw [e] at a1
  exact a1
theorem gr_callV {idx fr lo nL' ci a N : Nat} {T : u_T} {yy : MethodName} {cc' : ByteArray} {ret : Option FieldType} {as stk : List gV} {fx : Option gO} {kk : gH → Int → Option gO} (hd : decode M.1 pc = .ok (.invokevirtual idx, 3)) (pc' : Nat) (hp : pc + 3 = pc') (hst : stk = as.reverse ++ .inr (.inr a) :: st) (hy : gCy M.2.1 idx yy cc' nL' ret as.length) (hin : Cond.instanceMethod yy ∈ gtbl) (hse : Cond.selects yy.cls yy yy ∈ gtbl) (hroom : fr + 1 ≤ M.2.2.1 ∧ 8 + (nL' + 11) + lo ≤ M.2.2.2.1) (hcat : (st.map gCat).sum ≤ 8) (hsh : gsh a = .inr ci) (hci : gcls[ci]? = some (yy.cls, T, N)) (hi : a ∈ zL (xZ X))
    (hc : ∀ o1, gRg h → gRl (.inr (.inr a) :: as) → fx = some o1 → gC (xZ X) yy cc' nL' ret fr lo (.inr (.inr a) :: as) h o1) (k : ∀ h1 r, fx = some (h1, r) → gr (kk h1 r) o M X h1 pc' lv (gRs ret r ++ st)) : gr (gb fx kk) o M X h pc lv stk := by
  subst hp
  subst hst
  intro hx hK hs H locs ls hS
  cases hfx : fx with
  | none => rw [hfx] at hx; cases hx
  | some o1 =>
    rw [hfx] at hx
    have hx' : kk o1.1 o1.2 = some o := hx
    have hsa : gRl (.inr (.inr a) :: as) := fun u hu => by
      rcases List.mem_cons.mp hu with rfl | hu
      · exact trivial
      · exact hs u (List.mem_append_left _ (List.mem_reverse.mpr hu))
    have hss : gRl st := fun u hu => hs u (List.mem_append_right _ (List.mem_cons_of_mem _ hu))
    have hM := hc o1 hS.1 hsa hfx
    obtain ⟨hy1, hy2, hy3, hy4⟩ := hy
    obtain ⟨q0, hq0⟩ := List.getElem?_of_mem hi
    have hat := gW_at h hq0
    rw [gE_o hsh] at hat
    have hrec := va_recv hK.2.2.2.2.2.1 hS.2.2.1 hci hat
    have cw : CallW (xR X) (xs X) (xa X) M.2.1 yy.cls idx yy cc' nL' ret (.code yy cc' nL' ret :: gtbl) (gRm fr lo) 0 0 as.length :=
      ⟨callB_of _ hK.2.2.2.2.1 (gGood hy3) rfl rfl rfl (hK.2.2.2.2.1 _ hy2) (hK.2.2.2.2.1 _ hy1) hy4 ⟨Nat.le_trans hroom.1 hK.2.2.2.2.2.2.1, Nat.le_trans hroom.2 hK.2.2.2.2.2.2.2.1⟩, hK.2.2.2.2.1 _ hin, hK.2.2.2.2.1 _ hse⟩
    have run := va_runV (cc := M.1) (nL := xn X) (Ts := gtbl) (own := M.2.1) (e := xe X) (below := xb X) (meth := xme X) (H := H) (locs := locs) (cells := xce X) (slots := xsl X) (As := as.map (gem (zb (xZ X)))) (rest := st.map (gem (zb (xZ X)))) (g := F0 (xm X) pc ls ((as.reverse ++ .inr (.inr a) :: st).map (gem (zb (xZ X))))) ⟨hK.1, hK.2.1, hK.2.2.1.1, hK.2.2.2.1, hK.2.2.2.2.1⟩ hM cw (b := zb (xZ X) + a)
      ⟨gBlind _ _ _, hrec, fun U hU hW => ⟨rfl, by rw [hU]; exact hS.2.2.1, va_K.moved hW.alike hK.2.2.2.2.2.1⟩⟩ rfl (List.length_map ..) hS.2.2.2.2.1 (by rw [List.map_append, List.map_reverse]; rfl) (by rw [gCat_eq]; exact Nat.le_trans (Nat.le_of_eq (Nat.zero_add _)) hcat) hd ⟨hK.2.2.2.2.2.2.2.2.1, hK.2.2.2.2.2.2.2.2.2.1⟩
    exact gafter hK hss hS hx' run (k o1.1 o1.2 hfx)
theorem gr_callS {idx fr lo nL' : Nat} {yy : MethodName} {cc' : ByteArray} {ret : Option FieldType} {as stk : List gV} {fx : Option gO} {kk : gH → Int → Option gO} (hd : decode M.1 pc = .ok (.invokestatic idx, 3)) (pc' : Nat) (hp : pc + 3 = pc') (hst : stk = as.reverse ++ st) (hy : gCy M.2.1 idx yy cc' nL' ret as.length) (hin : Cond.static yy ∈ gtbl) (hroom : fr + 1 ≤ M.2.2.1 ∧ 8 + (nL' + 11) + lo ≤ M.2.2.2.1) (hcat : (st.map gCat).sum ≤ 8)
    (hc : ∀ o1, gRg h → gRl as → fx = some o1 → gC (xZ X) yy cc' nL' ret fr lo as h o1) (k : ∀ h1 r, fx = some (h1, r) → gr (kk h1 r) o M X h1 pc' lv (gRs ret r ++ st)) : gr (gb fx kk) o M X h pc lv stk := by
  subst hp
  subst hst
  intro hx hK hs H locs ls hS
  cases hfx : fx with
  | none => rw [hfx] at hx; cases hx
  | some o1 =>
    rw [hfx] at hx
    have hx' : kk o1.1 o1.2 = some o := hx
    have hsa : gRl as := fun u hu => hs u (List.mem_append_left _ (List.mem_reverse.mpr hu))
    have hss : gRl st := fun u hu => hs u (List.mem_append_right _ hu)
    have hM := hc o1 hS.1 hsa hfx
    obtain ⟨hy1, hy2, hy3, hy4⟩ := hy
    have cw : CallB (xR X) (xs X) (xa X) M.2.1 idx yy cc' nL' ret (.code yy cc' nL' ret :: gtbl) (gRm fr lo) 0 0 as.length ∧ (Cond.static yy).before (xa X) (xs X) = true :=
      ⟨callB_of _ hK.2.2.2.2.1 (gGood hy3) rfl rfl rfl (hK.2.2.2.2.1 _ hy2) (hK.2.2.2.2.1 _ hy1) hy4 ⟨Nat.le_trans hroom.1 hK.2.2.2.2.2.2.1, Nat.le_trans hroom.2 hK.2.2.2.2.2.2.2.1⟩, hK.2.2.2.2.1 _ hin⟩
    have run := va_runS (cc := M.1) (nL := xn X) (Ts := gtbl) (own := M.2.1) (e := xe X) (below := xb X) (meth := xme X) (H := H) (locs := locs) (cells := xce X) (slots := xsl X) (As := as.map (gem (zb (xZ X)))) (rest := st.map (gem (zb (xZ X)))) (g := F0 (xm X) pc ls ((as.reverse ++ st).map (gem (zb (xZ X))))) ⟨hK.1, hK.2.1, hK.2.2.1.1, hK.2.2.2.1, hK.2.2.2.2.1⟩ hM cw
      ⟨gBlind _ _ _, fun U hU hW => ⟨rfl, by rw [hU]; exact hS.2.2.1, va_K.moved hW.alike hK.2.2.2.2.2.1⟩⟩ rfl (List.length_map ..) hS.2.2.2.2.1 (by rw [List.map_append, List.map_reverse]) (by rw [gCat_eq]; exact Nat.le_trans (Nat.le_of_eq (Nat.zero_add _)) hcat) hd ⟨hK.2.2.2.2.2.2.2.2.1, hK.2.2.2.2.2.2.2.2.2.1⟩
    exact gafter hK hss hS hx' run (k o1.1 o1.2 hfx)
theorem gr_ireturn {r : Int} (hd : decode M.1 pc = .ok (.ireturn, 1)) (hF : gFin X (some .int) o) : gr (some (h, r)) o M X h pc lv [.inl r] := by
  intro hx hK hs H locs ls hS
  obtain ⟨f1, f2, f3, f4⟩ := hF
  cases hx
  unfold gWW
  rw [f3]
  exact W.iret hK.1 hK.2.1 f1 (fun t ht hW => ⟨rfl, ⟨hS.1, gRl_h hs⟩, ⟨by rw [ht]; exact hS.2.2.1, va_K.moved hW.alike hK.2.2.2.2.2.1⟩, va_S.F (by rw [← f4]; exact hS.2.2.2.1) ht⟩) hS.2.2.2.1.2.2 hd f2
theorem gr_zreturn {r : Int} (hd : decode M.1 pc = .ok (.ireturn, 1)) (hF : gFin X (some .boolean) o) : gr (gd (decide (r = 0 ∨ r = 1)) (some (h, r))) o M X h pc lv [.inl r] := by
  refine gr_gd fun hc => ?_
  intro hx hK hs H locs ls hS
  obtain ⟨f1, f2, f3, f4⟩ := hF
  cases hx
  unfold gWW
  rw [f3]
  have hz : r = 0 ∨ r = 1 := of_decide_eq_true hc
  exact W.zret hK.1 hK.2.1 f1 (by rcases hz with rfl | rfl <;> rfl) (fun t ht hW => ⟨rfl, ⟨hS.1, gRl_h hs⟩, ⟨by rw [ht]; exact hS.2.2.1, va_K.moved hW.alike hK.2.2.2.2.2.1⟩, va_S.F (by rw [← f4]; exact hS.2.2.2.1) ht⟩) hS.2.2.2.1.2.2 hd f2
theorem gr_return (hd : decode M.1 pc = .ok (.return_, 1)) (hF : gFin X none o) : gr (some (h, 0)) o M X h pc lv [] := by
  intro hx hK hs H locs ls hS
  obtain ⟨f1, f2, f3, f4⟩ := hF
  cases hx
  unfold gWW
  rw [f3]
  exact W.vret hK.1 hK.2.1 f1 (fun t ht hW => ⟨rfl, ⟨hS.1, gR0⟩, ⟨by rw [ht]; exact hS.2.2.1, va_K.moved hW.alike hK.2.2.2.2.2.1⟩, va_S.F (by rw [← f4]; exact hS.2.2.2.1) ht⟩) hS.2.2.2.1.2.2 hd f2
end GCALL
/- a row of ints copied into another -/
def gcp (h : gH) (s sp d dp n : Nat) : gH := fun x y => if x = d ∧ dp ≤ y ∧ y < dp + n then h s (sp + (y - dp)) else h x y
def gcpok (s d : Nat) (sp dp n : Int) : Bool := decide (0 ≤ sp ∧ 0 ≤ dp ∧ 0 ≤ n ∧ sp + n ≤ gln s ∧ dp + n ≤ gln d)
theorem gln_of {i t n : Nat} (h : gsh i = .inl (t, n)) : gln i = (n : Int) := by unfold gln; rw [h]
theorem gr_acopy {x : Option gO} {o : gO} {M : gM} {X : gX} {h : gH} {pc : Nat} {lv : gL} {st : List gV} {idx s d n0 n1 : Nat} {sp dp n : Int} (hd : decode M.1 pc = .ok (.invokestatic idx, 3)) (pc' : Nat) (hp : pc + 3 = pc') (h1 : Cond.methodLink M.2.1 idx arraycopyName ∈ gtbl) (h2 : Cond.native arraycopyName ∈ gtbl) (h3 : Cond.static arraycopyName ∈ gtbl) (h4 : Cond.initialized "java/lang/System" ∈ gtbl) (hroom : 1 ≤ M.2.2.1 ∧ 8 + (nativeFrameWords "java/lang/System" "arraycopy" 5 + 11) ≤ M.2.2.2.1) (hcat : (st.map gCat).sum ≤ 8) (hs0 : gsh s = .inl (0, n0)) (hs1 : gsh d = .inl (0, n1)) (hi0 : s ∈ zL (xZ X)) (hi1 : d ∈ zL (xZ X)) {kk : gH → Option gO} (k1 : ∀ h1, h1 = gcp h s sp.toNat d dp.toNat n.toNat → gr (kk h1) o M X h1 pc' lv st) : gr (gd (gcpok s d sp dp n) (gs (gcp h s sp.toNat d dp.toNat n.toNat) kk)) o M X h pc lv (.inl n :: .inl dp :: .inr (.inr d) :: .inl sp :: .inr (.inr s) :: st) := by
  subst hp
  refine gr_gd fun hc => ?_
  intro hx hK hs H locs ls hS
  have hc' := of_decide_eq_true hc
  rw [gln_of hs0, gln_of hs1] at hc'
  obtain ⟨c1, c2, c3, c4, c5⟩ := hc'
  have r1 : gR32 n := gRl_h hs
  have r2 : gR32 dp := gRl_h (gRl_t hs)
  have r3 : gR32 sp := gRl_h (gRl_t (gRl_t (gRl_t hs)))
  have e1 : (Int32.ofInt n).toNatClampNeg = n.toNat := by show ((Int32.ofInt n).toInt).toNat = _; rw [g32 r1]
  have e2 : (Int32.ofInt dp).toNatClampNeg = dp.toNat := by show ((Int32.ofInt dp).toInt).toNat = _; rw [g32 r2]
  have e3 : (Int32.ofInt sp).toNatClampNeg = sp.toNat := by show ((Int32.ofInt sp).toInt).toNat = _; rw [g32 r3]
  have ng : ∀ {z : Int}, gR32 z → 0 ≤ z → ¬ Int32.ofInt z < 0 := fun rz hz q => by rw [gof0, glt rz gR0] at q; omega
  obtain ⟨q0, hq0⟩ := List.getElem?_of_mem hi0
  obtain ⟨q1, hq1⟩ := List.getElem?_of_mem hi1
  have hat0 := gW_at h hq0
  rw [gE_i hs0] at hat0
  have hat1 := gW_at h hq1
  rw [gE_i hs1] at hat1
  refine va_copyi hK.1 hK.2.1 (hK.2.2.1.1.trans hS.2.2.2.2.1.symm) hK.2.2.2.1 (hK.2.2.2.2.1 _ h1) (hK.2.2.2.2.1 _ h2) (hK.2.2.2.2.1 _ h3) (hK.2.2.2.2.1 _ h4) hK.2.2.2.2.2.1 hS.2.2.1 (gD hK.2.2.2.2.2.2.2.2.2.2 h) hS.2.2.2.1 q0 q1 0 0 hat0 hat1 (ty := .int) rfl rfl rfl (ng r3 c1) (ng r2 c2) (ng r1 c3) (by rw [e3, e1]; omega) (by rw [e2, e1]; omega) (fun _ _ => rfl) (Nat.le_trans hroom.1 hK.2.2.2.2.2.2.1) (by rw [gCat_eq]; have := hroom.2; have := hK.2.2.2.2.2.2.2.1; omega) hd (fun H1 locs1 hP1 _ hS1 => ?_)
  have hh : ∀ j, j ≠ d → ∀ y, gcp h s sp.toNat d dp.toNat n.toNat j y = h j y := fun j hj y => if_neg (fun q => hj q.1)
  have ec : va_cpy (fun j => Int32.ofInt (h s j)) (fun j => Int32.ofInt (h d j)) sp.toNat dp.toNat n.toNat = fun j => Int32.ofInt (gcp h s sp.toNat d dp.toNat n.toNat d j) := by
    funext j
    unfold va_cpy gcp
    by_cases hj : dp.toNat ≤ j ∧ j < dp.toNat + n.toNat
    · rw [if_pos hj, if_pos ⟨rfl, hj⟩]
    · rw [if_neg hj, if_neg (fun q => hj q.2)]
  rw [e1, e2, e3, ec, ← gE_i (G := zG (xZ X)) (b := zb (xZ X)) (h := gcp h s sp.toNat d dp.toNat n.toNat) hs1, gW_set hK.2.2.2.2.2.2.2.2.2.2 hq1 hh] at hP1
  have hg' : gRg (gcp h s sp.toNat d dp.toNat n.toNat) := fun x y => by
    unfold gcp
    split
    · exact hS.1 _ _
    · exact hS.1 _ _
  exact k1 _ rfl hx hK (gRl_t (gRl_t (gRl_t (gRl_t (gRl_t hs))))) H1 locs1 ls ⟨hg', hS.2.1, hP1, hS1, hS.2.2.2.2⟩
end
