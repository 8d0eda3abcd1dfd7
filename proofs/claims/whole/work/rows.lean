section
-- ===== PART A: goes FIRST, ahead of the names: the tables' words, and 'selects' of the private methods out of them =====
/-- a private method of a class that the tables say can be made, by its rows of tables_1 -/
def lw_okq (q : MethodName × Nat) : Prop := (q.1.cls ≠ "java/lang/invoke/MethodHandle" ∧ q.1.cls ≠ "java/lang/invoke/VarHandle") ∧ Cond.instantiable q.1.cls q.2 ∈ tables_1 ∧ Cond.privateMethod q.1 ∈ tables_1 ∧ Cond.instanceMethod q.1 ∈ tables_1
theorem lw_p0 : lw_okq (⟨"DecreedStreets$Reader", "skipBlanks", "()V"⟩, 6) := ⟨⟨by decide +kernel, by decide +kernel⟩, List.mem_of_getElem? (i := 116) (by decide +kernel), List.mem_of_getElem? (i := 332) (by decide +kernel), List.mem_of_getElem? (i := 333) (by decide +kernel)⟩
theorem lw_p1 : lw_okq (⟨"DecreedStreets$Reader", "readClause", "(LDecreedStreets$City;)V"⟩, 6) := ⟨⟨by decide +kernel, by decide +kernel⟩, List.mem_of_getElem? (i := 116) (by decide +kernel), List.mem_of_getElem? (i := 336) (by decide +kernel), List.mem_of_getElem? (i := 337) (by decide +kernel)⟩
theorem lw_p2 : lw_okq (⟨"DecreedStreets$Reader", "fail", "(II)V"⟩, 6) := ⟨⟨by decide +kernel, by decide +kernel⟩, List.mem_of_getElem? (i := 116) (by decide +kernel), List.mem_of_getElem? (i := 340) (by decide +kernel), List.mem_of_getElem? (i := 341) (by decide +kernel)⟩
theorem lw_p3 : lw_okq (⟨"DecreedStreets$Reader", "readCorners", "(LDecreedStreets$City;)V"⟩, 6) := ⟨⟨by decide +kernel, by decide +kernel⟩, List.mem_of_getElem? (i := 116) (by decide +kernel), List.mem_of_getElem? (i := 344) (by decide +kernel), List.mem_of_getElem? (i := 345) (by decide +kernel)⟩
theorem lw_p4 : lw_okq (⟨"DecreedStreets$Reader", "takeWord", "(Z)V"⟩, 6) := ⟨⟨by decide +kernel, by decide +kernel⟩, List.mem_of_getElem? (i := 116) (by decide +kernel), List.mem_of_getElem? (i := 348) (by decide +kernel), List.mem_of_getElem? (i := 349) (by decide +kernel)⟩
theorem lw_p5 : lw_okq (⟨"DecreedStreets$Reader", "readNumber", "(II)I"⟩, 6) := ⟨⟨by decide +kernel, by decide +kernel⟩, List.mem_of_getElem? (i := 116) (by decide +kernel), List.mem_of_getElem? (i := 352) (by decide +kernel), List.mem_of_getElem? (i := 353) (by decide +kernel)⟩
theorem lw_p6 : lw_okq (⟨"DecreedStreets$Reader", "readEnd", "()V"⟩, 6) := ⟨⟨by decide +kernel, by decide +kernel⟩, List.mem_of_getElem? (i := 116) (by decide +kernel), List.mem_of_getElem? (i := 359) (by decide +kernel), List.mem_of_getElem? (i := 360) (by decide +kernel)⟩
theorem lw_p7 : lw_okq (⟨"DecreedStreets$Reader", "readStreet", "(LDecreedStreets$City;)V"⟩, 6) := ⟨⟨by decide +kernel, by decide +kernel⟩, List.mem_of_getElem? (i := 116) (by decide +kernel), List.mem_of_getElem? (i := 363) (by decide +kernel), List.mem_of_getElem? (i := 364) (by decide +kernel)⟩
theorem lw_p8 : lw_okq (⟨"DecreedStreets$Reader", "readOther", "(II)I"⟩, 6) := ⟨⟨by decide +kernel, by decide +kernel⟩, List.mem_of_getElem? (i := 116) (by decide +kernel), List.mem_of_getElem? (i := 367) (by decide +kernel), List.mem_of_getElem? (i := 368) (by decide +kernel)⟩
theorem lw_p9 : lw_okq (⟨"DecreedStreets$Reader", "readCart", "(LDecreedStreets$City;)V"⟩, 6) := ⟨⟨by decide +kernel, by decide +kernel⟩, List.mem_of_getElem? (i := 116) (by decide +kernel), List.mem_of_getElem? (i := 371) (by decide +kernel), List.mem_of_getElem? (i := 372) (by decide +kernel)⟩
theorem lw_p10 : lw_okq (⟨"DecreedStreets$City", "shorten", "(III)V"⟩, 15) := ⟨⟨by decide +kernel, by decide +kernel⟩, List.mem_of_getElem? (i := 21) (by decide +kernel), List.mem_of_getElem? (i := 379) (by decide +kernel), List.mem_of_getElem? (i := 380) (by decide +kernel)⟩
theorem lw_p11 : lw_okq (⟨"DecreedStreets$City", "lead", "()V"⟩, 15) := ⟨⟨by decide +kernel, by decide +kernel⟩, List.mem_of_getElem? (i := 21) (by decide +kernel), List.mem_of_getElem? (i := 387) (by decide +kernel), List.mem_of_getElem? (i := 388) (by decide +kernel)⟩
theorem lw_p12 : lw_okq (⟨"DecreedStreets$City", "leastNearer", "(II)I"⟩, 15) := ⟨⟨by decide +kernel, by decide +kernel⟩, List.mem_of_getElem? (i := 21) (by decide +kernel), List.mem_of_getElem? (i := 391) (by decide +kernel), List.mem_of_getElem? (i := 392) (by decide +kernel)⟩
theorem lw_p13 : lw_okq (⟨"DecreedStreets", "isNoCorner", "(I)Z"⟩, 11) := ⟨⟨by decide +kernel, by decide +kernel⟩, List.mem_of_getElem? (i := 13) (by decide +kernel), List.mem_of_getElem? (i := 424) (by decide +kernel), List.mem_of_getElem? (i := 425) (by decide +kernel)⟩
theorem lw_p14 : lw_okq (⟨"DecreedStreets", "isNoStreet", "(I)Z"⟩, 11) := ⟨⟨by decide +kernel, by decide +kernel⟩, List.mem_of_getElem? (i := 13) (by decide +kernel), List.mem_of_getElem? (i := 434) (by decide +kernel), List.mem_of_getElem? (i := 435) (by decide +kernel)⟩
theorem lw_p15 : lw_okq (⟨"DecreedStreets", "isNoCart", "(I)Z"⟩, 11) := ⟨⟨by decide +kernel, by decide +kernel⟩, List.mem_of_getElem? (i := 13) (by decide +kernel), List.mem_of_getElem? (i := 442) (by decide +kernel), List.mem_of_getElem? (i := 443) (by decide +kernel)⟩
def lw_privs_1 : List (MethodName × Nat) := [(⟨"DecreedStreets$Reader", "skipBlanks", "()V"⟩, 6), (⟨"DecreedStreets$Reader", "readClause", "(LDecreedStreets$City;)V"⟩, 6), (⟨"DecreedStreets$Reader", "fail", "(II)V"⟩, 6), (⟨"DecreedStreets$Reader", "readCorners", "(LDecreedStreets$City;)V"⟩, 6), (⟨"DecreedStreets$Reader", "takeWord", "(Z)V"⟩, 6), (⟨"DecreedStreets$Reader", "readNumber", "(II)I"⟩, 6), (⟨"DecreedStreets$Reader", "readEnd", "()V"⟩, 6), (⟨"DecreedStreets$Reader", "readStreet", "(LDecreedStreets$City;)V"⟩, 6), (⟨"DecreedStreets$Reader", "readOther", "(II)I"⟩, 6), (⟨"DecreedStreets$Reader", "readCart", "(LDecreedStreets$City;)V"⟩, 6), (⟨"DecreedStreets$City", "shorten", "(III)V"⟩, 15), (⟨"DecreedStreets$City", "lead", "()V"⟩, 15), (⟨"DecreedStreets$City", "leastNearer", "(II)I"⟩, 15), (⟨"DecreedStreets", "isNoCorner", "(I)Z"⟩, 11), (⟨"DecreedStreets", "isNoStreet", "(I)Z"⟩, 11), (⟨"DecreedStreets", "isNoCart", "(I)Z"⟩, 11)]
theorem lw_r1 : ∀ q ∈ lw_privs_1, lw_okq q := List.forall_mem_cons.mpr ⟨lw_p0, List.forall_mem_cons.mpr ⟨lw_p1, List.forall_mem_cons.mpr ⟨lw_p2, List.forall_mem_cons.mpr ⟨lw_p3, List.forall_mem_cons.mpr ⟨lw_p4, List.forall_mem_cons.mpr ⟨lw_p5, List.forall_mem_cons.mpr ⟨lw_p6, List.forall_mem_cons.mpr ⟨lw_p7, List.forall_mem_cons.mpr ⟨lw_p8, List.forall_mem_cons.mpr ⟨lw_p9, List.forall_mem_cons.mpr ⟨lw_p10, List.forall_mem_cons.mpr ⟨lw_p11, List.forall_mem_cons.mpr ⟨lw_p12, List.forall_mem_cons.mpr ⟨lw_p13, List.forall_mem_cons.mpr ⟨lw_p14, List.forall_mem_cons.mpr ⟨lw_p15, fun _ h => absurd h List.not_mem_nil⟩⟩⟩⟩⟩⟩⟩⟩⟩⟩⟩⟩⟩⟩⟩⟩
theorem lw_p16 : lw_okq (⟨"DecreedStreets$Traffic", "isAheadOf", "(II)Z"⟩, 12) := ⟨⟨by decide +kernel, by decide +kernel⟩, List.mem_of_getElem? (i := 143) (by decide +kernel), List.mem_of_getElem? (i := 462) (by decide +kernel), List.mem_of_getElem? (i := 463) (by decide +kernel)⟩
theorem lw_p17 : lw_okq (⟨"DecreedStreets", "refusalOfMinutes", "(I)I"⟩, 11) := ⟨⟨by decide +kernel, by decide +kernel⟩, List.mem_of_getElem? (i := 13) (by decide +kernel), List.mem_of_getElem? (i := 470) (by decide +kernel), List.mem_of_getElem? (i := 471) (by decide +kernel)⟩
theorem lw_p18 : lw_okq (⟨"DecreedStreets$Traffic", "skipIdle", "(I)V"⟩, 12) := ⟨⟨by decide +kernel, by decide +kernel⟩, List.mem_of_getElem? (i := 143) (by decide +kernel), List.mem_of_getElem? (i := 491) (by decide +kernel), List.mem_of_getElem? (i := 492) (by decide +kernel)⟩
theorem lw_p19 : lw_okq (⟨"DecreedStreets$Traffic", "passOne", "()V"⟩, 12) := ⟨⟨by decide +kernel, by decide +kernel⟩, List.mem_of_getElem? (i := 143) (by decide +kernel), List.mem_of_getElem? (i := 501) (by decide +kernel), List.mem_of_getElem? (i := 502) (by decide +kernel)⟩
theorem lw_p20 : lw_okq (⟨"DecreedStreets$Traffic", "arrive", "(I)V"⟩, 12) := ⟨⟨by decide +kernel, by decide +kernel⟩, List.mem_of_getElem? (i := 143) (by decide +kernel), List.mem_of_getElem? (i := 505) (by decide +kernel), List.mem_of_getElem? (i := 506) (by decide +kernel)⟩
theorem lw_p21 : lw_okq (⟨"DecreedStreets$Traffic", "settle", "(III)V"⟩, 12) := ⟨⟨by decide +kernel, by decide +kernel⟩, List.mem_of_getElem? (i := 143) (by decide +kernel), List.mem_of_getElem? (i := 509) (by decide +kernel), List.mem_of_getElem? (i := 510) (by decide +kernel)⟩
theorem lw_p22 : lw_okq (⟨"DecreedStreets$Traffic", "waitAt", "(II)V"⟩, 12) := ⟨⟨by decide +kernel, by decide +kernel⟩, List.mem_of_getElem? (i := 143) (by decide +kernel), List.mem_of_getElem? (i := 513) (by decide +kernel), List.mem_of_getElem? (i := 514) (by decide +kernel)⟩
theorem lw_p23 : lw_okq (⟨"DecreedStreets$Traffic", "wayByLaw", "(I)I"⟩, 12) := ⟨⟨by decide +kernel, by decide +kernel⟩, List.mem_of_getElem? (i := 143) (by decide +kernel), List.mem_of_getElem? (i := 522) (by decide +kernel), List.mem_of_getElem? (i := 523) (by decide +kernel)⟩
theorem lw_p24 : lw_okq (⟨"DecreedStreets$Traffic", "wayOfLongest", "(III)I"⟩, 12) := ⟨⟨by decide +kernel, by decide +kernel⟩, List.mem_of_getElem? (i := 143) (by decide +kernel), List.mem_of_getElem? (i := 526) (by decide +kernel), List.mem_of_getElem? (i := 527) (by decide +kernel)⟩
theorem lw_p25 : lw_okq (⟨"DecreedStreets$Traffic", "longest", "(I)I"⟩, 12) := ⟨⟨by decide +kernel, by decide +kernel⟩, List.mem_of_getElem? (i := 143) (by decide +kernel), List.mem_of_getElem? (i := 530) (by decide +kernel), List.mem_of_getElem? (i := 531) (by decide +kernel)⟩
theorem lw_p26 : lw_okq (⟨"DecreedStreets$Traffic", "greatestRank", "(I)I"⟩, 12) := ⟨⟨by decide +kernel, by decide +kernel⟩, List.mem_of_getElem? (i := 143) (by decide +kernel), List.mem_of_getElem? (i := 538) (by decide +kernel), List.mem_of_getElem? (i := 539) (by decide +kernel)⟩
theorem lw_p27 : lw_okq (⟨"DecreedStreets$Traffic", "letIn", "(I)V"⟩, 12) := ⟨⟨by decide +kernel, by decide +kernel⟩, List.mem_of_getElem? (i := 143) (by decide +kernel), List.mem_of_getElem? (i := 543) (by decide +kernel), List.mem_of_getElem? (i := 544) (by decide +kernel)⟩
theorem lw_p28 : lw_okq (⟨"DecreedStreets$Traffic", "losePatience", "(I)V"⟩, 12) := ⟨⟨by decide +kernel, by decide +kernel⟩, List.mem_of_getElem? (i := 143) (by decide +kernel), List.mem_of_getElem? (i := 547) (by decide +kernel), List.mem_of_getElem? (i := 548) (by decide +kernel)⟩
theorem lw_p29 : lw_okq (⟨"DecreedStreets$Traffic", "draw", "(I)I"⟩, 12) := ⟨⟨by decide +kernel, by decide +kernel⟩, List.mem_of_getElem? (i := 143) (by decide +kernel), List.mem_of_getElem? (i := 559) (by decide +kernel), List.mem_of_getElem? (i := 560) (by decide +kernel)⟩
theorem lw_p30 : lw_okq (⟨"DecreedStreets$Way", "goBy", "(II)Z"⟩, 3) := ⟨⟨by decide +kernel, by decide +kernel⟩, List.mem_of_getElem? (i := 206) (by decide +kernel), List.mem_of_getElem? (i := 607) (by decide +kernel), List.mem_of_getElem? (i := 608) (by decide +kernel)⟩
theorem lw_p31 : lw_okq (⟨"DecreedStreets$Way", "entry", "(III)I"⟩, 3) := ⟨⟨by decide +kernel, by decide +kernel⟩, List.mem_of_getElem? (i := 206) (by decide +kernel), List.mem_of_getElem? (i := 611) (by decide +kernel), List.mem_of_getElem? (i := 612) (by decide +kernel)⟩
def lw_privs_2 : List (MethodName × Nat) := [(⟨"DecreedStreets$Traffic", "isAheadOf", "(II)Z"⟩, 12), (⟨"DecreedStreets", "refusalOfMinutes", "(I)I"⟩, 11), (⟨"DecreedStreets$Traffic", "skipIdle", "(I)V"⟩, 12), (⟨"DecreedStreets$Traffic", "passOne", "()V"⟩, 12), (⟨"DecreedStreets$Traffic", "arrive", "(I)V"⟩, 12), (⟨"DecreedStreets$Traffic", "settle", "(III)V"⟩, 12), (⟨"DecreedStreets$Traffic", "waitAt", "(II)V"⟩, 12), (⟨"DecreedStreets$Traffic", "wayByLaw", "(I)I"⟩, 12), (⟨"DecreedStreets$Traffic", "wayOfLongest", "(III)I"⟩, 12), (⟨"DecreedStreets$Traffic", "longest", "(I)I"⟩, 12), (⟨"DecreedStreets$Traffic", "greatestRank", "(I)I"⟩, 12), (⟨"DecreedStreets$Traffic", "letIn", "(I)V"⟩, 12), (⟨"DecreedStreets$Traffic", "losePatience", "(I)V"⟩, 12), (⟨"DecreedStreets$Traffic", "draw", "(I)I"⟩, 12), (⟨"DecreedStreets$Way", "goBy", "(II)Z"⟩, 3), (⟨"DecreedStreets$Way", "entry", "(III)I"⟩, 3)]
theorem lw_r2 : ∀ q ∈ lw_privs_2, lw_okq q := List.forall_mem_cons.mpr ⟨lw_p16, List.forall_mem_cons.mpr ⟨lw_p17, List.forall_mem_cons.mpr ⟨lw_p18, List.forall_mem_cons.mpr ⟨lw_p19, List.forall_mem_cons.mpr ⟨lw_p20, List.forall_mem_cons.mpr ⟨lw_p21, List.forall_mem_cons.mpr ⟨lw_p22, List.forall_mem_cons.mpr ⟨lw_p23, List.forall_mem_cons.mpr ⟨lw_p24, List.forall_mem_cons.mpr ⟨lw_p25, List.forall_mem_cons.mpr ⟨lw_p26, List.forall_mem_cons.mpr ⟨lw_p27, List.forall_mem_cons.mpr ⟨lw_p28, List.forall_mem_cons.mpr ⟨lw_p29, List.forall_mem_cons.mpr ⟨lw_p30, List.forall_mem_cons.mpr ⟨lw_p31, fun _ h => absurd h List.not_mem_nil⟩⟩⟩⟩⟩⟩⟩⟩⟩⟩⟩⟩⟩⟩⟩⟩
theorem lw_p32 : lw_okq (⟨"DecreedStreets$Way", "reach", "(II)Z"⟩, 3) := ⟨⟨by decide +kernel, by decide +kernel⟩, List.mem_of_getElem? (i := 206) (by decide +kernel), List.mem_of_getElem? (i := 615) (by decide +kernel), List.mem_of_getElem? (i := 616) (by decide +kernel)⟩
theorem lw_p33 : lw_okq (⟨"DecreedStreets$Way", "buyOne", "()V"⟩, 3) := ⟨⟨by decide +kernel, by decide +kernel⟩, List.mem_of_getElem? (i := 206) (by decide +kernel), List.mem_of_getElem? (i := 628) (by decide +kernel), List.mem_of_getElem? (i := 629) (by decide +kernel)⟩
theorem lw_p34 : lw_okq (⟨"DecreedStreets$Shuffle", "sortRanks", "([II)V"⟩, 6) := ⟨⟨by decide +kernel, by decide +kernel⟩, List.mem_of_getElem? (i := 224) (by decide +kernel), List.mem_of_getElem? (i := 641) (by decide +kernel), List.mem_of_getElem? (i := 642) (by decide +kernel)⟩
theorem lw_p35 : lw_okq (⟨"DecreedStreets$Shuffle", "goOn", "(I)Z"⟩, 6) := ⟨⟨by decide +kernel, by decide +kernel⟩, List.mem_of_getElem? (i := 224) (by decide +kernel), List.mem_of_getElem? (i := 650) (by decide +kernel), List.mem_of_getElem? (i := 651) (by decide +kernel)⟩
theorem lw_p36 : lw_okq (⟨"DecreedStreets$Shuffle", "swap", "(II)V"⟩, 6) := ⟨⟨by decide +kernel, by decide +kernel⟩, List.mem_of_getElem? (i := 224) (by decide +kernel), List.mem_of_getElem? (i := 654) (by decide +kernel), List.mem_of_getElem? (i := 655) (by decide +kernel)⟩
theorem lw_p37 : lw_okq (⟨"DecreedStreets", "fitsRuts", "(II)Z"⟩, 11) := ⟨⟨by decide +kernel, by decide +kernel⟩, List.mem_of_getElem? (i := 13) (by decide +kernel), List.mem_of_getElem? (i := 691) (by decide +kernel), List.mem_of_getElem? (i := 692) (by decide +kernel)⟩
theorem lw_p38 : lw_okq (⟨"DecreedStreetsModel", "here", "()I"⟩, 47) := ⟨⟨by decide +kernel, by decide +kernel⟩, List.mem_of_getElem? (i := 729) (by decide +kernel), List.mem_of_getElem? (i := 891) (by decide +kernel), List.mem_of_getElem? (i := 892) (by decide +kernel)⟩
theorem lw_p39 : lw_okq (⟨"DecreedStreetsModel", "takeClause", "()I"⟩, 47) := ⟨⟨by decide +kernel, by decide +kernel⟩, List.mem_of_getElem? (i := 729) (by decide +kernel), List.mem_of_getElem? (i := 895) (by decide +kernel), List.mem_of_getElem? (i := 896) (by decide +kernel)⟩
theorem lw_p40 : lw_okq (⟨"DecreedStreetsModel", "fails", "(II)I"⟩, 47) := ⟨⟨by decide +kernel, by decide +kernel⟩, List.mem_of_getElem? (i := 729) (by decide +kernel), List.mem_of_getElem? (i := 899) (by decide +kernel), List.mem_of_getElem? (i := 900) (by decide +kernel)⟩
theorem lw_p41 : lw_okq (⟨"DecreedStreetsModel", "takeCity", "()I"⟩, 47) := ⟨⟨by decide +kernel, by decide +kernel⟩, List.mem_of_getElem? (i := 729) (by decide +kernel), List.mem_of_getElem? (i := 903) (by decide +kernel), List.mem_of_getElem? (i := 904) (by decide +kernel)⟩
theorem lw_p42 : lw_okq (⟨"DecreedStreetsModel", "into", "([IIII)I"⟩, 47) := ⟨⟨by decide +kernel, by decide +kernel⟩, List.mem_of_getElem? (i := 729) (by decide +kernel), List.mem_of_getElem? (i := 907) (by decide +kernel), List.mem_of_getElem? (i := 908) (by decide +kernel)⟩
theorem lw_p43 : lw_okq (⟨"DecreedStreetsModel", "takeNumber", "(II)I"⟩, 47) := ⟨⟨by decide +kernel, by decide +kernel⟩, List.mem_of_getElem? (i := 729) (by decide +kernel), List.mem_of_getElem? (i := 911) (by decide +kernel), List.mem_of_getElem? (i := 912) (by decide +kernel)⟩
theorem lw_p44 : lw_okq (⟨"DecreedStreetsModel", "takeStreet", "()I"⟩, 47) := ⟨⟨by decide +kernel, by decide +kernel⟩, List.mem_of_getElem? (i := 729) (by decide +kernel), List.mem_of_getElem? (i := 917) (by decide +kernel), List.mem_of_getElem? (i := 918) (by decide +kernel)⟩
theorem lw_p45 : lw_okq (⟨"DecreedStreetsModel", "takeTwo", "([I[II)I"⟩, 47) := ⟨⟨by decide +kernel, by decide +kernel⟩, List.mem_of_getElem? (i := 729) (by decide +kernel), List.mem_of_getElem? (i := 921) (by decide +kernel), List.mem_of_getElem? (i := 922) (by decide +kernel)⟩
theorem lw_p46 : lw_okq (⟨"DecreedStreetsModel", "takeCart", "()I"⟩, 47) := ⟨⟨by decide +kernel, by decide +kernel⟩, List.mem_of_getElem? (i := 729) (by decide +kernel), List.mem_of_getElem? (i := 925) (by decide +kernel), List.mem_of_getElem? (i := 926) (by decide +kernel)⟩
theorem lw_p47 : lw_okq (⟨"DecreedStreetsModel", "takeRead", "()V"⟩, 47) := ⟨⟨by decide +kernel, by decide +kernel⟩, List.mem_of_getElem? (i := 729) (by decide +kernel), List.mem_of_getElem? (i := 929) (by decide +kernel), List.mem_of_getElem? (i := 930) (by decide +kernel)⟩
def lw_privs_3 : List (MethodName × Nat) := [(⟨"DecreedStreets$Way", "reach", "(II)Z"⟩, 3), (⟨"DecreedStreets$Way", "buyOne", "()V"⟩, 3), (⟨"DecreedStreets$Shuffle", "sortRanks", "([II)V"⟩, 6), (⟨"DecreedStreets$Shuffle", "goOn", "(I)Z"⟩, 6), (⟨"DecreedStreets$Shuffle", "swap", "(II)V"⟩, 6), (⟨"DecreedStreets", "fitsRuts", "(II)Z"⟩, 11), (⟨"DecreedStreetsModel", "here", "()I"⟩, 47), (⟨"DecreedStreetsModel", "takeClause", "()I"⟩, 47), (⟨"DecreedStreetsModel", "fails", "(II)I"⟩, 47), (⟨"DecreedStreetsModel", "takeCity", "()I"⟩, 47), (⟨"DecreedStreetsModel", "into", "([IIII)I"⟩, 47), (⟨"DecreedStreetsModel", "takeNumber", "(II)I"⟩, 47), (⟨"DecreedStreetsModel", "takeStreet", "()I"⟩, 47), (⟨"DecreedStreetsModel", "takeTwo", "([I[II)I"⟩, 47), (⟨"DecreedStreetsModel", "takeCart", "()I"⟩, 47), (⟨"DecreedStreetsModel", "takeRead", "()V"⟩, 47)]
theorem lw_r3 : ∀ q ∈ lw_privs_3, lw_okq q := List.forall_mem_cons.mpr ⟨lw_p32, List.forall_mem_cons.mpr ⟨lw_p33, List.forall_mem_cons.mpr ⟨lw_p34, List.forall_mem_cons.mpr ⟨lw_p35, List.forall_mem_cons.mpr ⟨lw_p36, List.forall_mem_cons.mpr ⟨lw_p37, List.forall_mem_cons.mpr ⟨lw_p38, List.forall_mem_cons.mpr ⟨lw_p39, List.forall_mem_cons.mpr ⟨lw_p40, List.forall_mem_cons.mpr ⟨lw_p41, List.forall_mem_cons.mpr ⟨lw_p42, List.forall_mem_cons.mpr ⟨lw_p43, List.forall_mem_cons.mpr ⟨lw_p44, List.forall_mem_cons.mpr ⟨lw_p45, List.forall_mem_cons.mpr ⟨lw_p46, List.forall_mem_cons.mpr ⟨lw_p47, fun _ h => absurd h List.not_mem_nil⟩⟩⟩⟩⟩⟩⟩⟩⟩⟩⟩⟩⟩⟩⟩⟩
theorem lw_p48 : lw_okq (⟨"DecreedStreetsModel", "findFar", "()V"⟩, 47) := ⟨⟨by decide +kernel, by decide +kernel⟩, List.mem_of_getElem? (i := 729) (by decide +kernel), List.mem_of_getElem? (i := 933) (by decide +kernel), List.mem_of_getElem? (i := 934) (by decide +kernel)⟩
theorem lw_p49 : lw_okq (⟨"DecreedStreetsModel", "cartsThat", "(I)I"⟩, 47) := ⟨⟨by decide +kernel, by decide +kernel⟩, List.mem_of_getElem? (i := 729) (by decide +kernel), List.mem_of_getElem? (i := 946) (by decide +kernel), List.mem_of_getElem? (i := 947) (by decide +kernel)⟩
theorem lw_p50 : lw_okq (⟨"DecreedStreetsModel", "isCorner", "(I)Z"⟩, 47) := ⟨⟨by decide +kernel, by decide +kernel⟩, List.mem_of_getElem? (i := 729) (by decide +kernel), List.mem_of_getElem? (i := 954) (by decide +kernel), List.mem_of_getElem? (i := 955) (by decide +kernel)⟩
theorem lw_p51 : lw_okq (⟨"DecreedStreetsModel", "isStreet", "(I)Z"⟩, 47) := ⟨⟨by decide +kernel, by decide +kernel⟩, List.mem_of_getElem? (i := 729) (by decide +kernel), List.mem_of_getElem? (i := 963) (by decide +kernel), List.mem_of_getElem? (i := 964) (by decide +kernel)⟩
theorem lw_p52 : lw_okq (⟨"DecreedStreetsModel", "onStreet", "(I)I"⟩, 47) := ⟨⟨by decide +kernel, by decide +kernel⟩, List.mem_of_getElem? (i := 729) (by decide +kernel), List.mem_of_getElem? (i := 967) (by decide +kernel), List.mem_of_getElem? (i := 968) (by decide +kernel)⟩
theorem lw_p53 : lw_okq (⟨"DecreedStreetsModel", "isCart", "(I)Z"⟩, 47) := ⟨⟨by decide +kernel, by decide +kernel⟩, List.mem_of_getElem? (i := 729) (by decide +kernel), List.mem_of_getElem? (i := 975) (by decide +kernel), List.mem_of_getElem? (i := 976) (by decide +kernel)⟩
theorem lw_p54 : lw_okq (⟨"DecreedStreetsModel", "nextOf", "(I)I"⟩, 47) := ⟨⟨by decide +kernel, by decide +kernel⟩, List.mem_of_getElem? (i := 729) (by decide +kernel), List.mem_of_getElem? (i := 983) (by decide +kernel), List.mem_of_getElem? (i := 984) (by decide +kernel)⟩
theorem lw_p55 : lw_okq (⟨"DecreedStreetsModel", "nextFrom", "(II)I"⟩, 47) := ⟨⟨by decide +kernel, by decide +kernel⟩, List.mem_of_getElem? (i := 729) (by decide +kernel), List.mem_of_getElem? (i := 987) (by decide +kernel), List.mem_of_getElem? (i := 988) (by decide +kernel)⟩
theorem lw_p56 : lw_okq (⟨"DecreedStreetsModel", "other", "(II)I"⟩, 47) := ⟨⟨by decide +kernel, by decide +kernel⟩, List.mem_of_getElem? (i := 729) (by decide +kernel), List.mem_of_getElem? (i := 991) (by decide +kernel), List.mem_of_getElem? (i := 992) (by decide +kernel)⟩
theorem lw_p57 : lw_okq (⟨"DecreedStreetsModel", "foremostOf", "(II)I"⟩, 47) := ⟨⟨by decide +kernel, by decide +kernel⟩, List.mem_of_getElem? (i := 729) (by decide +kernel), List.mem_of_getElem? (i := 999) (by decide +kernel), List.mem_of_getElem? (i := 1000) (by decide +kernel)⟩
theorem lw_p58 : lw_okq (⟨"DecreedStreetsModel", "isWaiting", "(III)Z"⟩, 47) := ⟨⟨by decide +kernel, by decide +kernel⟩, List.mem_of_getElem? (i := 729) (by decide +kernel), List.mem_of_getElem? (i := 1003) (by decide +kernel), List.mem_of_getElem? (i := 1004) (by decide +kernel)⟩
theorem lw_p59 : lw_okq (⟨"DecreedStreetsModel", "isAhead", "(II)Z"⟩, 47) := ⟨⟨by decide +kernel, by decide +kernel⟩, List.mem_of_getElem? (i := 729) (by decide +kernel), List.mem_of_getElem? (i := 1007) (by decide +kernel), List.mem_of_getElem? (i := 1008) (by decide +kernel)⟩
theorem lw_p60 : lw_okq (⟨"DecreedStreetsModel", "minutesRefused", "(I)I"⟩, 47) := ⟨⟨by decide +kernel, by decide +kernel⟩, List.mem_of_getElem? (i := 729) (by decide +kernel), List.mem_of_getElem? (i := 1015) (by decide +kernel), List.mem_of_getElem? (i := 1016) (by decide +kernel)⟩
theorem lw_p61 : lw_okq (⟨"DecreedStreetsModel", "home", "()I"⟩, 47) := ⟨⟨by decide +kernel, by decide +kernel⟩, List.mem_of_getElem? (i := 729) (by decide +kernel), List.mem_of_getElem? (i := 1022) (by decide +kernel), List.mem_of_getElem? (i := 1023) (by decide +kernel)⟩
theorem lw_p62 : lw_okq (⟨"DecreedStreetsModel", "pass", "()V"⟩, 47) := ⟨⟨by decide +kernel, by decide +kernel⟩, List.mem_of_getElem? (i := 729) (by decide +kernel), List.mem_of_getElem? (i := 1026) (by decide +kernel), List.mem_of_getElem? (i := 1027) (by decide +kernel)⟩
theorem lw_p63 : lw_okq (⟨"DecreedStreetsModel", "arrive", "(I)V"⟩, 47) := ⟨⟨by decide +kernel, by decide +kernel⟩, List.mem_of_getElem? (i := 729) (by decide +kernel), List.mem_of_getElem? (i := 1030) (by decide +kernel), List.mem_of_getElem? (i := 1031) (by decide +kernel)⟩
def lw_privs_4 : List (MethodName × Nat) := [(⟨"DecreedStreetsModel", "findFar", "()V"⟩, 47), (⟨"DecreedStreetsModel", "cartsThat", "(I)I"⟩, 47), (⟨"DecreedStreetsModel", "isCorner", "(I)Z"⟩, 47), (⟨"DecreedStreetsModel", "isStreet", "(I)Z"⟩, 47), (⟨"DecreedStreetsModel", "onStreet", "(I)I"⟩, 47), (⟨"DecreedStreetsModel", "isCart", "(I)Z"⟩, 47), (⟨"DecreedStreetsModel", "nextOf", "(I)I"⟩, 47), (⟨"DecreedStreetsModel", "nextFrom", "(II)I"⟩, 47), (⟨"DecreedStreetsModel", "other", "(II)I"⟩, 47), (⟨"DecreedStreetsModel", "foremostOf", "(II)I"⟩, 47), (⟨"DecreedStreetsModel", "isWaiting", "(III)Z"⟩, 47), (⟨"DecreedStreetsModel", "isAhead", "(II)Z"⟩, 47), (⟨"DecreedStreetsModel", "minutesRefused", "(I)I"⟩, 47), (⟨"DecreedStreetsModel", "home", "()I"⟩, 47), (⟨"DecreedStreetsModel", "pass", "()V"⟩, 47), (⟨"DecreedStreetsModel", "arrive", "(I)V"⟩, 47)]
theorem lw_r4 : ∀ q ∈ lw_privs_4, lw_okq q := List.forall_mem_cons.mpr ⟨lw_p48, List.forall_mem_cons.mpr ⟨lw_p49, List.forall_mem_cons.mpr ⟨lw_p50, List.forall_mem_cons.mpr ⟨lw_p51, List.forall_mem_cons.mpr ⟨lw_p52, List.forall_mem_cons.mpr ⟨lw_p53, List.forall_mem_cons.mpr ⟨lw_p54, List.forall_mem_cons.mpr ⟨lw_p55, List.forall_mem_cons.mpr ⟨lw_p56, List.forall_mem_cons.mpr ⟨lw_p57, List.forall_mem_cons.mpr ⟨lw_p58, List.forall_mem_cons.mpr ⟨lw_p59, List.forall_mem_cons.mpr ⟨lw_p60, List.forall_mem_cons.mpr ⟨lw_p61, List.forall_mem_cons.mpr ⟨lw_p62, List.forall_mem_cons.mpr ⟨lw_p63, fun _ h => absurd h List.not_mem_nil⟩⟩⟩⟩⟩⟩⟩⟩⟩⟩⟩⟩⟩⟩⟩⟩
theorem lw_p64 : lw_okq (⟨"DecreedStreetsModel", "start", "(I)V"⟩, 47) := ⟨⟨by decide +kernel, by decide +kernel⟩, List.mem_of_getElem? (i := 729) (by decide +kernel), List.mem_of_getElem? (i := 1034) (by decide +kernel), List.mem_of_getElem? (i := 1035) (by decide +kernel)⟩
theorem lw_p65 : lw_okq (⟨"DecreedStreetsModel", "enter", "(I)V"⟩, 47) := ⟨⟨by decide +kernel, by decide +kernel⟩, List.mem_of_getElem? (i := 729) (by decide +kernel), List.mem_of_getElem? (i := 1038) (by decide +kernel), List.mem_of_getElem? (i := 1039) (by decide +kernel)⟩
theorem lw_p66 : lw_okq (⟨"DecreedStreetsModel", "goesBy", "(I)I"⟩, 47) := ⟨⟨by decide +kernel, by decide +kernel⟩, List.mem_of_getElem? (i := 729) (by decide +kernel), List.mem_of_getElem? (i := 1042) (by decide +kernel), List.mem_of_getElem? (i := 1043) (by decide +kernel)⟩
theorem lw_p67 : lw_okq (⟨"DecreedStreetsModel", "longest", "(II)I"⟩, 47) := ⟨⟨by decide +kernel, by decide +kernel⟩, List.mem_of_getElem? (i := 729) (by decide +kernel), List.mem_of_getElem? (i := 1046) (by decide +kernel), List.mem_of_getElem? (i := 1047) (by decide +kernel)⟩
theorem lw_p68 : lw_okq (⟨"DecreedStreetsModel", "waiting", "(II)I"⟩, 47) := ⟨⟨by decide +kernel, by decide +kernel⟩, List.mem_of_getElem? (i := 729) (by decide +kernel), List.mem_of_getElem? (i := 1050) (by decide +kernel), List.mem_of_getElem? (i := 1051) (by decide +kernel)⟩
theorem lw_p69 : lw_okq (⟨"DecreedStreetsModel", "rankOf", "(I)I"⟩, 47) := ⟨⟨by decide +kernel, by decide +kernel⟩, List.mem_of_getElem? (i := 729) (by decide +kernel), List.mem_of_getElem? (i := 1057) (by decide +kernel), List.mem_of_getElem? (i := 1058) (by decide +kernel)⟩
theorem lw_p70 : lw_okq (⟨"DecreedStreetsModel", "tire", "(I)V"⟩, 47) := ⟨⟨by decide +kernel, by decide +kernel⟩, List.mem_of_getElem? (i := 729) (by decide +kernel), List.mem_of_getElem? (i := 1061) (by decide +kernel), List.mem_of_getElem? (i := 1062) (by decide +kernel)⟩
theorem lw_p71 : lw_okq (⟨"DecreedStreetsModel", "draw", "(I)I"⟩, 47) := ⟨⟨by decide +kernel, by decide +kernel⟩, List.mem_of_getElem? (i := 729) (by decide +kernel), List.mem_of_getElem? (i := 1069) (by decide +kernel), List.mem_of_getElem? (i := 1070) (by decide +kernel)⟩
theorem lw_p72 : lw_okq (⟨"DecreedStreetsModel", "turnNow", "(I)V"⟩, 47) := ⟨⟨by decide +kernel, by decide +kernel⟩, List.mem_of_getElem? (i := 729) (by decide +kernel), List.mem_of_getElem? (i := 1077) (by decide +kernel), List.mem_of_getElem? (i := 1078) (by decide +kernel)⟩
theorem lw_p73 : lw_okq (⟨"DecreedStreetsModel", "save", "()V"⟩, 47) := ⟨⟨by decide +kernel, by decide +kernel⟩, List.mem_of_getElem? (i := 729) (by decide +kernel), List.mem_of_getElem? (i := 1099) (by decide +kernel), List.mem_of_getElem? (i := 1100) (by decide +kernel)⟩
theorem lw_p74 : lw_okq (⟨"DecreedStreetsModel", "go", "(I)V"⟩, 47) := ⟨⟨by decide +kernel, by decide +kernel⟩, List.mem_of_getElem? (i := 729) (by decide +kernel), List.mem_of_getElem? (i := 1103) (by decide +kernel), List.mem_of_getElem? (i := 1104) (by decide +kernel)⟩
theorem lw_p75 : lw_okq (⟨"DecreedStreetsModel", "minutes", "(I)I"⟩, 47) := ⟨⟨by decide +kernel, by decide +kernel⟩, List.mem_of_getElem? (i := 729) (by decide +kernel), List.mem_of_getElem? (i := 1107) (by decide +kernel), List.mem_of_getElem? (i := 1108) (by decide +kernel)⟩
theorem lw_p76 : lw_okq (⟨"DecreedStreetsModel", "putBack", "()V"⟩, 47) := ⟨⟨by decide +kernel, by decide +kernel⟩, List.mem_of_getElem? (i := 729) (by decide +kernel), List.mem_of_getElem? (i := 1111) (by decide +kernel), List.mem_of_getElem? (i := 1112) (by decide +kernel)⟩
theorem lw_p77 : lw_okq (⟨"DecreedStreetsModel", "come", "(II)V"⟩, 47) := ⟨⟨by decide +kernel, by decide +kernel⟩, List.mem_of_getElem? (i := 729) (by decide +kernel), List.mem_of_getElem? (i := 1120) (by decide +kernel), List.mem_of_getElem? (i := 1121) (by decide +kernel)⟩
theorem lw_p78 : lw_okq (⟨"DecreedStreetsModel", "entry", "(III)I"⟩, 47) := ⟨⟨by decide +kernel, by decide +kernel⟩, List.mem_of_getElem? (i := 729) (by decide +kernel), List.mem_of_getElem? (i := 1124) (by decide +kernel), List.mem_of_getElem? (i := 1125) (by decide +kernel)⟩
theorem lw_p79 : lw_okq (⟨"DecreedStreetsModel", "buy", "(IIII)V"⟩, 47) := ⟨⟨by decide +kernel, by decide +kernel⟩, List.mem_of_getElem? (i := 729) (by decide +kernel), List.mem_of_getElem? (i := 1132) (by decide +kernel), List.mem_of_getElem? (i := 1133) (by decide +kernel)⟩
def lw_privs_5 : List (MethodName × Nat) := [(⟨"DecreedStreetsModel", "start", "(I)V"⟩, 47), (⟨"DecreedStreetsModel", "enter", "(I)V"⟩, 47), (⟨"DecreedStreetsModel", "goesBy", "(I)I"⟩, 47), (⟨"DecreedStreetsModel", "longest", "(II)I"⟩, 47), (⟨"DecreedStreetsModel", "waiting", "(II)I"⟩, 47), (⟨"DecreedStreetsModel", "rankOf", "(I)I"⟩, 47), (⟨"DecreedStreetsModel", "tire", "(I)V"⟩, 47), (⟨"DecreedStreetsModel", "draw", "(I)I"⟩, 47), (⟨"DecreedStreetsModel", "turnNow", "(I)V"⟩, 47), (⟨"DecreedStreetsModel", "save", "()V"⟩, 47), (⟨"DecreedStreetsModel", "go", "(I)V"⟩, 47), (⟨"DecreedStreetsModel", "minutes", "(I)I"⟩, 47), (⟨"DecreedStreetsModel", "putBack", "()V"⟩, 47), (⟨"DecreedStreetsModel", "come", "(II)V"⟩, 47), (⟨"DecreedStreetsModel", "entry", "(III)I"⟩, 47), (⟨"DecreedStreetsModel", "buy", "(IIII)V"⟩, 47)]
theorem lw_r5 : ∀ q ∈ lw_privs_5, lw_okq q := List.forall_mem_cons.mpr ⟨lw_p64, List.forall_mem_cons.mpr ⟨lw_p65, List.forall_mem_cons.mpr ⟨lw_p66, List.forall_mem_cons.mpr ⟨lw_p67, List.forall_mem_cons.mpr ⟨lw_p68, List.forall_mem_cons.mpr ⟨lw_p69, List.forall_mem_cons.mpr ⟨lw_p70, List.forall_mem_cons.mpr ⟨lw_p71, List.forall_mem_cons.mpr ⟨lw_p72, List.forall_mem_cons.mpr ⟨lw_p73, List.forall_mem_cons.mpr ⟨lw_p74, List.forall_mem_cons.mpr ⟨lw_p75, List.forall_mem_cons.mpr ⟨lw_p76, List.forall_mem_cons.mpr ⟨lw_p77, List.forall_mem_cons.mpr ⟨lw_p78, List.forall_mem_cons.mpr ⟨lw_p79, fun _ h => absurd h List.not_mem_nil⟩⟩⟩⟩⟩⟩⟩⟩⟩⟩⟩⟩⟩⟩⟩⟩
theorem lw_p80 : lw_okq (⟨"DecreedStreetsModel", "give", "(I)Z"⟩, 47) := ⟨⟨by decide +kernel, by decide +kernel⟩, List.mem_of_getElem? (i := 729) (by decide +kernel), List.mem_of_getElem? (i := 1140) (by decide +kernel), List.mem_of_getElem? (i := 1141) (by decide +kernel)⟩
theorem lw_p81 : lw_okq (⟨"DecreedStreetsModel", "isLess", "([I[I)Z"⟩, 47) := ⟨⟨by decide +kernel, by decide +kernel⟩, List.mem_of_getElem? (i := 729) (by decide +kernel), List.mem_of_getElem? (i := 1144) (by decide +kernel), List.mem_of_getElem? (i := 1145) (by decide +kernel)⟩
theorem lw_p82 : lw_okq (⟨"DecreedStreetsModel", "isRut", "(II)Z"⟩, 47) := ⟨⟨by decide +kernel, by decide +kernel⟩, List.mem_of_getElem? (i := 729) (by decide +kernel), List.mem_of_getElem? (i := 1173) (by decide +kernel), List.mem_of_getElem? (i := 1174) (by decide +kernel)⟩
def lw_privs_6 : List (MethodName × Nat) := [(⟨"DecreedStreetsModel", "give", "(I)Z"⟩, 47), (⟨"DecreedStreetsModel", "isLess", "([I[I)Z"⟩, 47), (⟨"DecreedStreetsModel", "isRut", "(II)Z"⟩, 47)]
theorem lw_r6 : ∀ q ∈ lw_privs_6, lw_okq q := List.forall_mem_cons.mpr ⟨lw_p80, List.forall_mem_cons.mpr ⟨lw_p81, List.forall_mem_cons.mpr ⟨lw_p82, fun _ h => absurd h List.not_mem_nil⟩⟩⟩
def lw_privs : List (MethodName × Nat) := lw_privs_1 ++ (lw_privs_2 ++ (lw_privs_3 ++ (lw_privs_4 ++ (lw_privs_5 ++ (lw_privs_6)))))
def lw_tbl : List Cond := k2_sels lw_privs ++ tables_1
theorem lw_privs_ok : ∀ q ∈ lw_privs, lw_okq q := by
  show ∀ q ∈ lw_privs_1 ++ (lw_privs_2 ++ (lw_privs_3 ++ (lw_privs_4 ++ (lw_privs_5 ++ (lw_privs_6))))), lw_okq q
  exact List.forall_mem_append.mpr ⟨lw_r1, List.forall_mem_append.mpr ⟨lw_r2, List.forall_mem_append.mpr ⟨lw_r3, List.forall_mem_append.mpr ⟨lw_r4, List.forall_mem_append.mpr ⟨lw_r5, lw_r6⟩⟩⟩⟩⟩
-- ===== end of PART A; then your names; then what follows =====
end
section
def gR_0 : String := "DecreedStreets$City"
def gT_0 : u_T := fun k => match k with
  | 0 => ("DecreedStreets$City", "corners", "I", false)
  | 1 => ("DecreedStreets$City", "half", "I", false)
  | 2 => ("DecreedStreets$City", "streets", "I", false)
  | 3 => ("DecreedStreets$City", "carts", "I", false)
  | 4 => ("DecreedStreets$City", "endA", "[I", true)
  | 5 => ("DecreedStreets$City", "endB", "[I", true)
  | 6 => ("DecreedStreets$City", "length", "[I", true)
  | 7 => ("DecreedStreets$City", "firstLaw", "[I", true)
  | 8 => ("DecreedStreets$City", "from", "[I", true)
  | 9 => ("DecreedStreets$City", "to", "[I", true)
  | 10 => ("DecreedStreets$City", "start", "[I", true)
  | 11 => ("DecreedStreets$City", "firstRank", "[I", true)
  | 12 => ("DecreedStreets$City", "patience", "[I", true)
  | 13 => ("DecreedStreets$City", "apart", "[I", true)
  | _ => ("DecreedStreets$City", "leading", "[I", true)
def gt_0 : Nat → FieldType := fun k => match k with
  | 0 => .int
  | 1 => .int
  | 2 => .int
  | 3 => .int
  | 4 => .array .int
  | 5 => .array .int
  | 6 => .array .int
  | 7 => .array .int
  | 8 => .array .int
  | 9 => .array .int
  | 10 => .array .int
  | 11 => .array .int
  | 12 => .array .int
  | 13 => .array .int
  | _ => .array .int
theorem gnm_0 : ∀ a, a < 15 → ∀ b, b < 15 → a ≠ b → (gT_0 a).2.1 ≠ (gT_0 b).2.1 := by decide +kernel
theorem gto_0 : ∀ k, k < 15 → parseFieldDescriptor (gT_0 k).2.2.1 = some (gt_0 k) := by decide +kernel
def gR_1 : String := "DecreedStreets$Notes"
def gT_1 : u_T := fun k => match k with
  | 0 => ("DecreedStreets$Notes", "count", "I", false)
  | 1 => ("DecreedStreets$Notes", "whose", "[I", true)
  | 2 => ("DecreedStreets$Notes", "minute", "[I", true)
  | _ => ("DecreedStreets$Notes", "way", "[I", true)
def gt_1 : Nat → FieldType := fun k => match k with
  | 0 => .int
  | 1 => .array .int
  | 2 => .array .int
  | _ => .array .int
theorem gnm_1 : ∀ a, a < 4 → ∀ b, b < 4 → a ≠ b → (gT_1 a).2.1 ≠ (gT_1 b).2.1 := by decide +kernel
theorem gto_1 : ∀ k, k < 4 → parseFieldDescriptor (gT_1 k).2.2.1 = some (gt_1 k) := by decide +kernel
def gR_2 : String := "DecreedStreets$Reader"
def gT_2 : u_T := fun k => match k with
  | 0 => ("DecreedStreets$Reader", "count", "I", false)
  | 1 => ("DecreedStreets$Reader", "faultAt", "I", false)
  | 2 => ("DecreedStreets$Reader", "letters", "[I", true)
  | 3 => ("DecreedStreets$Reader", "at", "I", false)
  | 4 => ("DecreedStreets$Reader", "numberAt", "I", false)
  | _ => ("DecreedStreets$Reader", "faultNumber", "I", false)
def gt_2 : Nat → FieldType := fun k => match k with
  | 0 => .int
  | 1 => .int
  | 2 => .array .int
  | 3 => .int
  | 4 => .int
  | _ => .int
theorem gnm_2 : ∀ a, a < 6 → ∀ b, b < 6 → a ≠ b → (gT_2 a).2.1 ≠ (gT_2 b).2.1 := by decide +kernel
theorem gto_2 : ∀ k, k < 6 → parseFieldDescriptor (gT_2 k).2.2.1 = some (gt_2 k) := by decide +kernel
def gR_3 : String := "DecreedStreets$Shuffle"
def gT_3 : u_T := fun k => match k with
  | 0 => ("DecreedStreets$Shuffle", "least", "I", false)
  | 1 => ("DecreedStreets$Shuffle", "best", "[I", true)
  | 2 => ("DecreedStreets$Shuffle", "order", "[I", true)
  | 3 => ("DecreedStreets$Shuffle", "now", "LDecreedStreets$Traffic;", true)
  | 4 => ("DecreedStreets$Shuffle", "tried", "LDecreedStreets$Traffic;", true)
  | _ => ("DecreedStreets$Shuffle", "foundFor", "I", false)
def gt_3 : Nat → FieldType := fun k => match k with
  | 0 => .int
  | 1 => .array .int
  | 2 => .array .int
  | 3 => .object "DecreedStreets$Traffic"
  | 4 => .object "DecreedStreets$Traffic"
  | _ => .int
theorem gnm_3 : ∀ a, a < 6 → ∀ b, b < 6 → a ≠ b → (gT_3 a).2.1 ≠ (gT_3 b).2.1 := by decide +kernel
theorem gto_3 : ∀ k, k < 6 → parseFieldDescriptor (gT_3 k).2.2.1 = some (gt_3 k) := by decide +kernel
def gR_4 : String := "DecreedStreets$Traffic"
def gT_4 : u_T := fun k => match k with
  | 0 => ("DecreedStreets$Traffic", "city", "LDecreedStreets$City;", false)
  | 1 => ("DecreedStreets$Traffic", "minute", "I", false)
  | 2 => ("DecreedStreets$Traffic", "seed", "I", false)
  | 3 => ("DecreedStreets$Traffic", "law", "[I", true)
  | 4 => ("DecreedStreets$Traffic", "goes", "[I", true)
  | 5 => ("DecreedStreets$Traffic", "on", "[I", true)
  | 6 => ("DecreedStreets$Traffic", "waiting", "[I", true)
  | 7 => ("DecreedStreets$Traffic", "rank", "[I", true)
  | 8 => ("DecreedStreets$Traffic", "how", "[I", true)
  | 9 => ("DecreedStreets$Traffic", "place", "[I", true)
  | 10 => ("DecreedStreets$Traffic", "since", "[I", true)
  | _ => ("DecreedStreets$Traffic", "waited", "[I", true)
def gt_4 : Nat → FieldType := fun k => match k with
  | 0 => .object "DecreedStreets$City"
  | 1 => .int
  | 2 => .int
  | 3 => .array .int
  | 4 => .array .int
  | 5 => .array .int
  | 6 => .array .int
  | 7 => .array .int
  | 8 => .array .int
  | 9 => .array .int
  | 10 => .array .int
  | _ => .array .int
theorem gnm_4 : ∀ a, a < 12 → ∀ b, b < 12 → a ≠ b → (gT_4 a).2.1 ≠ (gT_4 b).2.1 := by decide +kernel
theorem gto_4 : ∀ k, k < 12 → parseFieldDescriptor (gT_4 k).2.2.1 = some (gt_4 k) := by decide +kernel
def gR_5 : String := "DecreedStreets$Way"
def gT_5 : u_T := fun k => match k with
  | 0 => ("DecreedStreets$Way", "soonest", "[I", true)
  | 1 => ("DecreedStreets$Way", "before", "[I", true)
  | _ => ("DecreedStreets$Way", "now", "LDecreedStreets$Traffic;", true)
def gt_5 : Nat → FieldType := fun k => match k with
  | 0 => .array .int
  | 1 => .array .int
  | _ => .object "DecreedStreets$Traffic"
theorem gnm_5 : ∀ a, a < 3 → ∀ b, b < 3 → a ≠ b → (gT_5 a).2.1 ≠ (gT_5 b).2.1 := by decide +kernel
theorem gto_5 : ∀ k, k < 3 → parseFieldDescriptor (gT_5 k).2.2.1 = some (gt_5 k) := by decide +kernel
def gR_6 : String := "DecreedStreets"
def gT_6 : u_T := fun k => match k with
  | 0 => ("DecreedStreets", "city", "LDecreedStreets$City;", false)
  | 1 => ("DecreedStreets", "draft", "LDecreedStreets$City;", false)
  | 2 => ("DecreedStreets", "reader", "LDecreedStreets$Reader;", true)
  | 3 => ("DecreedStreets", "now", "LDecreedStreets$Traffic;", true)
  | 4 => ("DecreedStreets", "tried", "LDecreedStreets$Traffic;", true)
  | 5 => ("DecreedStreets", "images", "[LDecreedStreets$Traffic;", true)
  | 6 => ("DecreedStreets", "kept", "[Z", true)
  | 7 => ("DecreedStreets", "way", "LDecreedStreets$Way;", true)
  | 8 => ("DecreedStreets", "shuffle", "LDecreedStreets$Shuffle;", true)
  | 9 => ("DecreedStreets", "ruts", "LDecreedStreets$Notes;", true)
  | _ => ("DecreedStreets", "record", "LDecreedStreets$Notes;", true)
def gt_6 : Nat → FieldType := fun k => match k with
  | 0 => .object "DecreedStreets$City"
  | 1 => .object "DecreedStreets$City"
  | 2 => .object "DecreedStreets$Reader"
  | 3 => .object "DecreedStreets$Traffic"
  | 4 => .object "DecreedStreets$Traffic"
  | 5 => .array (.object "DecreedStreets$Traffic")
  | 6 => .array .boolean
  | 7 => .object "DecreedStreets$Way"
  | 8 => .object "DecreedStreets$Shuffle"
  | 9 => .object "DecreedStreets$Notes"
  | _ => .object "DecreedStreets$Notes"
theorem gnm_6 : ∀ a, a < 11 → ∀ b, b < 11 → a ≠ b → (gT_6 a).2.1 ≠ (gT_6 b).2.1 := by decide +kernel
theorem gto_6 : ∀ k, k < 11 → parseFieldDescriptor (gT_6 k).2.2.1 = some (gt_6 k) := by decide +kernel
def gR_7 : String := "DecreedStreetsModel"
def gT_7 : u_T := fun k => match k with
  | 0 => ("DecreedStreetsModel", "corners", "I", false)
  | 1 => ("DecreedStreetsModel", "half", "I", false)
  | 2 => ("DecreedStreetsModel", "streets", "I", false)
  | 3 => ("DecreedStreetsModel", "from", "[I", true)
  | 4 => ("DecreedStreetsModel", "to", "[I", true)
  | 5 => ("DecreedStreetsModel", "wide", "[I", true)
  | 6 => ("DecreedStreetsModel", "carts", "I", false)
  | 7 => ("DecreedStreetsModel", "begins", "[I", true)
  | 8 => ("DecreedStreetsModel", "wants", "[I", true)
  | 9 => ("DecreedStreetsModel", "starts", "[I", true)
  | 10 => ("DecreedStreetsModel", "patience", "[I", true)
  | 11 => ("DecreedStreetsModel", "far", "[I", true)
  | 12 => ("DecreedStreetsModel", "now", "[I", true)
  | 13 => ("DecreedStreetsModel", "seed", "I", false)
  | 14 => ("DecreedStreetsModel", "text", "[I", true)
  | 15 => ("DecreedStreetsModel", "texted", "I", false)
  | 16 => ("DecreedStreetsModel", "faultPlace", "I", false)
  | 17 => ("DecreedStreetsModel", "at0", "I", false)
  | 18 => ("DecreedStreetsModel", "number", "I", false)
  | 19 => ("DecreedStreetsModel", "numberAt", "I", false)
  | 20 => ("DecreedStreetsModel", "readCity", "[I", true)
  | 21 => ("DecreedStreetsModel", "readStreets", "I", false)
  | 22 => ("DecreedStreetsModel", "readFrom", "[I", true)
  | 23 => ("DecreedStreetsModel", "readTo", "[I", true)
  | 24 => ("DecreedStreetsModel", "readWide", "[I", true)
  | 25 => ("DecreedStreetsModel", "readLaw", "[I", true)
  | 26 => ("DecreedStreetsModel", "readCarts", "I", false)
  | 27 => ("DecreedStreetsModel", "readBegins", "[I", true)
  | 28 => ("DecreedStreetsModel", "readWants", "[I", true)
  | 29 => ("DecreedStreetsModel", "readStarts", "[I", true)
  | 30 => ("DecreedStreetsModel", "readRank", "[I", true)
  | 31 => ("DecreedStreetsModel", "readPatience", "[I", true)
  | 32 => ("DecreedStreetsModel", "absent", "I", false)
  | 33 => ("DecreedStreetsModel", "was", "[I", true)
  | 34 => ("DecreedStreetsModel", "soonest", "[I", true)
  | 35 => ("DecreedStreetsModel", "fewest", "[I", true)
  | 36 => ("DecreedStreetsModel", "given", "[I", true)
  | 37 => ("DecreedStreetsModel", "bestGiven", "[I", true)
  | 38 => ("DecreedStreetsModel", "ruts", "I", false)
  | 39 => ("DecreedStreetsModel", "rutStreet", "[I", true)
  | 40 => ("DecreedStreetsModel", "rutBehind", "[I", true)
  | 41 => ("DecreedStreetsModel", "rutWay", "[I", true)
  | 42 => ("DecreedStreetsModel", "booked", "I", false)
  | 43 => ("DecreedStreetsModel", "bookWho", "[I", true)
  | 44 => ("DecreedStreetsModel", "bookMinute", "[I", true)
  | 45 => ("DecreedStreetsModel", "images", "[I", true)
  | _ => ("DecreedStreetsModel", "isKept", "[Z", true)
def gt_7 : Nat → FieldType := fun k => match k with
  | 0 => .int
  | 1 => .int
  | 2 => .int
  | 3 => .array .int
  | 4 => .array .int
  | 5 => .array .int
  | 6 => .int
  | 7 => .array .int
  | 8 => .array .int
  | 9 => .array .int
  | 10 => .array .int
  | 11 => .array .int
  | 12 => .array .int
  | 13 => .int
  | 14 => .array .int
  | 15 => .int
  | 16 => .int
  | 17 => .int
  | 18 => .int
  | 19 => .int
  | 20 => .array .int
  | 21 => .int
  | 22 => .array .int
  | 23 => .array .int
  | 24 => .array .int
  | 25 => .array .int
  | 26 => .int
  | 27 => .array .int
  | 28 => .array .int
  | 29 => .array .int
  | 30 => .array .int
  | 31 => .array .int
  | 32 => .int
  | 33 => .array .int
  | 34 => .array .int
  | 35 => .array .int
  | 36 => .array .int
  | 37 => .array .int
  | 38 => .int
  | 39 => .array .int
  | 40 => .array .int
  | 41 => .array .int
  | 42 => .int
  | 43 => .array .int
  | 44 => .array .int
  | 45 => .array .int
  | _ => .array .boolean
theorem gnm_7 : ∀ a, a < 47 → ∀ b, b < 47 → a ≠ b → (gT_7 a).2.1 ≠ (gT_7 b).2.1 := by decide +kernel
theorem gto_7 : ∀ k, k < 47 → parseFieldDescriptor (gT_7 k).2.2.1 = some (gt_7 k) := by decide +kernel
abbrev gcls : List vw_C := [(gR_0, gT_0, 15), (gR_1, gT_1, 4), (gR_2, gT_2, 6), (gR_3, gT_3, 6), (gR_4, gT_4, 12), (gR_5, gT_5, 3), (gR_6, gT_6, 11), (gR_7, gT_7, 47)]
def gtbl : List Cond := lw_tbl.filter goodWord
theorem gtbl_good : ∀ w ∈ gtbl, goodWord w = true := fun _ h => (List.mem_filter.mp h).2
theorem gtbl_in : ∀ w ∈ gtbl, w ∈ lw_tbl := fun _ h => (List.mem_filter.mp h).1
theorem gtab_at {w : Cond} (i : Nat) (h : tables_1[i]? = some w) (hg : goodWord w = true) : w ∈ gtbl := List.mem_filter.mpr ⟨List.mem_append_right _ (List.mem_of_getElem? h), hg⟩
set_option maxRecDepth 20000 in
theorem gin_0 : ∀ w ∈ u_ws gR_0 gT_0 15, w ∈ gtbl := by decide +kernel
set_option maxRecDepth 20000 in
theorem gin_1 : ∀ w ∈ u_ws gR_1 gT_1 4, w ∈ gtbl := by decide +kernel
set_option maxRecDepth 20000 in
theorem gin_2 : ∀ w ∈ u_ws gR_2 gT_2 6, w ∈ gtbl := by decide +kernel
set_option maxRecDepth 20000 in
theorem gin_3 : ∀ w ∈ u_ws gR_3 gT_3 6, w ∈ gtbl := by decide +kernel
set_option maxRecDepth 20000 in
theorem gin_4 : ∀ w ∈ u_ws gR_4 gT_4 12, w ∈ gtbl := by decide +kernel
set_option maxRecDepth 20000 in
theorem gin_5 : ∀ w ∈ u_ws gR_5 gT_5 3, w ∈ gtbl := by decide +kernel
set_option maxRecDepth 20000 in
theorem gin_6 : ∀ w ∈ u_ws gR_6 gT_6 11, w ∈ gtbl := by decide +kernel
set_option maxRecDepth 20000 in
theorem gin_7 : ∀ w ∈ u_ws gR_7 gT_7 47, w ∈ gtbl := by decide +kernel
abbrev gc_DS_init : ByteArray := prog_1_method_1_code
def gy_DS_init : MethodName := ⟨gR_6, "<init>", "()V"⟩
abbrev gc_DS_feed : ByteArray := prog_1_method_2_code
def gy_DS_feed : MethodName := ⟨gR_6, "feed", "(I)I"⟩
abbrev gc_DS_city : ByteArray := prog_1_method_3_code
def gy_DS_city : MethodName := ⟨gR_6, "city", "()I"⟩
abbrev gc_DS_fault : ByteArray := prog_1_method_4_code
def gy_DS_fault : MethodName := ⟨gR_6, "fault", "()I"⟩
abbrev gc_DS_told : ByteArray := prog_1_method_5_code
def gy_DS_told : MethodName := ⟨gR_6, "told", "(I)I"⟩
abbrev gc_DS_far : ByteArray := prog_1_method_6_code
def gy_DS_far : MethodName := ⟨gR_6, "far", "(II)I"⟩
abbrev gc_DS_street : ByteArray := prog_1_method_7_code
def gy_DS_street : MethodName := ⟨gR_6, "street", "(II)I"⟩
abbrev gc_DS_cart : ByteArray := prog_1_method_8_code
def gy_DS_cart : MethodName := ⟨gR_6, "cart", "(II)I"⟩
abbrev gc_DS_next : ByteArray := prog_1_method_9_code
def gy_DS_next : MethodName := ⟨gR_6, "next", "(I)I"⟩
abbrev gc_DS_foremost : ByteArray := prog_1_method_10_code
def gy_DS_foremost : MethodName := ⟨gR_6, "foremost", "(II)I"⟩
abbrev gc_DS_minute : ByteArray := prog_1_method_11_code
def gy_DS_minute : MethodName := ⟨gR_6, "minute", "(I)I"⟩
abbrev gc_DS_drift : ByteArray := prog_1_method_12_code
def gy_DS_drift : MethodName := ⟨gR_6, "drift", "(I)I"⟩
abbrev gc_DS_turn : ByteArray := prog_1_method_13_code
def gy_DS_turn : MethodName := ⟨gR_6, "turn", "(I)I"⟩
abbrev gc_DS_law : ByteArray := prog_1_method_14_code
def gy_DS_law : MethodName := ⟨gR_6, "law", "(II)I"⟩
abbrev gc_DS_rank : ByteArray := prog_1_method_15_code
def gy_DS_rank : MethodName := ⟨gR_6, "rank", "(II)I"⟩
abbrev gc_DS_allHome : ByteArray := prog_1_method_16_code
def gy_DS_allHome : MethodName := ⟨gR_6, "allHome", "(II)I"⟩
abbrev gc_DS_foreseen : ByteArray := prog_1_method_17_code
def gy_DS_foreseen : MethodName := ⟨gR_6, "foreseen", "(III)I"⟩
abbrev gc_DS_bought : ByteArray := prog_1_method_18_code
def gy_DS_bought : MethodName := ⟨gR_6, "bought", "(IIII)I"⟩
abbrev gc_DS_ranks : ByteArray := prog_1_method_19_code
def gy_DS_ranks : MethodName := ⟨gR_6, "ranks", "(II)I"⟩
abbrev gc_DS_bestLaw : ByteArray := prog_1_method_20_code
def gy_DS_bestLaw : MethodName := ⟨gR_6, "bestLaw", "(II)I"⟩
abbrev gc_DS_lost : ByteArray := prog_1_method_21_code
def gy_DS_lost : MethodName := ⟨gR_6, "lost", "()I"⟩
abbrev gc_DS_costs : ByteArray := prog_1_method_22_code
def gy_DS_costs : MethodName := ⟨gR_6, "costs", "(II)I"⟩
abbrev gc_DS_decree : ByteArray := prog_1_method_23_code
def gy_DS_decree : MethodName := ⟨gR_6, "decree", "(I)I"⟩
abbrev gc_DS_rut : ByteArray := prog_1_method_24_code
def gy_DS_rut : MethodName := ⟨gR_6, "rut", "(III)I"⟩
abbrev gc_DS_laws : ByteArray := prog_1_method_25_code
def gy_DS_laws : MethodName := ⟨gR_6, "laws", "(I)I"⟩
abbrev gc_DS_write : ByteArray := prog_1_method_26_code
def gy_DS_write : MethodName := ⟨gR_6, "write", "(II)I"⟩
abbrev gc_DS_tear : ByteArray := prog_1_method_27_code
def gy_DS_tear : MethodName := ⟨gR_6, "tear", "()I"⟩
abbrev gc_DS_judge : ByteArray := prog_1_method_28_code
def gy_DS_judge : MethodName := ⟨gR_6, "judge", "()I"⟩
abbrev gc_DS_seed : ByteArray := prog_1_method_29_code
def gy_DS_seed : MethodName := ⟨gR_6, "seed", "(I)I"⟩
abbrev gc_DS_keep : ByteArray := prog_1_method_30_code
def gy_DS_keep : MethodName := ⟨gR_6, "keep", "(I)I"⟩
abbrev gc_DS_goBack : ByteArray := prog_1_method_31_code
def gy_DS_goBack : MethodName := ⟨gR_6, "goBack", "(I)I"⟩
abbrev gc_DS_isOutside : ByteArray := prog_1_method_32_code
def gy_DS_isOutside : MethodName := ⟨gR_6, "isOutside", "(III)Z"⟩
abbrev gc_DS_isNoCorner : ByteArray := prog_1_method_33_code
def gy_DS_isNoCorner : MethodName := ⟨gR_6, "isNoCorner", "(I)Z"⟩
abbrev gc_DS_isNoStreet : ByteArray := prog_1_method_34_code
def gy_DS_isNoStreet : MethodName := ⟨gR_6, "isNoStreet", "(I)Z"⟩
abbrev gc_DS_isNoCart : ByteArray := prog_1_method_35_code
def gy_DS_isNoCart : MethodName := ⟨gR_6, "isNoCart", "(I)Z"⟩
abbrev gc_DS_refusalOfMinutes : ByteArray := prog_1_method_36_code
def gy_DS_refusalOfMinutes : MethodName := ⟨gR_6, "refusalOfMinutes", "(I)I"⟩
abbrev gc_DS_fitsRuts : ByteArray := prog_1_method_37_code
def gy_DS_fitsRuts : MethodName := ⟨gR_6, "fitsRuts", "(II)Z"⟩
abbrev gc_Mo_init : ByteArray := prog_9_method_1_code
def gy_Mo_init : MethodName := ⟨gR_7, "<init>", "()V"⟩
abbrev gc_Mo_in : ByteArray := prog_9_method_3_code
def gy_Mo_in : MethodName := ⟨gR_7, "in", "(JJJ)Z"⟩
abbrev gc_Mo_isCorner : ByteArray := prog_9_method_4_code
def gy_Mo_isCorner : MethodName := ⟨gR_7, "isCorner", "(I)Z"⟩
abbrev gc_Mo_isStreet : ByteArray := prog_9_method_5_code
def gy_Mo_isStreet : MethodName := ⟨gR_7, "isStreet", "(I)Z"⟩
abbrev gc_Mo_isCart : ByteArray := prog_9_method_6_code
def gy_Mo_isCart : MethodName := ⟨gR_7, "isCart", "(I)Z"⟩
abbrev gc_Mo_feed : ByteArray := prog_9_method_7_code
def gy_Mo_feed : MethodName := ⟨gR_7, "feed", "(I)I"⟩
abbrev gc_Mo_here : ByteArray := prog_9_method_8_code
def gy_Mo_here : MethodName := ⟨gR_7, "here", "()I"⟩
abbrev gc_Mo_fails : ByteArray := prog_9_method_9_code
def gy_Mo_fails : MethodName := ⟨gR_7, "fails", "(II)I"⟩
abbrev gc_Mo_takeNumber : ByteArray := prog_9_method_10_code
def gy_Mo_takeNumber : MethodName := ⟨gR_7, "takeNumber", "(II)I"⟩
abbrev gc_Mo_into : ByteArray := prog_9_method_11_code
def gy_Mo_into : MethodName := ⟨gR_7, "into", "([IIII)I"⟩
abbrev gc_Mo_takeTwo : ByteArray := prog_9_method_12_code
def gy_Mo_takeTwo : MethodName := ⟨gR_7, "takeTwo", "([I[II)I"⟩
abbrev gc_Mo_takeStreet : ByteArray := prog_9_method_13_code
def gy_Mo_takeStreet : MethodName := ⟨gR_7, "takeStreet", "()I"⟩
abbrev gc_Mo_takeCart : ByteArray := prog_9_method_14_code
def gy_Mo_takeCart : MethodName := ⟨gR_7, "takeCart", "()I"⟩
abbrev gc_Mo_takeCity : ByteArray := prog_9_method_15_code
def gy_Mo_takeCity : MethodName := ⟨gR_7, "takeCity", "()I"⟩
abbrev gc_Mo_takeClause : ByteArray := prog_9_method_16_code
def gy_Mo_takeClause : MethodName := ⟨gR_7, "takeClause", "()I"⟩
abbrev gc_Mo_findFar : ByteArray := prog_9_method_17_code
def gy_Mo_findFar : MethodName := ⟨gR_7, "findFar", "()V"⟩
abbrev gc_Mo_takeRead : ByteArray := prog_9_method_18_code
def gy_Mo_takeRead : MethodName := ⟨gR_7, "takeRead", "()V"⟩
abbrev gc_Mo_city : ByteArray := prog_9_method_19_code
def gy_Mo_city : MethodName := ⟨gR_7, "city", "()I"⟩
abbrev gc_Mo_fault : ByteArray := prog_9_method_20_code
def gy_Mo_fault : MethodName := ⟨gR_7, "fault", "()I"⟩
abbrev gc_Mo_cartsThat : ByteArray := prog_9_method_21_code
def gy_Mo_cartsThat : MethodName := ⟨gR_7, "cartsThat", "(I)I"⟩
abbrev gc_Mo_told : ByteArray := prog_9_method_22_code
def gy_Mo_told : MethodName := ⟨gR_7, "told", "(I)I"⟩
abbrev gc_Mo_far : ByteArray := prog_9_method_23_code
def gy_Mo_far : MethodName := ⟨gR_7, "far", "(II)I"⟩
abbrev gc_Mo_onStreet : ByteArray := prog_9_method_24_code
def gy_Mo_onStreet : MethodName := ⟨gR_7, "onStreet", "(I)I"⟩
abbrev gc_Mo_street : ByteArray := prog_9_method_25_code
def gy_Mo_street : MethodName := ⟨gR_7, "street", "(II)I"⟩
abbrev gc_Mo_cart : ByteArray := prog_9_method_26_code
def gy_Mo_cart : MethodName := ⟨gR_7, "cart", "(II)I"⟩
abbrev gc_Mo_other : ByteArray := prog_9_method_27_code
def gy_Mo_other : MethodName := ⟨gR_7, "other", "(II)I"⟩
abbrev gc_Mo_nextFrom : ByteArray := prog_9_method_28_code
def gy_Mo_nextFrom : MethodName := ⟨gR_7, "nextFrom", "(II)I"⟩
abbrev gc_Mo_nextOf : ByteArray := prog_9_method_29_code
def gy_Mo_nextOf : MethodName := ⟨gR_7, "nextOf", "(I)I"⟩
abbrev gc_Mo_next : ByteArray := prog_9_method_30_code
def gy_Mo_next : MethodName := ⟨gR_7, "next", "(I)I"⟩
abbrev gc_Mo_isWaiting : ByteArray := prog_9_method_31_code
def gy_Mo_isWaiting : MethodName := ⟨gR_7, "isWaiting", "(III)Z"⟩
abbrev gc_Mo_isAhead : ByteArray := prog_9_method_32_code
def gy_Mo_isAhead : MethodName := ⟨gR_7, "isAhead", "(II)Z"⟩
abbrev gc_Mo_foremostOf : ByteArray := prog_9_method_33_code
def gy_Mo_foremostOf : MethodName := ⟨gR_7, "foremostOf", "(II)I"⟩
abbrev gc_Mo_foremost : ByteArray := prog_9_method_34_code
def gy_Mo_foremost : MethodName := ⟨gR_7, "foremost", "(II)I"⟩
abbrev gc_Mo_longest : ByteArray := prog_9_method_35_code
def gy_Mo_longest : MethodName := ⟨gR_7, "longest", "(II)I"⟩
abbrev gc_Mo_waiting : ByteArray := prog_9_method_36_code
def gy_Mo_waiting : MethodName := ⟨gR_7, "waiting", "(II)I"⟩
abbrev gc_Mo_rankOf : ByteArray := prog_9_method_37_code
def gy_Mo_rankOf : MethodName := ⟨gR_7, "rankOf", "(I)I"⟩
abbrev gc_Mo_sideBy : ByteArray := prog_9_method_38_code
def gy_Mo_sideBy : MethodName := ⟨gR_7, "sideBy", "(III)I"⟩
abbrev gc_Mo_goesBy : ByteArray := prog_9_method_39_code
def gy_Mo_goesBy : MethodName := ⟨gR_7, "goesBy", "(I)I"⟩
abbrev gc_Mo_arrive : ByteArray := prog_9_method_40_code
def gy_Mo_arrive : MethodName := ⟨gR_7, "arrive", "(I)V"⟩
abbrev gc_Mo_start : ByteArray := prog_9_method_41_code
def gy_Mo_start : MethodName := ⟨gR_7, "start", "(I)V"⟩
abbrev gc_Mo_enter : ByteArray := prog_9_method_42_code
def gy_Mo_enter : MethodName := ⟨gR_7, "enter", "(I)V"⟩
abbrev gc_Mo_tire : ByteArray := prog_9_method_43_code
def gy_Mo_tire : MethodName := ⟨gR_7, "tire", "(I)V"⟩
abbrev gc_Mo_pass : ByteArray := prog_9_method_44_code
def gy_Mo_pass : MethodName := ⟨gR_7, "pass", "()V"⟩
abbrev gc_Mo_home : ByteArray := prog_9_method_45_code
def gy_Mo_home : MethodName := ⟨gR_7, "home", "()I"⟩
abbrev gc_Mo_minutesRefused : ByteArray := prog_9_method_46_code
def gy_Mo_minutesRefused : MethodName := ⟨gR_7, "minutesRefused", "(I)I"⟩
abbrev gc_Mo_minute : ByteArray := prog_9_method_47_code
def gy_Mo_minute : MethodName := ⟨gR_7, "minute", "(I)I"⟩
abbrev gc_Mo_draw : ByteArray := prog_9_method_48_code
def gy_Mo_draw : MethodName := ⟨gR_7, "draw", "(I)I"⟩
abbrev gc_Mo_turnNow : ByteArray := prog_9_method_49_code
def gy_Mo_turnNow : MethodName := ⟨gR_7, "turnNow", "(I)V"⟩
abbrev gc_Mo_drift : ByteArray := prog_9_method_50_code
def gy_Mo_drift : MethodName := ⟨gR_7, "drift", "(I)I"⟩
abbrev gc_Mo_turn : ByteArray := prog_9_method_51_code
def gy_Mo_turn : MethodName := ⟨gR_7, "turn", "(I)I"⟩
abbrev gc_Mo_law : ByteArray := prog_9_method_52_code
def gy_Mo_law : MethodName := ⟨gR_7, "law", "(II)I"⟩
abbrev gc_Mo_rank : ByteArray := prog_9_method_53_code
def gy_Mo_rank : MethodName := ⟨gR_7, "rank", "(II)I"⟩
abbrev gc_Mo_save : ByteArray := prog_9_method_54_code
def gy_Mo_save : MethodName := ⟨gR_7, "save", "()V"⟩
abbrev gc_Mo_putBack : ByteArray := prog_9_method_55_code
def gy_Mo_putBack : MethodName := ⟨gR_7, "putBack", "()V"⟩
abbrev gc_Mo_go : ByteArray := prog_9_method_56_code
def gy_Mo_go : MethodName := ⟨gR_7, "go", "(I)V"⟩
abbrev gc_Mo_minutes : ByteArray := prog_9_method_57_code
def gy_Mo_minutes : MethodName := ⟨gR_7, "minutes", "(I)I"⟩
abbrev gc_Mo_allHome : ByteArray := prog_9_method_58_code
def gy_Mo_allHome : MethodName := ⟨gR_7, "allHome", "(II)I"⟩
abbrev gc_Mo_entry : ByteArray := prog_9_method_59_code
def gy_Mo_entry : MethodName := ⟨gR_7, "entry", "(III)I"⟩
abbrev gc_Mo_foreseen : ByteArray := prog_9_method_60_code
def gy_Mo_foreseen : MethodName := ⟨gR_7, "foreseen", "(III)I"⟩
abbrev gc_Mo_come : ByteArray := prog_9_method_61_code
def gy_Mo_come : MethodName := ⟨gR_7, "come", "(II)V"⟩
abbrev gc_Mo_buy : ByteArray := prog_9_method_62_code
def gy_Mo_buy : MethodName := ⟨gR_7, "buy", "(IIII)V"⟩
abbrev gc_Mo_bought : ByteArray := prog_9_method_63_code
def gy_Mo_bought : MethodName := ⟨gR_7, "bought", "(IIII)I"⟩
abbrev gc_Mo_give : ByteArray := prog_9_method_64_code
def gy_Mo_give : MethodName := ⟨gR_7, "give", "(I)Z"⟩
abbrev gc_Mo_isLess : ByteArray := prog_9_method_65_code
def gy_Mo_isLess : MethodName := ⟨gR_7, "isLess", "([I[I)Z"⟩
abbrev gc_Mo_ranks : ByteArray := prog_9_method_66_code
def gy_Mo_ranks : MethodName := ⟨gR_7, "ranks", "(II)I"⟩
abbrev gc_Mo_bestLaw : ByteArray := prog_9_method_67_code
def gy_Mo_bestLaw : MethodName := ⟨gR_7, "bestLaw", "(II)I"⟩
abbrev gc_Mo_lost : ByteArray := prog_9_method_68_code
def gy_Mo_lost : MethodName := ⟨gR_7, "lost", "()I"⟩
abbrev gc_Mo_costs : ByteArray := prog_9_method_69_code
def gy_Mo_costs : MethodName := ⟨gR_7, "costs", "(II)I"⟩
abbrev gc_Mo_decree : ByteArray := prog_9_method_70_code
def gy_Mo_decree : MethodName := ⟨gR_7, "decree", "(I)I"⟩
abbrev gc_Mo_rut : ByteArray := prog_9_method_71_code
def gy_Mo_rut : MethodName := ⟨gR_7, "rut", "(III)I"⟩
abbrev gc_Mo_isRut : ByteArray := prog_9_method_72_code
def gy_Mo_isRut : MethodName := ⟨gR_7, "isRut", "(II)Z"⟩
abbrev gc_Mo_laws : ByteArray := prog_9_method_73_code
def gy_Mo_laws : MethodName := ⟨gR_7, "laws", "(I)I"⟩
abbrev gc_Mo_write : ByteArray := prog_9_method_74_code
def gy_Mo_write : MethodName := ⟨gR_7, "write", "(II)I"⟩
abbrev gc_Mo_tear : ByteArray := prog_9_method_75_code
def gy_Mo_tear : MethodName := ⟨gR_7, "tear", "()I"⟩
abbrev gc_Mo_judge : ByteArray := prog_9_method_76_code
def gy_Mo_judge : MethodName := ⟨gR_7, "judge", "()I"⟩
abbrev gc_Mo_seed : ByteArray := prog_9_method_77_code
def gy_Mo_seed : MethodName := ⟨gR_7, "seed", "(I)I"⟩
abbrev gc_Mo_keep : ByteArray := prog_9_method_78_code
def gy_Mo_keep : MethodName := ⟨gR_7, "keep", "(I)I"⟩
abbrev gc_Mo_goBack : ByteArray := prog_9_method_79_code
def gy_Mo_goBack : MethodName := ⟨gR_7, "goBack", "(I)I"⟩
abbrev gc_City_init : ByteArray := prog_2_method_1_code
def gy_City_init : MethodName := ⟨gR_0, "<init>", "()V"⟩
abbrev gc_City_clear : ByteArray := prog_2_method_2_code
def gy_City_clear : MethodName := ⟨gR_0, "clear", "()V"⟩
abbrev gc_City_distance : ByteArray := prog_2_method_3_code
def gy_City_distance : MethodName := ⟨gR_0, "distance", "(II)I"⟩
abbrev gc_City_nextStreet : ByteArray := prog_2_method_4_code
def gy_City_nextStreet : MethodName := ⟨gR_0, "nextStreet", "(II)I"⟩
abbrev gc_City_otherEnd : ByteArray := prog_2_method_5_code
def gy_City_otherEnd : MethodName := ⟨gR_0, "otherEnd", "(II)I"⟩
abbrev gc_City_sideOf : ByteArray := prog_2_method_6_code
def gy_City_sideOf : MethodName := ⟨gR_0, "sideOf", "(II)I"⟩
abbrev gc_City_measure : ByteArray := prog_2_method_7_code
def gy_City_measure : MethodName := ⟨gR_0, "measure", "()V"⟩
abbrev gc_City_shorten : ByteArray := prog_2_method_8_code
def gy_City_shorten : MethodName := ⟨gR_0, "shorten", "(III)V"⟩
abbrev gc_City_lead : ByteArray := prog_2_method_9_code
def gy_City_lead : MethodName := ⟨gR_0, "lead", "()V"⟩
abbrev gc_City_leastNearer : ByteArray := prog_2_method_10_code
def gy_City_leastNearer : MethodName := ⟨gR_0, "leastNearer", "(II)I"⟩
abbrev gc_Notes_init : ByteArray := prog_3_method_1_code
def gy_Notes_init : MethodName := ⟨gR_1, "<init>", "(I)V"⟩
abbrev gc_Notes_add : ByteArray := prog_3_method_2_code
def gy_Notes_add : MethodName := ⟨gR_1, "add", "(III)Z"⟩
abbrev gc_Notes_minutesOf : ByteArray := prog_3_method_3_code
def gy_Notes_minutesOf : MethodName := ⟨gR_1, "minutesOf", "(I)I"⟩
abbrev gc_Notes_agree : ByteArray := prog_3_method_4_code
def gy_Notes_agree : MethodName := ⟨gR_1, "agree", "(III)Z"⟩
abbrev gc_Reader_init : ByteArray := prog_4_method_1_code
def gy_Reader_init : MethodName := ⟨gR_2, "<init>", "()V"⟩
abbrev gc_Reader_add : ByteArray := prog_4_method_2_code
def gy_Reader_add : MethodName := ⟨gR_2, "add", "(I)Z"⟩
abbrev gc_Reader_readInto : ByteArray := prog_4_method_3_code
def gy_Reader_readInto : MethodName := ⟨gR_2, "readInto", "(LDecreedStreets$City;)I"⟩
abbrev gc_Reader_readClause : ByteArray := prog_4_method_4_code
def gy_Reader_readClause : MethodName := ⟨gR_2, "readClause", "(LDecreedStreets$City;)V"⟩
abbrev gc_Reader_readCorners : ByteArray := prog_4_method_5_code
def gy_Reader_readCorners : MethodName := ⟨gR_2, "readCorners", "(LDecreedStreets$City;)V"⟩
abbrev gc_Reader_readStreet : ByteArray := prog_4_method_6_code
def gy_Reader_readStreet : MethodName := ⟨gR_2, "readStreet", "(LDecreedStreets$City;)V"⟩
abbrev gc_Reader_readCart : ByteArray := prog_4_method_7_code
def gy_Reader_readCart : MethodName := ⟨gR_2, "readCart", "(LDecreedStreets$City;)V"⟩
abbrev gc_Reader_takeWord : ByteArray := prog_4_method_8_code
def gy_Reader_takeWord : MethodName := ⟨gR_2, "takeWord", "(Z)V"⟩
abbrev gc_Reader_readOther : ByteArray := prog_4_method_9_code
def gy_Reader_readOther : MethodName := ⟨gR_2, "readOther", "(II)I"⟩
abbrev gc_Reader_readNumber : ByteArray := prog_4_method_10_code
def gy_Reader_readNumber : MethodName := ⟨gR_2, "readNumber", "(II)I"⟩
abbrev gc_Reader_readEnd : ByteArray := prog_4_method_11_code
def gy_Reader_readEnd : MethodName := ⟨gR_2, "readEnd", "()V"⟩
abbrev gc_Reader_skipBlanks : ByteArray := prog_4_method_12_code
def gy_Reader_skipBlanks : MethodName := ⟨gR_2, "skipBlanks", "()V"⟩
abbrev gc_Reader_isFigure : ByteArray := prog_4_method_13_code
def gy_Reader_isFigure : MethodName := ⟨gR_2, "isFigure", "(I)Z"⟩
abbrev gc_Reader_fail : ByteArray := prog_4_method_14_code
def gy_Reader_fail : MethodName := ⟨gR_2, "fail", "(II)V"⟩
abbrev gc_Shuffle_init : ByteArray := prog_5_method_1_code
def gy_Shuffle_init : MethodName := ⟨gR_3, "<init>", "(LDecreedStreets$Traffic;LDecreedStreets$Traffic;)V"⟩
abbrev gc_Shuffle_forget : ByteArray := prog_5_method_2_code
def gy_Shuffle_forget : MethodName := ⟨gR_3, "forget", "()V"⟩
abbrev gc_Shuffle_find : ByteArray := prog_5_method_3_code
def gy_Shuffle_find : MethodName := ⟨gR_3, "find", "(I)V"⟩
abbrev gc_Shuffle_sortRanks : ByteArray := prog_5_method_4_code
def gy_Shuffle_sortRanks : MethodName := ⟨gR_3, "sortRanks", "([II)V"⟩
abbrev gc_Shuffle_goOn : ByteArray := prog_5_method_5_code
def gy_Shuffle_goOn : MethodName := ⟨gR_3, "goOn", "(I)Z"⟩
abbrev gc_Shuffle_swap : ByteArray := prog_5_method_6_code
def gy_Shuffle_swap : MethodName := ⟨gR_3, "swap", "(II)V"⟩
abbrev gc_Traffic_init : ByteArray := prog_6_method_1_code
def gy_Traffic_init : MethodName := ⟨gR_4, "<init>", "(LDecreedStreets$City;)V"⟩
abbrev gc_Traffic_begin : ByteArray := prog_6_method_2_code
def gy_Traffic_begin : MethodName := ⟨gR_4, "begin", "(LDecreedStreets$City;)V"⟩
abbrev gc_Traffic_copyFrom : ByteArray := prog_6_method_3_code
def gy_Traffic_copyFrom : MethodName := ⟨gR_4, "copyFrom", "(LDecreedStreets$Traffic;)V"⟩
abbrev gc_Traffic_decreeLaw : ByteArray := prog_6_method_4_code
def gy_Traffic_decreeLaw : MethodName := ⟨gR_4, "decreeLaw", "(II)V"⟩
abbrev gc_Traffic_those : ByteArray := prog_6_method_5_code
def gy_Traffic_those : MethodName := ⟨gR_4, "those", "(I)I"⟩
abbrev gc_Traffic_countHome : ByteArray := prog_6_method_6_code
def gy_Traffic_countHome : MethodName := ⟨gR_4, "countHome", "()I"⟩
abbrev gc_Traffic_toll : ByteArray := prog_6_method_7_code
def gy_Traffic_toll : MethodName := ⟨gR_4, "toll", "()I"⟩
abbrev gc_Traffic_together : ByteArray := prog_6_method_8_code
def gy_Traffic_together : MethodName := ⟨gR_4, "together", "(I)I"⟩
abbrev gc_Traffic_pass : ByteArray := prog_6_method_9_code
def gy_Traffic_pass : MethodName := ⟨gR_4, "pass", "(I)V"⟩
abbrev gc_Traffic_passByDraws : ByteArray := prog_6_method_10_code
def gy_Traffic_passByDraws : MethodName := ⟨gR_4, "passByDraws", "(I)V"⟩
abbrev gc_Traffic_draw : ByteArray := prog_6_method_11_code
def gy_Traffic_draw : MethodName := ⟨gR_4, "draw", "(I)I"⟩
abbrev gc_Traffic_skipIdle : ByteArray := prog_6_method_12_code
def gy_Traffic_skipIdle : MethodName := ⟨gR_4, "skipIdle", "(I)V"⟩
abbrev gc_Traffic_passOne : ByteArray := prog_6_method_13_code
def gy_Traffic_passOne : MethodName := ⟨gR_4, "passOne", "()V"⟩
abbrev gc_Traffic_arrive : ByteArray := prog_6_method_14_code
def gy_Traffic_arrive : MethodName := ⟨gR_4, "arrive", "(I)V"⟩
abbrev gc_Traffic_waitAt : ByteArray := prog_6_method_15_code
def gy_Traffic_waitAt : MethodName := ⟨gR_4, "waitAt", "(II)V"⟩
abbrev gc_Traffic_settle : ByteArray := prog_6_method_16_code
def gy_Traffic_settle : MethodName := ⟨gR_4, "settle", "(III)V"⟩
abbrev gc_Traffic_letIn : ByteArray := prog_6_method_17_code
def gy_Traffic_letIn : MethodName := ⟨gR_4, "letIn", "(I)V"⟩
abbrev gc_Traffic_losePatience : ByteArray := prog_6_method_18_code
def gy_Traffic_losePatience : MethodName := ⟨gR_4, "losePatience", "(I)V"⟩
abbrev gc_Traffic_wayByLaw : ByteArray := prog_6_method_19_code
def gy_Traffic_wayByLaw : MethodName := ⟨gR_4, "wayByLaw", "(I)I"⟩
abbrev gc_Traffic_wayOfLongest : ByteArray := prog_6_method_20_code
def gy_Traffic_wayOfLongest : MethodName := ⟨gR_4, "wayOfLongest", "(III)I"⟩
abbrev gc_Traffic_wayOfMore : ByteArray := prog_6_method_21_code
def gy_Traffic_wayOfMore : MethodName := ⟨gR_4, "wayOfMore", "(III)I"⟩
abbrev gc_Traffic_longest : ByteArray := prog_6_method_22_code
def gy_Traffic_longest : MethodName := ⟨gR_4, "longest", "(I)I"⟩
abbrev gc_Traffic_greatestRank : ByteArray := prog_6_method_23_code
def gy_Traffic_greatestRank : MethodName := ⟨gR_4, "greatestRank", "(I)I"⟩
abbrev gc_Traffic_firstOf : ByteArray := prog_6_method_24_code
def gy_Traffic_firstOf : MethodName := ⟨gR_4, "firstOf", "(I)I"⟩
abbrev gc_Traffic_isAheadOf : ByteArray := prog_6_method_25_code
def gy_Traffic_isAheadOf : MethodName := ⟨gR_4, "isAheadOf", "(II)Z"⟩
abbrev gc_Way_init : ByteArray := prog_7_method_1_code
def gy_Way_init : MethodName := ⟨gR_5, "<init>", "(LDecreedStreets$Traffic;)V"⟩
abbrev gc_Way_setOut : ByteArray := prog_7_method_2_code
def gy_Way_setOut : MethodName := ⟨gR_5, "setOut", "(II)V"⟩
abbrev gc_Way_spread : ByteArray := prog_7_method_3_code
def gy_Way_spread : MethodName := ⟨gR_5, "spread", "()V"⟩
abbrev gc_Way_fewestBought : ByteArray := prog_7_method_4_code
def gy_Way_fewestBought : MethodName := ⟨gR_5, "fewestBought", "(II)I"⟩
abbrev gc_Way_buyOne : ByteArray := prog_7_method_5_code
def gy_Way_buyOne : MethodName := ⟨gR_5, "buyOne", "()V"⟩
abbrev gc_Way_goBy : ByteArray := prog_7_method_6_code
def gy_Way_goBy : MethodName := ⟨gR_5, "goBy", "(II)Z"⟩
abbrev gc_Way_entry : ByteArray := prog_7_method_7_code
def gy_Way_entry : MethodName := ⟨gR_5, "entry", "(III)I"⟩
abbrev gc_Way_reach : ByteArray := prog_7_method_8_code
def gy_Way_reach : MethodName := ⟨gR_5, "reach", "(II)Z"⟩
abbrev gc_Law_law : ByteArray := code
abbrev gc_JO_init : ByteArray := object_method_1_code
def gy_JO_init : MethodName := ⟨"java/lang/Object", "<init>", "()V"⟩
abbrev gc_JI_bitCount : ByteArray := prog_10_method_49_code
def gy_JI_bitCount : MethodName := ⟨"java/lang/Integer", "bitCount", "(I)I"⟩
abbrev gc_JM_max : ByteArray := prog_11_method_65_code
def gy_JM_max : MethodName := ⟨"java/lang/Math", "max", "(II)I"⟩
abbrev gc_JM_min : ByteArray := prog_11_method_69_code
def gy_JM_min : MethodName := ⟨"java/lang/Math", "min", "(II)I"⟩
end
section
abbrev gV : Type := Int ⊕ (Int ⊕ Nat)
abbrev gL : Type := List (Nat × gV)
abbrev gH : Type := Nat → Nat → Int
abbrev gO : Type := gH × Int
abbrev gM : Type := ByteArray × String × Nat × Nat × Nat
abbrev gG : Type := ClassId × ClassId × ClassId
abbrev gZ : Type := Launch × va_G × Nat × List Nat × gG
abbrev gX : Type := gZ × Program × Env × Room × State × MethodId × Array Value × List Frame × Method × Code × Nat × Nat × Nat × (State → Prop) × Heap
abbrev zl (Z : gZ) : Launch := Z.1
abbrev zD (Z : gZ) : va_G := Z.2.1
abbrev zb (Z : gZ) : Nat := Z.2.2.1
abbrev zL (Z : gZ) : List Nat := Z.2.2.2.1
abbrev zG (Z : gZ) : gG := Z.2.2.2.2
abbrev xZ (X : gX) : gZ := X.1
abbrev xp (X : gX) : Program := X.2.1
abbrev xe (X : gX) : Env := X.2.2.1
abbrev xR (X : gX) : Room := X.2.2.2.1
abbrev xs (X : gX) : State := X.2.2.2.2.1
abbrev xm (X : gX) : MethodId := X.2.2.2.2.2.1
abbrev xa (X : gX) : Array Value := X.2.2.2.2.2.2.1
abbrev xb (X : gX) : List Frame := X.2.2.2.2.2.2.2.1
abbrev xme (X : gX) : Method := X.2.2.2.2.2.2.2.2.1
abbrev xc (X : gX) : Code := X.2.2.2.2.2.2.2.2.2.1
abbrev xn (X : gX) : Nat := X.2.2.2.2.2.2.2.2.2.2.1
abbrev xce (X : gX) : Nat := X.2.2.2.2.2.2.2.2.2.2.2.1
abbrev xsl (X : gX) : Nat := X.2.2.2.2.2.2.2.2.2.2.2.2.1
abbrev xQ (X : gX) : State → Prop := X.2.2.2.2.2.2.2.2.2.2.2.2.2.1
abbrev xH (X : gX) : Heap := X.2.2.2.2.2.2.2.2.2.2.2.2.2.2
def gem (b : Nat) (v : gV) : Value := match v with
  | .inl x => .int (Int32.ofInt x)
  | .inr (.inl x) => .long (Int64.ofInt x)
  | .inr (.inr a) => .ref (b + a)
def gR32 (x : Int) : Prop := -2147483648 ≤ x ∧ x ≤ 2147483647
def gR64 (x : Int) : Prop := -9223372036854775808 ≤ x ∧ x ≤ 9223372036854775807
def gRv (v : gV) : Prop := match v with
  | .inl x => gR32 x
  | .inr (.inl x) => gR64 x
  | .inr (.inr _) => True
def gRl (st : List gV) : Prop := ∀ v ∈ st, gRv v
def gRg (h : gH) : Prop := ∀ a i, gR32 (h a i)
def gup (h : gH) (a k : Nat) (v : Int) : gH := fun x y => if x = a ∧ y = k then v else h x y
abbrev gK : Type := (Nat × Nat) ⊕ Nat
def gtab : List gK := [.inr 6, .inr 0, .inl (0, 9), .inl (0, 9), .inl (0, 9), .inl (0, 9), .inl (0, 6), .inl (0, 6), .inl (0, 6), .inl (0, 6), .inl (0, 6), .inl (0, 49), .inl (0, 49), .inr 0, .inl (0, 9), .inl (0, 9), .inl (0, 9), .inl (0, 9), .inl (0, 6), .inl (0, 6), .inl (0, 6), .inl (0, 6), .inl (0, 6), .inl (0, 49), .inl (0, 49), .inr 2, .inl (0, 250), .inr 4, .inl (0, 9), .inl (0, 9), .inl (0, 9), .inl (0, 18), .inl (0, 6), .inl (0, 6), .inl (0, 6), .inl (0, 6), .inl (0, 6), .inr 4, .inl (0, 9), .inl (0, 9), .inl (0, 9), .inl (0, 18), .inl (0, 6), .inl (0, 6), .inl (0, 6), .inl (0, 6), .inl (0, 6), .inl (2, 2), .inr 4, .inl (0, 9), .inl (0, 9), .inl (0, 9), .inl (0, 18), .inl (0, 6), .inl (0, 6), .inl (0, 6), .inl (0, 6), .inl (0, 6), .inr 4, .inl (0, 9), .inl (0, 9), .inl (0, 9), .inl (0, 18), .inl (0, 6), .inl (0, 6), .inl (0, 6), .inl (0, 6), .inl (0, 6), .inl (1, 2), .inr 5, .inl (0, 7), .inl (0, 7), .inr 3, .inl (0, 6), .inl (0, 6), .inr 1, .inl (0, 8), .inl (0, 8), .inl (0, 8), .inr 1, .inl (0, 15), .inl (0, 15), .inl (0, 15), .inr 7, .inl (0, 9), .inl (0, 9), .inl (0, 9), .inl (0, 6), .inl (0, 6), .inl (0, 6), .inl (0, 6), .inl (0, 49), .inl (0, 50), .inl (0, 250), .inl (0, 2), .inl (0, 9), .inl (0, 9), .inl (0, 9), .inl (0, 9), .inl (0, 6), .inl (0, 6), .inl (0, 6), .inl (0, 6), .inl (0, 6), .inl (0, 50), .inl (0, 7), .inl (0, 2107), .inl (0, 6), .inl (0, 6), .inl (0, 8), .inl (0, 8), .inl (0, 8), .inl (0, 15), .inl (0, 15), .inl (0, 102), .inl (1, 2)]
def gN : Nat := 116
def gsh (i : Nat) : gK := gtab.getD i (.inl (9, 0))
def gln (i : Nat) : Nat := match gsh i with
  | .inl (_, n) => n
  | .inr _ => 0
def gfk (ci : Nat) : List (Nat × Nat) := match ci with
  | 0 => [(0, 0), (0, 0), (0, 0), (0, 0), (2, 1), (2, 2), (2, 3), (2, 4), (2, 5), (2, 6), (2, 7), (2, 8), (2, 9), (2, 10), (2, 11)]
  | 1 => [(0, 0), (2, 1), (2, 2), (2, 3)]
  | 2 => [(0, 0), (0, 0), (2, 1), (0, 0), (0, 0), (0, 0)]
  | 3 => [(0, 0), (2, 1), (2, 2), (3, 27), (3, 37), (0, 0)]
  | 4 => [(1, 0), (0, 0), (0, 0), (2, 1), (2, 2), (2, 3), (2, 4), (2, 5), (2, 6), (2, 7), (2, 8), (2, 9)]
  | 5 => [(2, 1), (2, 2), (3, 27)]
  | 6 => [(1, 0), (1, 0), (3, 25), (3, 27), (3, 37), (3, 47), (3, 68), (3, 69), (3, 72), (3, 75), (3, 79)]
  | _ => [(0, 0), (0, 0), (0, 0), (2, 1), (2, 2), (2, 3), (0, 0), (2, 4), (2, 5), (2, 6), (2, 7), (2, 8), (2, 9), (0, 0), (2, 10), (0, 0), (0, 0), (0, 0), (0, 0), (0, 0), (2, 11), (0, 0), (2, 12), (2, 13), (2, 14), (2, 15), (0, 0), (2, 16), (2, 17), (2, 18), (2, 19), (2, 20), (0, 0), (2, 21), (2, 22), (2, 23), (2, 24), (2, 25), (0, 0), (2, 26), (2, 27), (2, 28), (0, 0), (2, 29), (2, 30), (2, 31), (2, 32)]
def gfv (b i : Nat) (h : gH) (k : Nat) (q : Nat × Nat) : Value := match q.1 with
  | 0 => .int (Int32.ofInt (h i k))
  | 1 => .ref (b + (h i k).toNat)
  | 2 => .ref (b + (i + q.2))
  | _ => .ref (b + q.2)
def gE (G : gG) (b : Nat) (h : gH) (i : Nat) : va_E := match gsh i with
  | .inl (0, n) => .inl (G.1, n, .inl (fun j => Int32.ofInt (h i j)))
  | .inl (1, n) => .inl (G.2.1, n, .inl (fun j => Int32.ofInt (h i j)))
  | .inl (_, n) => .inl (G.2.2, n, .inr (.inr (.inr (.inr (fun j => some (b + (i + 1 + 10 * j)))))))
  | .inr ci => .inr (ci, (gfk ci).mapIdx (fun k q => gfv b i h k q))
def gW (Z : gZ) (h : gH) : va_W := (zL Z).map (fun i => (zb Z + i, gE (zG Z) (zb Z) h i))
def gA (Z : gZ) : Nat → Prop := fun q => ∃ i, i ∈ zL Z ∧ q = zb Z + i
def gTy (Z : gZ) : List (ClassId × FieldType) := [((zG Z).1, .int), ((zG Z).2.1, .boolean), ((zG Z).2.2, .object "DecreedStreets$Traffic")]
def gEL (b : Nat) (lv : gL) : List (Nat × Value) := lv.map (fun q => (q.1, gem b q.2))
def gKn (M : gM) (X : gX) : Prop :=
  (xp X).tables.exec = Jvm.exec ∧ (xc X).code = M.1 ∧ ((xc X).maxLocals = xn X ∧ xn X = M.2.2.2.2) ∧ (xs X).vm.findClass M.2.1 = some (xm X).cls ∧ (∀ w ∈ gtbl, w.before (xa X) (xs X) = true) ∧ va_K (zD (xZ X)) gcls (gTy (xZ X)) (xs X) ∧ M.2.2.1 ≤ (xR X).frames ∧ M.2.2.2.1 ≤ (xR X).locals ∧ xce X ≤ (xR X).cells ∧ xsl X ≤ (xR X).slots ∧ (zL (xZ X)).Nodup
def gSt (X : gX) (h : gH) (lv : gL) (H : Heap) (locs : List Loc) (ls : Array Slot) : Prop :=
  gRg h ∧ gRl (lv.map Prod.snd) ∧ va_P (zD (xZ X)) gcls (gW (xZ X) h) H ∧ va_S (gA (xZ X)) (xH X) H locs ∧ lv_has ls (xn X) (gEL (zb (xZ X)) lv)
def gWW (X : gX) (H : Heap) (locs : List Loc) (pc : Nat) (ls : Array Slot) (st : List gV) : Prop :=
  W (xp X) (zl (xZ X)) (xe X) (xR X) (xs X) (xm X) (xa X) (xb X) (xme X) (xc X) H locs (xce X) (xsl X) (xQ X) (F0 (xm X) pc ls (st.map (gem (zb (xZ X)))))
def gr (x : Option gO) (o : gO) (M : gM) (X : gX) (h : gH) (pc : Nat) (lv : gL) (st : List gV) : Prop :=
  x = some o → gKn M X → gRl st → ∀ (H : Heap) (locs : List Loc) (ls : Array Slot), gSt X h lv H locs ls → gWW X H locs pc ls st
/- the words of a program: guards, binds -/
def gd (c : Bool) (x : Option gO) : Option gO := if c then x else none
def gb (x : Option gO) (k : gH → Int → Option gO) : Option gO := match x with
  | some o => k o.1 o.2
  | none => none
def gs (h : gH) (k : gH → Option gO) : Option gO := k h
def gj {α : Type} (j : α) (k : α → Option gO) : Option gO := k j
def gix (n : Nat) (i : Int) : Bool := decide (0 ≤ i) && decide (i < (n : Int))
def gcl (i ci : Nat) : Bool := decide (gsh i = .inr ci)
def gia (i : Nat) : Bool := match gsh i with
  | .inl (0, _) => true
  | _ => false
def gadd (x y : Int) : Int := (Int32.ofInt x + Int32.ofInt y).toInt
def gsub (x y : Int) : Int := (Int32.ofInt x - Int32.ofInt y).toInt
def gmul (x y : Int) : Int := (Int32.ofInt x * Int32.ofInt y).toInt
def gdiv (x y : Int) : Int := (Int32.ofInt x / Int32.ofInt y).toInt
def grem (x y : Int) : Int := (Int32.ofInt x - Int32.ofInt x / Int32.ofInt y * Int32.ofInt y).toInt
def gand (x y : Int) : Int := (Int32.ofInt x &&& Int32.ofInt y).toInt
def gor (x y : Int) : Int := (Int32.ofInt x ||| Int32.ofInt y).toInt
def gxor (x y : Int) : Int := (Int32.ofInt x ^^^ Int32.ofInt y).toInt
def gshl (x y : Int) : Int := (Int32.ofInt x <<< (Int32.ofInt y &&& 31)).toInt
def gshr (x y : Int) : Int := (Int32.ofInt x >>> (Int32.ofInt y &&& 31)).toInt
def gushr (x y : Int) : Int := ((Int32.ofInt x).toUInt32 >>> ((Int32.ofInt y).toUInt32 &&& Int32.toUInt32 31)).toInt32.toInt
def gl2i (x : Int) : Int := (Int64.ofInt x).toInt32.toInt
def gladd (x y : Int) : Int := (Int64.ofInt x + Int64.ofInt y).toInt
def glmul (x y : Int) : Int := (Int64.ofInt x * Int64.ofInt y).toInt
def gland (x y : Int) : Int := (Int64.ofInt x &&& Int64.ofInt y).toInt
def glrem (x y : Int) : Int := (Int64.ofInt x - Int64.ofInt x / Int64.ofInt y * Int64.ofInt y).toInt
def glcmp (x y : Int) : Int := if y < x then 1 else if x = y then 0 else -1
end
section
theorem g32 {x : Int} (h : gR32 x) : (Int32.ofInt x).toInt = x := Int32.toInt_ofInt_of_le (by have := h.1; omega) (by have := h.2; omega)
theorem g64 {x : Int} (h : gR64 x) : (Int64.ofInt x).toInt = x := Int64.toInt_ofInt_of_le (by have := h.1; omega) (by have := h.2; omega)
theorem gR_t (z : Int32) : gR32 z.toInt := ⟨by have := Int32.le_toInt z; omega, by have := Int32.toInt_lt z; omega⟩
theorem gR_t64 (z : Int64) : gR64 z.toInt := ⟨by have := Int64.le_toInt z; omega, by have := Int64.toInt_lt z; omega⟩
theorem glt {a b : Int} (ha : gR32 a) (hb : gR32 b) : Int32.ofInt a < Int32.ofInt b ↔ a < b := by rw [Int32.lt_iff_toInt_lt, g32 ha, g32 hb]
theorem gle {a b : Int} (ha : gR32 a) (hb : gR32 b) : Int32.ofInt a ≤ Int32.ofInt b ↔ a ≤ b := by rw [Int32.le_iff_toInt_le, g32 ha, g32 hb]
theorem geq {a b : Int} (ha : gR32 a) (hb : gR32 b) : Int32.ofInt a = Int32.ofInt b ↔ a = b := by rw [← Int32.toInt_inj, g32 ha, g32 hb]
theorem gR0 : gR32 0 := ⟨by decide, by decide⟩
theorem gof0 : (0 : Int32) = Int32.ofInt 0 := by decide
theorem gRl_c {v : gV} {st : List gV} (h1 : gRv v) (h2 : gRl st) : gRl (v :: st) := fun u hu => by
  rcases List.mem_cons.mp hu with rfl | hu
  · exact h1
  · exact h2 u hu
theorem gRl_h {v : gV} {st : List gV} (h : gRl (v :: st)) : gRv v := h v List.mem_cons_self
theorem gRl_t {v : gV} {st : List gV} (h : gRl (v :: st)) : gRl st := fun u hu => h u (List.mem_cons_of_mem _ hu)
theorem gRl_at {lv : gL} {k i : Nat} {v : gV} (h : gRl (lv.map Prod.snd)) (hk : lv[k]? = some (i, v)) : gRv v := h v (List.mem_map.mpr ⟨(i, v), List.mem_of_getElem? hk, rfl⟩)
theorem gEL_at {b : Nat} {lv : gL} {k i : Nat} {v : gV} (hk : lv[k]? = some (i, v)) : (gEL b lv)[k]? = some (i, gem b v) := by
  rw [gEL, List.getElem?_map, hk]; rfl
/- storing a local of one word -/
def gst (i : Nat) (v : gV) (lv : gL) : gL := (i, v) :: lv.filter (fun q => !(q.1 == i) && !(q.1 + 1 == i && (match q.2 with
  | .inr (.inl _) => true
  | _ => false)))
theorem gcat (b : Nat) (v : gV) : ((gem b v).category == 2) = (match v with
  | .inr (.inl _) => true
  | _ => false) := by
  rcases v with x | x | x <;> rfl
theorem gEL_st (b i : Nat) (v : gV) (lv : gL) : (i, gem b v) :: (gEL b lv).filter (fun q => !(q.1 == i) && !(q.1 + 1 == i && q.2.category == 2)) = gEL b (gst i v lv) := by
  rw [gst, gEL, gEL, List.map_cons, List.filter_map]
  congr 2
  apply List.filter_congr
  intro q _
  simp only [Function.comp, gcat]
theorem gRl_st {i : Nat} {v : gV} {lv : gL} (h1 : gRv v) (h2 : gRl (lv.map Prod.snd)) : gRl ((gst i v lv).map Prod.snd) := by
  intro u hu
  rw [gst, List.map_cons] at hu
  rcases List.mem_cons.mp hu with rfl | hu
  · exact h1
  · obtain ⟨q, hq, rfl⟩ := List.mem_map.mp hu
    exact h2 _ (List.mem_map.mpr ⟨q, (List.mem_filter.mp hq).1, rfl⟩)
theorem gr_ite {x y : Option gO} {o : gO} {M : gM} {X : gX} {h : gH} {pc : Nat} {lv : gL} {st : List gV} {c : Prop} {inst : Decidable c} (kt : c → gr x o M X h pc lv st) (kf : ¬ c → gr y o M X h pc lv st) : gr (@ite _ c inst x y) o M X h pc lv st := by
  by_cases hc : c
  · rw [if_pos hc]; exact kt hc
  · rw [if_neg hc]; exact kf hc
theorem gr_gd {x : Option gO} {o : gO} {M : gM} {X : gX} {h : gH} {pc : Nat} {lv : gL} {st : List gV} {c : Bool} (k : c = true → gr x o M X h pc lv st) : gr (gd c x) o M X h pc lv st := by
  intro hx
  cases c with
  | true => exact k rfl hx
  | false => cases hx
theorem gr_none {o : gO} {M : gM} {X : gX} {h : gH} {pc : Nat} {lv : gL} {st : List gV} : gr none o M X h pc lv st := fun hx => by cases hx
section GR
variable {x y : Option gO} {o : gO} {M : gM} {X : gX} {h : gH} {pc : Nat} {lv : gL} {st : List gV}
theorem gr_iconst {n v : Int} (hd : decode M.1 pc = .ok (.iconst n, 1)) (hv : Int32.ofInt n = Int32.ofInt v) (hr : gR32 v) (pc' : Nat) (hp : pc + 1 = pc') (k : gr x o M X h pc' lv (.inl v :: st)) : gr x o M X h pc lv st := by
  subst hp
  intro hx hK hs H locs ls hS
  exact lv_iconst hK.1 hK.2.1 hd hv (k hx hK (gRl_c hr hs) H locs ls hS)
theorem gr_bipush {n v : Int} (hd : decode M.1 pc = .ok (.bipush n, 2)) (hv : (Int8.ofInt n).toInt32 = Int32.ofInt v) (hr : gR32 v) (pc' : Nat) (hp : pc + 2 = pc') (k : gr x o M X h pc' lv (.inl v :: st)) : gr x o M X h pc lv st := by
  subst hp
  intro hx hK hs H locs ls hS
  exact lv_bipush hK.1 hK.2.1 hd hv (k hx hK (gRl_c hr hs) H locs ls hS)
theorem gr_sipush {n v : Int} (hd : decode M.1 pc = .ok (.sipush n, 3)) (hv : (Int16.ofInt n).toInt32 = Int32.ofInt v) (hr : gR32 v) (pc' : Nat) (hp : pc + 3 = pc') (k : gr x o M X h pc' lv (.inl v :: st)) : gr x o M X h pc lv st := by
  subst hp
  intro hx hK hs H locs ls hS
  exact lv_sipush hK.1 hK.2.1 hd hv (k hx hK (gRl_c hr hs) H locs ls hS)
theorem gr_lconst {n : Fin 2} {v : Int} (hd : decode M.1 pc = .ok (.lconst n, 1)) (hv : Int64.ofNat (n : Nat) = Int64.ofInt v) (hr : gR64 v) (pc' : Nat) (hp : pc + 1 = pc') (k : gr x o M X h pc' lv (.inr (.inl v) :: st)) : gr x o M X h pc lv st := by
  subst hp
  intro hx hK hs H locs ls hS
  exact lv_lconst hK.1 hK.2.1 hd hv (k hx hK (gRl_c hr hs) H locs ls hS)
theorem gr_ldc {index : Nat} {v : Int} (hd : decode M.1 pc = .ok (.ldc index, 2)) (hc : Cond.constant M.2.1 index (Int32.ofInt v) ∈ gtbl) (hr : gR32 v) (pc' : Nat) (hp : pc + 2 = pc') (k : gr x o M X h pc' lv (.inl v :: st)) : gr x o M X h pc lv st := by
  subst hp
  intro hx hK hs H locs ls hS
  exact lv_ldc hK.1 hK.2.1 hK.2.2.2.1 (hK.2.2.2.2.1 _ hc) hd (k hx hK (gRl_c hr hs) H locs ls hS)
theorem gr_ldc_w {index : Nat} {v : Int} (hd : decode M.1 pc = .ok (.ldc_w index, 3)) (hc : Cond.constant M.2.1 index (Int32.ofInt v) ∈ gtbl) (hr : gR32 v) (pc' : Nat) (hp : pc + 3 = pc') (k : gr x o M X h pc' lv (.inl v :: st)) : gr x o M X h pc lv st := by
  subst hp
  intro hx hK hs H locs ls hS
  exact lv_ldcw hK.1 hK.2.1 hK.2.2.2.1 (hK.2.2.2.2.1 _ hc) hd (k hx hK (gRl_c hr hs) H locs ls hS)
theorem gr_ldc2_w {index : Nat} {v : Int} (hd : decode M.1 pc = .ok (.ldc2_w index, 3)) (hc : Cond.constantLong M.2.1 index (Int64.ofInt v) ∈ gtbl) (hr : gR64 v) (pc' : Nat) (hp : pc + 3 = pc') (k : gr x o M X h pc' lv (.inr (.inl v) :: st)) : gr x o M X h pc lv st := by
  subst hp
  intro hx hK hs H locs ls hS
  exact lv_ldc2 hK.1 hK.2.1 hK.2.2.2.1 (hK.2.2.2.2.1 _ hc) hd (k hx hK (gRl_c hr hs) H locs ls hS)
theorem gr_iload_n {kk : Fin 4} {i : Nat} {a : Int} (hd : decode M.1 pc = .ok (.iload_n kk, 1)) (hi : (kk : Nat) = i) (q : Nat) (hq : lv[q]? = some (i, .inl a)) (pc' : Nat) (hp : pc + 1 = pc') (k : gr x o M X h pc' lv (.inl a :: st)) : gr x o M X h pc lv st := by
  subst hp
  intro hx hK hs H locs ls hS
  exact lv_iload_n hK.1 hK.2.1 hd hi (lv_at hS.2.2.2.2 q (gEL_at hq)) (k hx hK (gRl_c (gRl_at hS.2.1 hq) hs) H locs ls hS)
theorem gr_iload {i : Nat} {a : Int} (hd : decode M.1 pc = .ok (.iload i, 2)) (q : Nat) (hq : lv[q]? = some (i, .inl a)) (pc' : Nat) (hp : pc + 2 = pc') (k : gr x o M X h pc' lv (.inl a :: st)) : gr x o M X h pc lv st := by
  subst hp
  intro hx hK hs H locs ls hS
  exact lv_iload hK.1 hK.2.1 hd (lv_at hS.2.2.2.2 q (gEL_at hq)) (k hx hK (gRl_c (gRl_at hS.2.1 hq) hs) H locs ls hS)
theorem gr_lload_n {kk : Fin 4} {i : Nat} {a : Int} (hd : decode M.1 pc = .ok (.lload_n kk, 1)) (hi : (kk : Nat) = i) (q : Nat) (hq : lv[q]? = some (i, .inr (.inl a))) (pc' : Nat) (hp : pc + 1 = pc') (k : gr x o M X h pc' lv (.inr (.inl a) :: st)) : gr x o M X h pc lv st := by
  subst hp
  intro hx hK hs H locs ls hS
  exact lv_lload_n hK.1 hK.2.1 hd hi (lv_at hS.2.2.2.2 q (gEL_at hq)) (k hx hK (gRl_c (gRl_at hS.2.1 hq) hs) H locs ls hS)
theorem gr_lload {i : Nat} {a : Int} (hd : decode M.1 pc = .ok (.lload i, 2)) (q : Nat) (hq : lv[q]? = some (i, .inr (.inl a))) (pc' : Nat) (hp : pc + 2 = pc') (k : gr x o M X h pc' lv (.inr (.inl a) :: st)) : gr x o M X h pc lv st := by
  subst hp
  intro hx hK hs H locs ls hS
  exact lv_lload hK.1 hK.2.1 hd (lv_at hS.2.2.2.2 q (gEL_at hq)) (k hx hK (gRl_c (gRl_at hS.2.1 hq) hs) H locs ls hS)
theorem gr_aload_n {kk : Fin 4} {i : Nat} {a : Nat} (hd : decode M.1 pc = .ok (.aload_n kk, 1)) (hi : (kk : Nat) = i) (q : Nat) (hq : lv[q]? = some (i, .inr (.inr a))) (pc' : Nat) (hp : pc + 1 = pc') (k : gr x o M X h pc' lv (.inr (.inr a) :: st)) : gr x o M X h pc lv st := by
  subst hp
  intro hx hK hs H locs ls hS
  exact lv_aload_n hK.1 hK.2.1 hd hi (lv_at hS.2.2.2.2 q (gEL_at hq)) (k hx hK (gRl_c (gRl_at hS.2.1 hq) hs) H locs ls hS)
theorem gr_aload {i : Nat} {a : Nat} (hd : decode M.1 pc = .ok (.aload i, 2)) (q : Nat) (hq : lv[q]? = some (i, .inr (.inr a))) (pc' : Nat) (hp : pc + 2 = pc') (k : gr x o M X h pc' lv (.inr (.inr a) :: st)) : gr x o M X h pc lv st := by
  subst hp
  intro hx hK hs H locs ls hS
  exact lv_aload hK.1 hK.2.1 hd (lv_at hS.2.2.2.2 q (gEL_at hq)) (k hx hK (gRl_c (gRl_at hS.2.1 hq) hs) H locs ls hS)
theorem gr_istore_n {kk : Fin 4} {i : Nat} {a : Int} {lv' : gL} (hd : decode M.1 pc = .ok (.istore_n kk, 1)) (hi : (kk : Nat) = i) (hn : i < M.2.2.2.2) (hl : gst i (.inl a) lv = lv') (pc' : Nat) (hp : pc + 1 = pc') (k : gr x o M X h pc' lv' st) : gr x o M X h pc lv (.inl a :: st) := by
  subst hp
  subst hl
  intro hx hK hs H locs ls hS
  exact lv_istore_n hK.1 hK.2.1 hd hi hS.2.2.2.2 (by rw [hK.2.2.1.2]; exact hn) (gEL_st (zb (xZ X)) i (.inl a) lv) (fun ls' h' => k hx hK (gRl_t hs) H locs ls' ⟨hS.1, gRl_st (gRl_h hs) hS.2.1, hS.2.2.1, hS.2.2.2.1, h'⟩)
theorem gr_istore {kk : Fin 4} {i : Nat} {a : Int} {lv' : gL} (hd : decode M.1 pc = .ok (.istore i, 2)) (hn : i < M.2.2.2.2) (hl : gst i (.inl a) lv = lv') (pc' : Nat) (hp : pc + 2 = pc') (k : gr x o M X h pc' lv' st) : gr x o M X h pc lv (.inl a :: st) := by
  subst hp
  subst hl
  intro hx hK hs H locs ls hS
  exact lv_istore hK.1 hK.2.1 hd hS.2.2.2.2 (by rw [hK.2.2.1.2]; exact hn) (gEL_st (zb (xZ X)) i (.inl a) lv) (fun ls' h' => k hx hK (gRl_t hs) H locs ls' ⟨hS.1, gRl_st (gRl_h hs) hS.2.1, hS.2.2.1, hS.2.2.2.1, h'⟩)
theorem gr_astore_n {kk : Fin 4} {i : Nat} {a : Nat} {lv' : gL} (hd : decode M.1 pc = .ok (.astore_n kk, 1)) (hi : (kk : Nat) = i) (hn : i < M.2.2.2.2) (hl : gst i (.inr (.inr a)) lv = lv') (pc' : Nat) (hp : pc + 1 = pc') (k : gr x o M X h pc' lv' st) : gr x o M X h pc lv (.inr (.inr a) :: st) := by
  subst hp
  subst hl
  intro hx hK hs H locs ls hS
  exact lv_astore_n hK.1 hK.2.1 hd hi hS.2.2.2.2 (by rw [hK.2.2.1.2]; exact hn) (gEL_st (zb (xZ X)) i (.inr (.inr a)) lv) (fun ls' h' => k hx hK (gRl_t hs) H locs ls' ⟨hS.1, gRl_st (gRl_h hs) hS.2.1, hS.2.2.1, hS.2.2.2.1, h'⟩)
theorem gr_astore {kk : Fin 4} {i : Nat} {a : Nat} {lv' : gL} (hd : decode M.1 pc = .ok (.astore i, 2)) (hn : i < M.2.2.2.2) (hl : gst i (.inr (.inr a)) lv = lv') (pc' : Nat) (hp : pc + 2 = pc') (k : gr x o M X h pc' lv' st) : gr x o M X h pc lv (.inr (.inr a) :: st) := by
  subst hp
  subst hl
  intro hx hK hs H locs ls hS
  exact lv_astore hK.1 hK.2.1 hd hS.2.2.2.2 (by rw [hK.2.2.1.2]; exact hn) (gEL_st (zb (xZ X)) i (.inr (.inr a)) lv) (fun ls' h' => k hx hK (gRl_t hs) H locs ls' ⟨hS.1, gRl_st (gRl_h hs) hS.2.1, hS.2.2.1, hS.2.2.2.1, h'⟩)
theorem gr_iinc {i : Nat} {n a v : Int} {lv' : gL} (hd : decode M.1 pc = .ok (.iinc i n, 3)) (q : Nat) (hq : lv[q]? = some (i, .inl a)) (hv : gadd a n = v) (hn : i < M.2.2.2.2) (hl : gst i (.inl v) lv = lv') (pc' : Nat) (hp : pc + 3 = pc') (k : gr x o M X h pc' lv' st) : gr x o M X h pc lv st := by
  subst hp
  subst hl
  subst hv
  intro hx hK hs H locs ls hS
  exact lv_iinc hK.1 hK.2.1 hd hS.2.2.2.2 (gEL_at (k := q) hq) (v := Int32.ofInt (gadd a n)) (by rw [gadd, Int32.ofInt_toInt]) (by rw [hK.2.2.1.2]; exact hn) (gEL_st (zb (xZ X)) i (.inl (gadd a n)) lv) (fun ls' h' => k hx hK hs H locs ls' ⟨hS.1, gRl_st (gR_t _) hS.2.1, hS.2.2.1, hS.2.2.2.1, h'⟩)
theorem gr_iadd {a b : Int} (hd : decode M.1 pc = .ok (.iadd, 1)) (pc' : Nat) (hp : pc + 1 = pc') (k : gr x o M X h pc' lv (.inl (gadd a b) :: st)) : gr x o M X h pc lv (.inl b :: .inl a :: st) := by
  subst hp
  intro hx hK hs H locs ls hS
  have q := k hx hK (gRl_c (gR_t _) (gRl_t (gRl_t hs))) H locs ls hS
  rw [gWW, List.map_cons, gem, gadd, Int32.ofInt_toInt] at q
  exact lv_iadd hK.1 hK.2.1 hd q
theorem gr_isub {a b : Int} (hd : decode M.1 pc = .ok (.isub, 1)) (pc' : Nat) (hp : pc + 1 = pc') (k : gr x o M X h pc' lv (.inl (gsub a b) :: st)) : gr x o M X h pc lv (.inl b :: .inl a :: st) := by
  subst hp
  intro hx hK hs H locs ls hS
  have q := k hx hK (gRl_c (gR_t _) (gRl_t (gRl_t hs))) H locs ls hS
  rw [gWW, List.map_cons, gem, gsub, Int32.ofInt_toInt] at q
  exact lv_isub hK.1 hK.2.1 hd q
theorem gr_imul {a b : Int} (hd : decode M.1 pc = .ok (.imul, 1)) (pc' : Nat) (hp : pc + 1 = pc') (k : gr x o M X h pc' lv (.inl (gmul a b) :: st)) : gr x o M X h pc lv (.inl b :: .inl a :: st) := by
  subst hp
  intro hx hK hs H locs ls hS
  have q := k hx hK (gRl_c (gR_t _) (gRl_t (gRl_t hs))) H locs ls hS
  rw [gWW, List.map_cons, gem, gmul, Int32.ofInt_toInt] at q
  exact lv_imul hK.1 hK.2.1 hd q
theorem gr_iand {a b : Int} (hd : decode M.1 pc = .ok (.iand, 1)) (pc' : Nat) (hp : pc + 1 = pc') (k : gr x o M X h pc' lv (.inl (gand a b) :: st)) : gr x o M X h pc lv (.inl b :: .inl a :: st) := by
  subst hp
  intro hx hK hs H locs ls hS
  have q := k hx hK (gRl_c (gR_t _) (gRl_t (gRl_t hs))) H locs ls hS
  rw [gWW, List.map_cons, gem, gand, Int32.ofInt_toInt] at q
  exact lv_iand hK.1 hK.2.1 hd q
theorem gr_ior {a b : Int} (hd : decode M.1 pc = .ok (.ior, 1)) (pc' : Nat) (hp : pc + 1 = pc') (k : gr x o M X h pc' lv (.inl (gor a b) :: st)) : gr x o M X h pc lv (.inl b :: .inl a :: st) := by
  subst hp
  intro hx hK hs H locs ls hS
  have q := k hx hK (gRl_c (gR_t _) (gRl_t (gRl_t hs))) H locs ls hS
  rw [gWW, List.map_cons, gem, gor, Int32.ofInt_toInt] at q
  exact lv_ior hK.1 hK.2.1 hd q
theorem gr_ixor {a b : Int} (hd : decode M.1 pc = .ok (.ixor, 1)) (pc' : Nat) (hp : pc + 1 = pc') (k : gr x o M X h pc' lv (.inl (gxor a b) :: st)) : gr x o M X h pc lv (.inl b :: .inl a :: st) := by
  subst hp
  intro hx hK hs H locs ls hS
  have q := k hx hK (gRl_c (gR_t _) (gRl_t (gRl_t hs))) H locs ls hS
  rw [gWW, List.map_cons, gem, gxor, Int32.ofInt_toInt] at q
  exact lv_ixor hK.1 hK.2.1 hd q
theorem gr_ishl {a b : Int} (hd : decode M.1 pc = .ok (.ishl, 1)) (pc' : Nat) (hp : pc + 1 = pc') (k : gr x o M X h pc' lv (.inl (gshl a b) :: st)) : gr x o M X h pc lv (.inl b :: .inl a :: st) := by
  subst hp
  intro hx hK hs H locs ls hS
  have q := k hx hK (gRl_c (gR_t _) (gRl_t (gRl_t hs))) H locs ls hS
  rw [gWW, List.map_cons, gem, gshl, Int32.ofInt_toInt] at q
  exact lv_ishl hK.1 hK.2.1 hd q
theorem gr_ishr {a b : Int} (hd : decode M.1 pc = .ok (.ishr, 1)) (pc' : Nat) (hp : pc + 1 = pc') (k : gr x o M X h pc' lv (.inl (gshr a b) :: st)) : gr x o M X h pc lv (.inl b :: .inl a :: st) := by
  subst hp
  intro hx hK hs H locs ls hS
  have q := k hx hK (gRl_c (gR_t _) (gRl_t (gRl_t hs))) H locs ls hS
  rw [gWW, List.map_cons, gem, gshr, Int32.ofInt_toInt] at q
  exact lv_ishr hK.1 hK.2.1 hd q
theorem gr_iushr {a b : Int} (hd : decode M.1 pc = .ok (.iushr, 1)) (pc' : Nat) (hp : pc + 1 = pc') (k : gr x o M X h pc' lv (.inl (gushr a b) :: st)) : gr x o M X h pc lv (.inl b :: .inl a :: st) := by
  subst hp
  intro hx hK hs H locs ls hS
  have q := k hx hK (gRl_c (gR_t _) (gRl_t (gRl_t hs))) H locs ls hS
  rw [gWW, List.map_cons, gem, gushr, Int32.ofInt_toInt] at q
  exact lv_iushr hK.1 hK.2.1 hd rfl q
theorem gr_idiv {a b : Int} (hd : decode M.1 pc = .ok (.idiv, 1)) (pc' : Nat) (hp : pc + 1 = pc') (k : gr x o M X h pc' lv (.inl (gdiv a b) :: st)) : gr (gd (decide (b ≠ 0)) x) o M X h pc lv (.inl b :: .inl a :: st) := by
  subst hp
  refine gr_gd fun hc => ?_
  intro hx hK hs H locs ls hS
  have q := k hx hK (gRl_c (gR_t _) (gRl_t (gRl_t hs))) H locs ls hS
  rw [gWW, List.map_cons, gem, gdiv, Int32.ofInt_toInt] at q
  refine lv_idiv hK.1 hK.2.1 hd (fun e => ?_) q
  rw [gof0, geq (gRl_h hs) gR0] at e
  exact (of_decide_eq_true hc) e
theorem gr_irem {a b : Int} (hd : decode M.1 pc = .ok (.irem, 1)) (pc' : Nat) (hp : pc + 1 = pc') (k : gr x o M X h pc' lv (.inl (grem a b) :: st)) : gr (gd (decide (b ≠ 0)) x) o M X h pc lv (.inl b :: .inl a :: st) := by
  subst hp
  refine gr_gd fun hc => ?_
  intro hx hK hs H locs ls hS
  have q := k hx hK (gRl_c (gR_t _) (gRl_t (gRl_t hs))) H locs ls hS
  rw [gWW, List.map_cons, gem, grem, Int32.ofInt_toInt] at q
  refine lv_irem hK.1 hK.2.1 hd (fun e => ?_) q
  rw [gof0, geq (gRl_h hs) gR0] at e
  exact (of_decide_eq_true hc) e
theorem gr_ladd {a b : Int} (hd : decode M.1 pc = .ok (.ladd, 1)) (pc' : Nat) (hp : pc + 1 = pc') (k : gr x o M X h pc' lv (.inr (.inl (gladd a b)) :: st)) : gr x o M X h pc lv (.inr (.inl b) :: .inr (.inl a) :: st) := by
  subst hp
  intro hx hK hs H locs ls hS
  have q := k hx hK (gRl_c (gR_t64 _) (gRl_t (gRl_t hs))) H locs ls hS
  rw [gWW, List.map_cons, gem, gladd, Int64.ofInt_toInt] at q
  exact lv_ladd hK.1 hK.2.1 hd q
theorem gr_lmul {a b : Int} (hd : decode M.1 pc = .ok (.lmul, 1)) (pc' : Nat) (hp : pc + 1 = pc') (k : gr x o M X h pc' lv (.inr (.inl (glmul a b)) :: st)) : gr x o M X h pc lv (.inr (.inl b) :: .inr (.inl a) :: st) := by
  subst hp
  intro hx hK hs H locs ls hS
  have q := k hx hK (gRl_c (gR_t64 _) (gRl_t (gRl_t hs))) H locs ls hS
  rw [gWW, List.map_cons, gem, glmul, Int64.ofInt_toInt] at q
  exact lv_lmul hK.1 hK.2.1 hd q
theorem gr_land {a b : Int} (hd : decode M.1 pc = .ok (.land, 1)) (pc' : Nat) (hp : pc + 1 = pc') (k : gr x o M X h pc' lv (.inr (.inl (gland a b)) :: st)) : gr x o M X h pc lv (.inr (.inl b) :: .inr (.inl a) :: st) := by
  subst hp
  intro hx hK hs H locs ls hS
  have q := k hx hK (gRl_c (gR_t64 _) (gRl_t (gRl_t hs))) H locs ls hS
  rw [gWW, List.map_cons, gem, gland, Int64.ofInt_toInt] at q
  exact lv_land hK.1 hK.2.1 hd q
theorem geq64 {a b : Int} (ha : gR64 a) (hb : gR64 b) : Int64.ofInt a = Int64.ofInt b ↔ a = b := by rw [← Int64.toInt_inj, g64 ha, g64 hb]
theorem glt64 {a b : Int} (ha : gR64 a) (hb : gR64 b) : Int64.ofInt a < Int64.ofInt b ↔ a < b := by rw [Int64.lt_iff_toInt_lt, g64 ha, g64 hb]
theorem gr_lrem {a b : Int} (hd : decode M.1 pc = .ok (.lrem, 1)) (pc' : Nat) (hp : pc + 1 = pc') (k : gr x o M X h pc' lv (.inr (.inl (glrem a b)) :: st)) : gr (gd (decide (b ≠ 0)) x) o M X h pc lv (.inr (.inl b) :: .inr (.inl a) :: st) := by
  subst hp
  refine gr_gd fun hc => ?_
  intro hx hK hs H locs ls hS
  have q := k hx hK (gRl_c (gR_t64 _) (gRl_t (gRl_t hs))) H locs ls hS
  rw [gWW, List.map_cons, gem, glrem, Int64.ofInt_toInt] at q
  refine lv_lrem hK.1 hK.2.1 hd (fun e => ?_) q
  rw [show (0 : Int64) = Int64.ofInt 0 by decide, geq64 (gRl_h hs) ⟨by decide, by decide⟩] at e
  exact (of_decide_eq_true hc) e
theorem gr_i2l {a : Int} (hd : decode M.1 pc = .ok (.i2l, 1)) (pc' : Nat) (hp : pc + 1 = pc') (k : gr x o M X h pc' lv (.inr (.inl a) :: st)) : gr x o M X h pc lv (.inl a :: st) := by
  subst hp
  intro hx hK hs H locs ls hS
  have ra : gR32 a := gRl_h hs
  have ra' : gR64 a := ⟨by have := ra.1; omega, by have := ra.2; omega⟩
  refine lv_i2l hK.1 hK.2.1 hd (v := Int64.ofInt a) ?_ (k hx hK (gRl_c ra' (gRl_t hs)) H locs ls hS)
  rw [← Int64.toInt_inj, Int32.toInt_toInt64, g32 ra, g64 ra']
theorem gr_l2i {a : Int} (hd : decode M.1 pc = .ok (.l2i, 1)) (pc' : Nat) (hp : pc + 1 = pc') (k : gr x o M X h pc' lv (.inl (gl2i a) :: st)) : gr x o M X h pc lv (.inr (.inl a) :: st) := by
  subst hp
  intro hx hK hs H locs ls hS
  refine lv_l2i hK.1 hK.2.1 hd (v := Int32.ofInt (gl2i a)) (by rw [gl2i, Int32.ofInt_toInt]) (k hx hK (gRl_c (gR_t _) (gRl_t hs)) H locs ls hS)
theorem gr_lcmp {a b : Int} (hd : decode M.1 pc = .ok (.lcmp, 1)) (pc' : Nat) (hp : pc + 1 = pc') (k : gr x o M X h pc' lv (.inl (glcmp a b) :: st)) : gr x o M X h pc lv (.inr (.inl b) :: .inr (.inl a) :: st) := by
  subst hp
  intro hx hK hs H locs ls hS
  have rb : gR64 b := gRl_h hs
  have ra : gR64 a := gRl_h (gRl_t hs)
  have e : lg_cmp (Int64.ofInt a) (Int64.ofInt b) = Int32.ofInt (glcmp a b) := by
    unfold lg_cmp glcmp
    by_cases c1 : b < a
    · rw [if_pos (show Int64.ofInt a > Int64.ofInt b from (glt64 rb ra).mpr c1), if_pos c1]; rfl
    · rw [if_neg (show ¬ Int64.ofInt a > Int64.ofInt b from fun q => c1 ((glt64 rb ra).mp q)), if_neg c1]
      by_cases c2 : a = b
      · rw [if_pos ((geq64 ra rb).mpr c2), if_pos c2]; rfl
      · rw [if_neg (fun q => c2 ((geq64 ra rb).mp q)), if_neg c2]; rfl
  have rg : gR32 (glcmp a b) := by
    unfold glcmp gR32
    split <;> first | (split <;> omega) | omega
  have q := k hx hK (gRl_c rg (gRl_t (gRl_t hs))) H locs ls hS
  rw [gWW, List.map_cons, gem, ← e] at q
  exact W.lcmp hK.1 hK.2.1 hd q
theorem gcat1 (b : Nat) {v : gV} (hv : ∀ z, v ≠ .inr (.inl z)) : (gem b v).category = 1 := by
  rcases v with z | z | z
  · rfl
  · exact absurd rfl (hv z)
  · rfl
theorem gr_dup {v : gV} (hd : decode M.1 pc = .ok (.dup, 1)) (hv : ∀ z, v ≠ .inr (.inl z)) (pc' : Nat) (hp : pc + 1 = pc') (k : gr x o M X h pc' lv (v :: v :: st)) : gr x o M X h pc lv (v :: st) := by
  subst hp
  intro hx hK hs H locs ls hS
  exact lv_dup hK.1 hK.2.1 hd (gcat1 _ hv) (k hx hK (gRl_c (gRl_h hs) hs) H locs ls hS)
theorem gr_pop {v : gV} (hd : decode M.1 pc = .ok (.pop, 1)) (hv : ∀ z, v ≠ .inr (.inl z)) (pc' : Nat) (hp : pc + 1 = pc') (k : gr x o M X h pc' lv st) : gr x o M X h pc lv (v :: st) := by
  subst hp
  intro hx hK hs H locs ls hS
  exact lv_pop hK.1 hK.2.1 hd (gcat1 _ hv) (k hx hK (gRl_t hs) H locs ls hS)
theorem gr_dup2 {v u : gV} (hd : decode M.1 pc = .ok (.dup2, 1)) (hv : ∀ z, v ≠ .inr (.inl z)) (hu : ∀ z, u ≠ .inr (.inl z)) (pc' : Nat) (hp : pc + 1 = pc') (k : gr x o M X h pc' lv (v :: u :: v :: u :: st)) : gr x o M X h pc lv (v :: u :: st) := by
  subst hp
  intro hx hK hs H locs ls hS
  exact lv_dup2_11 hK.1 hK.2.1 hd (gcat1 _ hv) (gcat1 _ hu) (k hx hK (gRl_c (gRl_h hs) (gRl_c (gRl_h (gRl_t hs)) hs)) H locs ls hS)
theorem gr_goto {off : Int} (hd : decode M.1 pc = .ok (.goto off, 3)) (tgt : Nat) (ht : (pc : Int) + off = (tgt : Int)) (k : gr x o M X h tgt lv st) : gr x o M X h pc lv st := by
  intro hx hK hs H locs ls hS
  exact lv_goto hK.1 hK.2.1 hd ht (k hx hK hs H locs ls hS)
theorem gr_icmp_eq {a b off : Int} (hd : decode M.1 pc = .ok (.if_icmp .eq off, 3)) (tgt pc' : Nat) (ht : (pc : Int) + off = (tgt : Int)) (hp : pc + 3 = pc') (kt : a = b → gr x o M X h tgt lv st) (kf : ¬ (a = b) → gr y o M X h pc' lv st) : gr (if a = b then x else y) o M X h pc lv (.inl b :: .inl a :: st) := by
  subst hp
  intro hx hK hs H locs ls hS
  have rb : gR32 b := gRl_h hs
  have ra : gR32 a := gRl_h (gRl_t hs)
  refine lv_icmp_eq hK.1 hK.2.1 hd ht (fun c => ?_) (fun c => ?_)
  · have c' := (geq ra rb).mp c
    rw [if_pos c'] at hx
    exact kt c' hx hK (gRl_t (gRl_t hs)) H locs ls hS
  · have c' := fun q => c ((geq ra rb).mpr q)
    rw [if_neg c'] at hx
    exact kf c' hx hK (gRl_t (gRl_t hs)) H locs ls hS
theorem gr_if_eq {a off : Int} (hd : decode M.1 pc = .ok (.ifCond .eq off, 3)) (tgt pc' : Nat) (ht : (pc : Int) + off = (tgt : Int)) (hp : pc + 3 = pc') (kt : a = 0 → gr x o M X h tgt lv st) (kf : ¬ (a = 0) → gr y o M X h pc' lv st) : gr (if a = 0 then x else y) o M X h pc lv (.inl a :: st) := by
  subst hp
  intro hx hK hs H locs ls hS
  have ra : gR32 a := gRl_h hs
  refine lv_if_eq hK.1 hK.2.1 hd ht (fun c => ?_) (fun c => ?_)
  · rw [gof0] at c
    have c' := (geq ra gR0).mp c
    rw [if_pos c'] at hx
    exact kt c' hx hK (gRl_t hs) H locs ls hS
  · rw [gof0] at c
    have c' := fun q => c ((geq ra gR0).mpr q)
    rw [if_neg c'] at hx
    exact kf c' hx hK (gRl_t hs) H locs ls hS
theorem gr_icmp_lt {a b off : Int} (hd : decode M.1 pc = .ok (.if_icmp .lt off, 3)) (tgt pc' : Nat) (ht : (pc : Int) + off = (tgt : Int)) (hp : pc + 3 = pc') (kt : a < b → gr x o M X h tgt lv st) (kf : ¬ (a < b) → gr y o M X h pc' lv st) : gr (if a < b then x else y) o M X h pc lv (.inl b :: .inl a :: st) := by
  subst hp
  intro hx hK hs H locs ls hS
  have rb : gR32 b := gRl_h hs
  have ra : gR32 a := gRl_h (gRl_t hs)
  refine lv_icmp_lt hK.1 hK.2.1 hd ht (fun c => ?_) (fun c => ?_)
  · have c' := (glt ra rb).mp c
    rw [if_pos c'] at hx
    exact kt c' hx hK (gRl_t (gRl_t hs)) H locs ls hS
  · have c' := fun q => c ((glt ra rb).mpr q)
    rw [if_neg c'] at hx
    exact kf c' hx hK (gRl_t (gRl_t hs)) H locs ls hS
theorem gr_if_lt {a off : Int} (hd : decode M.1 pc = .ok (.ifCond .lt off, 3)) (tgt pc' : Nat) (ht : (pc : Int) + off = (tgt : Int)) (hp : pc + 3 = pc') (kt : a < 0 → gr x o M X h tgt lv st) (kf : ¬ (a < 0) → gr y o M X h pc' lv st) : gr (if a < 0 then x else y) o M X h pc lv (.inl a :: st) := by
  subst hp
  intro hx hK hs H locs ls hS
  have ra : gR32 a := gRl_h hs
  refine lv_if_lt hK.1 hK.2.1 hd ht (fun c => ?_) (fun c => ?_)
  · rw [gof0] at c
    have c' := (glt ra gR0).mp c
    rw [if_pos c'] at hx
    exact kt c' hx hK (gRl_t hs) H locs ls hS
  · rw [gof0] at c
    have c' := fun q => c ((glt ra gR0).mpr q)
    rw [if_neg c'] at hx
    exact kf c' hx hK (gRl_t hs) H locs ls hS
theorem gr_icmp_ge {a b off : Int} (hd : decode M.1 pc = .ok (.if_icmp .ge off, 3)) (tgt pc' : Nat) (ht : (pc : Int) + off = (tgt : Int)) (hp : pc + 3 = pc') (kt : b ≤ a → gr x o M X h tgt lv st) (kf : ¬ (b ≤ a) → gr y o M X h pc' lv st) : gr (if b ≤ a then x else y) o M X h pc lv (.inl b :: .inl a :: st) := by
  subst hp
  intro hx hK hs H locs ls hS
  have rb : gR32 b := gRl_h hs
  have ra : gR32 a := gRl_h (gRl_t hs)
  refine lv_icmp_ge hK.1 hK.2.1 hd ht (fun c => ?_) (fun c => ?_)
  · have c' := (gle rb ra).mp c
    rw [if_pos c'] at hx
    exact kt c' hx hK (gRl_t (gRl_t hs)) H locs ls hS
  · have c' := fun q => c ((gle rb ra).mpr q)
    rw [if_neg c'] at hx
    exact kf c' hx hK (gRl_t (gRl_t hs)) H locs ls hS
theorem gr_if_ge {a off : Int} (hd : decode M.1 pc = .ok (.ifCond .ge off, 3)) (tgt pc' : Nat) (ht : (pc : Int) + off = (tgt : Int)) (hp : pc + 3 = pc') (kt : 0 ≤ a → gr x o M X h tgt lv st) (kf : ¬ (0 ≤ a) → gr y o M X h pc' lv st) : gr (if 0 ≤ a then x else y) o M X h pc lv (.inl a :: st) := by
  subst hp
  intro hx hK hs H locs ls hS
  have ra : gR32 a := gRl_h hs
  refine lv_if_ge hK.1 hK.2.1 hd ht (fun c => ?_) (fun c => ?_)
  · rw [gof0] at c
    have c' := (gle gR0 ra).mp c
    rw [if_pos c'] at hx
    exact kt c' hx hK (gRl_t hs) H locs ls hS
  · rw [gof0] at c
    have c' := fun q => c ((gle gR0 ra).mpr q)
    rw [if_neg c'] at hx
    exact kf c' hx hK (gRl_t hs) H locs ls hS
theorem gr_icmp_gt {a b off : Int} (hd : decode M.1 pc = .ok (.if_icmp .gt off, 3)) (tgt pc' : Nat) (ht : (pc : Int) + off = (tgt : Int)) (hp : pc + 3 = pc') (kt : b < a → gr x o M X h tgt lv st) (kf : ¬ (b < a) → gr y o M X h pc' lv st) : gr (if b < a then x else y) o M X h pc lv (.inl b :: .inl a :: st) := by
  subst hp
  intro hx hK hs H locs ls hS
  have rb : gR32 b := gRl_h hs
  have ra : gR32 a := gRl_h (gRl_t hs)
  refine lv_icmp_gt hK.1 hK.2.1 hd ht (fun c => ?_) (fun c => ?_)
  · have c' := (glt rb ra).mp c
    rw [if_pos c'] at hx
    exact kt c' hx hK (gRl_t (gRl_t hs)) H locs ls hS
  · have c' := fun q => c ((glt rb ra).mpr q)
    rw [if_neg c'] at hx
    exact kf c' hx hK (gRl_t (gRl_t hs)) H locs ls hS
theorem gr_if_gt {a off : Int} (hd : decode M.1 pc = .ok (.ifCond .gt off, 3)) (tgt pc' : Nat) (ht : (pc : Int) + off = (tgt : Int)) (hp : pc + 3 = pc') (kt : 0 < a → gr x o M X h tgt lv st) (kf : ¬ (0 < a) → gr y o M X h pc' lv st) : gr (if 0 < a then x else y) o M X h pc lv (.inl a :: st) := by
  subst hp
  intro hx hK hs H locs ls hS
  have ra : gR32 a := gRl_h hs
  refine lv_if_gt hK.1 hK.2.1 hd ht (fun c => ?_) (fun c => ?_)
  · rw [gof0] at c
    have c' := (glt gR0 ra).mp c
    rw [if_pos c'] at hx
    exact kt c' hx hK (gRl_t hs) H locs ls hS
  · rw [gof0] at c
    have c' := fun q => c ((glt gR0 ra).mpr q)
    rw [if_neg c'] at hx
    exact kf c' hx hK (gRl_t hs) H locs ls hS
theorem gr_icmp_le {a b off : Int} (hd : decode M.1 pc = .ok (.if_icmp .le off, 3)) (tgt pc' : Nat) (ht : (pc : Int) + off = (tgt : Int)) (hp : pc + 3 = pc') (kt : a ≤ b → gr x o M X h tgt lv st) (kf : ¬ (a ≤ b) → gr y o M X h pc' lv st) : gr (if a ≤ b then x else y) o M X h pc lv (.inl b :: .inl a :: st) := by
  subst hp
  intro hx hK hs H locs ls hS
  have rb : gR32 b := gRl_h hs
  have ra : gR32 a := gRl_h (gRl_t hs)
  refine lv_icmp_le hK.1 hK.2.1 hd ht (fun c => ?_) (fun c => ?_)
  · have c' := (gle ra rb).mp c
    rw [if_pos c'] at hx
    exact kt c' hx hK (gRl_t (gRl_t hs)) H locs ls hS
  · have c' := fun q => c ((gle ra rb).mpr q)
    rw [if_neg c'] at hx
    exact kf c' hx hK (gRl_t (gRl_t hs)) H locs ls hS
theorem gr_if_le {a off : Int} (hd : decode M.1 pc = .ok (.ifCond .le off, 3)) (tgt pc' : Nat) (ht : (pc : Int) + off = (tgt : Int)) (hp : pc + 3 = pc') (kt : a ≤ 0 → gr x o M X h tgt lv st) (kf : ¬ (a ≤ 0) → gr y o M X h pc' lv st) : gr (if a ≤ 0 then x else y) o M X h pc lv (.inl a :: st) := by
  subst hp
  intro hx hK hs H locs ls hS
  have ra : gR32 a := gRl_h hs
  refine lv_if_le hK.1 hK.2.1 hd ht (fun c => ?_) (fun c => ?_)
  · rw [gof0] at c
    have c' := (gle ra gR0).mp c
    rw [if_pos c'] at hx
    exact kt c' hx hK (gRl_t hs) H locs ls hS
  · rw [gof0] at c
    have c' := fun q => c ((gle ra gR0).mpr q)
    rw [if_neg c'] at hx
    exact kf c' hx hK (gRl_t hs) H locs ls hS
theorem gr_icmp_ne {a b off : Int} (hd : decode M.1 pc = .ok (.if_icmp .ne off, 3)) (tgt pc' : Nat) (ht : (pc : Int) + off = (tgt : Int)) (hp : pc + 3 = pc') (kt : ¬ a = b → gr x o M X h tgt lv st) (kf : a = b → gr y o M X h pc' lv st) : gr (if a = b then y else x) o M X h pc lv (.inl b :: .inl a :: st) := by
  subst hp
  intro hx hK hs H locs ls hS
  have rb : gR32 b := gRl_h hs
  have ra : gR32 a := gRl_h (gRl_t hs)
  refine lv_icmp_ne hK.1 hK.2.1 hd ht (fun c => ?_) (fun c => ?_)
  · have c' : ¬ a = b := fun q => c (by rw [q])
    rw [if_neg c'] at hx
    exact kt c' hx hK (gRl_t (gRl_t hs)) H locs ls hS
  · have c' : a = b := (geq ra rb).mp (by rw [c])
    rw [if_pos c'] at hx
    exact kf c' hx hK (gRl_t (gRl_t hs)) H locs ls hS
theorem gr_if_ne {a off : Int} (hd : decode M.1 pc = .ok (.ifCond .ne off, 3)) (tgt pc' : Nat) (ht : (pc : Int) + off = (tgt : Int)) (hp : pc + 3 = pc') (kt : ¬ a = 0 → gr x o M X h tgt lv st) (kf : a = 0 → gr y o M X h pc' lv st) : gr (if a = 0 then y else x) o M X h pc lv (.inl a :: st) := by
  subst hp
  intro hx hK hs H locs ls hS
  have rb : gR32 0 := gR0
  have ra : gR32 a := gRl_h hs
  refine lv_if_ne hK.1 hK.2.1 hd ht (fun c => ?_) (fun c => ?_)
  · have c' : ¬ a = 0 := fun q => c (by rw [gof0, q])
    rw [if_neg c'] at hx
    exact kt c' hx hK (gRl_t hs) H locs ls hS
  · have c' : a = 0 := (geq ra rb).mp (by rw [c]; exact gof0)
    rw [if_pos c'] at hx
    exact kf c' hx hK (gRl_t hs) H locs ls hS
theorem gr_tswIn {a dflt lo hi off : Int} {offs : Array Int} {len : Nat} (hd : decode M.1 pc = .ok (.tableswitch dflt lo hi offs, len)) (v : Int) (he : a = v) (h1 : ¬ v < lo) (h2 : ¬ hi < v) (ho : offs[(v - lo).toNat]? = some off) (tgt : Nat) (ht : (pc : Int) + off = (tgt : Int)) (k : gr x o M X h tgt lv st) : gr x o M X h pc lv (.inl a :: st) := by
  subst he
  intro hx hK hs H locs ls hS
  have ra : gR32 a := gRl_h hs
  exact lv_tableIn hK.1 hK.2.1 hd (by rw [g32 ra]; exact h1) (by rw [g32 ra]; exact h2) (by rw [g32 ra]; exact ho) ht (k hx hK (gRl_t hs) H locs ls hS)
theorem gr_tswOut {a dflt lo hi : Int} {offs : Array Int} {len : Nat} (hd : decode M.1 pc = .ok (.tableswitch dflt lo hi offs, len)) {h' : gH} (h : a < lo ∨ hi < a) (tgt : Nat) (ht : (pc : Int) + dflt = (tgt : Int)) (k : gr x o M X h' tgt lv st) : gr x o M X h' pc lv (.inl a :: st) := by
  intro hx hK hs H locs ls hS
  have ra : gR32 a := gRl_h hs
  exact lv_tableOut hK.1 hK.2.1 hd (by rw [g32 ra]; exact h) ht (k hx hK (gRl_t hs) H locs ls hS)
end GR
end
section
theorem gup_at (h : gH) (a k : Nat) (v : Int) : gup h a k v a k = v := if_pos ⟨rfl, rfl⟩
theorem gup_ne {h : gH} {a k : Nat} {v : Int} {x y : Nat} (hn : ¬ (x = a ∧ y = k)) : gup h a k v x y = h x y := if_neg hn
theorem gRg_up {h : gH} {a k : Nat} {v : Int} (hg : gRg h) (hv : gR32 v) : gRg (gup h a k v) := by
  intro x y
  unfold gup
  split
  · exact hv
  · exact hg x y
theorem gsh_lt {i : Nat} {k : gK} (h : gsh i = k) (hk : k ≠ .inl (9, 0)) : i < gN := by
  apply Decidable.byContradiction
  intro hn
  have hl : gtab.length ≤ i := by
    have : gtab.length = gN := by decide +kernel
    omega
  unfold gsh at h
  rw [List.getD_eq_getElem?_getD, List.getElem?_eq_none hl] at h
  exact hk h.symm
abbrev gLive (Z : gZ) : Prop := ∀ i, i < gN → i ∈ zL Z
theorem gli {Z : gZ} (hL : gLive Z) {i ci : Nat} (h : gsh i = .inr ci) : i ∈ zL Z := hL i (gsh_lt h (by intro q; cases q))
theorem glj {Z : gZ} (hL : gLive Z) {i t n : Nat} (h : gsh i = .inl (t, n)) (ht : t ≠ 9) : i ∈ zL Z := hL i (gsh_lt h (by intro q; cases q; exact ht rfl))
theorem gE_congr {G : gG} {b : Nat} {h h' : gH} {i : Nat} (e : ∀ y, h' i y = h i y) : gE G b h' i = gE G b h i := by
  have e' : h' i = h i := funext e
  unfold gE
  rcases hs : gsh i with ⟨t, n⟩ | ci
  · rcases t with _ | t
    · simp only [e']
    · rcases t with _ | t <;> simp only [e']
  · simp only []
    congr 2
    congr 1
    funext k q
    unfold gfv
    rw [e']
theorem gnd {L : List Nat} (hn : L.Nodup) {i j a : Nat} (hi : L[i]? = some a) (hj : L[j]? = some a) : i = j := by
  have hp := List.pairwise_iff_getElem.mp hn
  obtain ⟨l1, e1⟩ := List.getElem?_eq_some_iff.mp hi
  obtain ⟨l2, e2⟩ := List.getElem?_eq_some_iff.mp hj
  rcases Nat.lt_trichotomy i j with h | h | h
  · exact absurd (e1.trans e2.symm) (hp i j l1 l2 h)
  · exact h
  · exact absurd (e2.trans e1.symm) (hp j i l2 l1 h)
theorem gW_len (Z : gZ) (h : gH) : (gW Z h).length = (zL Z).length := by rw [gW, List.length_map]
theorem gW_at {Z : gZ} (h : gH) {q i : Nat} (hq : (zL Z)[q]? = some i) : (gW Z h)[q]? = some (zb Z + i, gE (zG Z) (zb Z) h i) := by
  rw [gW, List.getElem?_map, hq]; rfl
theorem gW_set {Z : gZ} (hn : (zL Z).Nodup) {h h' : gH} {q i : Nat} (hq : (zL Z)[q]? = some i) (hh : ∀ j, j ≠ i → ∀ y, h' j y = h j y) : (gW Z h).set q (zb Z + i, gE (zG Z) (zb Z) h' i) = gW Z h' := by
  apply List.ext_getElem?
  intro k
  rw [List.getElem?_set, gW_len]
  by_cases hk : q = k
  · subst hk
    rw [if_pos rfl, gW_at h' hq, if_pos (List.getElem?_eq_some_iff.mp hq).1]
  · rw [if_neg hk]
    cases hz : (zL Z)[k]? with
    | none => rw [gW, gW, List.getElem?_map, List.getElem?_map, hz]; rfl
    | some j =>
      rw [gW_at h hz, gW_at h' hz]
      have hj : j ≠ i := by
        intro e
        subst e
        exact hk (gnd hn hq hz)
      rw [gE_congr (hh j hj)]
theorem gD {Z : gZ} (hn : (zL Z).Nodup) (h : gH) : va_D (gA Z) (gW Z h) := by
  refine ⟨fun i j p q hp hq e => ?_, fun k q hq => ?_⟩
  · rw [gW, List.getElem?_map] at hp hq
    cases h1 : (zL Z)[i]? with
    | none => rw [h1] at hp; cases hp
    | some a =>
      cases h2 : (zL Z)[j]? with
      | none => rw [h2] at hq; cases hq
      | some b =>
        rw [h1] at hp
        rw [h2] at hq
        cases hp
        cases hq
        have e' : a = b := Nat.add_left_cancel e
        subst e'
        exact gnd hn h1 h2
  · rw [gW, List.getElem?_map] at hq
    cases h1 : (zL Z)[k]? with
    | none => rw [h1] at hq; cases hq
    | some a =>
      rw [h1] at hq
      cases hq
      exact ⟨a, List.mem_of_getElem? h1, rfl⟩
theorem gE_i {G : gG} {b : Nat} {h : gH} {i n : Nat} (hs : gsh i = .inl (0, n)) : gE G b h i = .inl (G.1, n, .inl (fun j => Int32.ofInt (h i j))) := by unfold gE; rw [hs]; rfl
theorem gE_z {G : gG} {b : Nat} {h : gH} {i n : Nat} (hs : gsh i = .inl (1, n)) : gE G b h i = .inl (G.2.1, n, .inl (fun j => Int32.ofInt (h i j))) := by unfold gE; rw [hs]; rfl
theorem gE_q {G : gG} {b : Nat} {h : gH} {i n : Nat} (hs : gsh i = .inl (2, n)) : gE G b h i = .inl (G.2.2, n, .inr (.inr (.inr (.inr (fun j => some (b + (i + 1 + 10 * j))))))) := by unfold gE; rw [hs]; rfl
theorem gE_o {G : gG} {b : Nat} {h : gH} {i ci : Nat} (hs : gsh i = .inr ci) : gE G b h i = .inr (ci, (gfk ci).mapIdx (fun k q => gfv b i h k q)) := by unfold gE; rw [hs]
/- a field that an instruction names: class ci, number k -/
def gFl (own : String) (idx ci k : Nat) : Prop := ∃ (C : String) (T : u_T) (N : Nat), gcls[ci]? = some (C, T, N) ∧ k < N ∧ Cond.fieldLink own idx (T k).1 (T k).2.1 (T k).2.2.1 ∈ gtbl ∧ ∀ w ∈ u_ws C T N, w ∈ gtbl
def gFp (own : String) (idx ci k : Nat) (ty : FieldType) : Prop := ∃ (C : String) (T : u_T) (N : Nat) (ty0 : Nat → FieldType), gcls[ci]? = some (C, T, N) ∧ k < N ∧ Cond.fieldLink own idx (T k).1 (T k).2.1 (T k).2.2.1 ∈ gtbl ∧ (∀ w ∈ u_ws C T N, w ∈ gtbl) ∧ (∀ k, k < N → parseFieldDescriptor (T k).2.2.1 = some (ty0 k)) ∧ (∀ a, a < N → ∀ b, b < N → a ≠ b → (T a).2.1 ≠ (T b).2.1) ∧ (T k).2.2.2 = false ∧ parseFieldDescriptor (T k).2.2.1 = some ty
theorem gfs_at {b i : Nat} {h : gH} {ci k : Nat} {q : Nat × Nat} (hk : (gfk ci)[k]? = some q) : ((gfk ci).mapIdx (fun k q => gfv b i h k q))[k]? = some (gfv b i h k q) := by rw [List.getElem?_mapIdx, hk]; rfl
theorem gvin {n : Nat} {i : Int} (ri : gR32 i) (hi : gix n i = true) : vp_in (Int32.ofInt i) n ∧ (Int32.ofInt i).toNatClampNeg = i.toNat := by
  have e : (Int32.ofInt i).toNatClampNeg = i.toNat := by
    show ((Int32.ofInt i).toInt).toNat = i.toNat
    rw [g32 ri]
  unfold gix at hi
  rw [Bool.and_eq_true, decide_eq_true_eq, decide_eq_true_eq] at hi
  refine ⟨fun q => ?_, e⟩
  rcases q with q | q
  · rw [gof0, glt ri gR0] at q; omega
  · rw [e] at q; omega
theorem gupd_eq {h : gH} {a : Nat} {k : Nat} {v : Int} : (fun j => Int32.ofInt (gup h a k v a j)) = upd (fun j => Int32.ofInt (h a j)) k (Int32.ofInt v) := by
  funext j
  unfold gup upd
  by_cases e : j = k
  · subst e; simp
  · simp [e]
theorem gfs_set {b i : Nat} {h : gH} {ci k : Nat} {v : Int} {q : Nat × Nat} (hk : (gfk ci)[k]? = some q) : ((gfk ci).mapIdx (fun k q => gfv b i h k q)).set k (gfv b i (gup h i k v) k q) = (gfk ci).mapIdx (fun k' q' => gfv b i (gup h i k v) k' q') := by
  apply List.ext_getElem?
  intro j
  rw [List.getElem?_set, List.getElem?_mapIdx, List.getElem?_mapIdx, List.length_mapIdx]
  by_cases e : k = j
  · subst e
    rw [if_pos rfl, if_pos (List.getElem?_eq_some_iff.mp hk).1, hk]; rfl
  · rw [if_neg e]
    cases (gfk ci)[j]? with
    | none => rfl
    | some r =>
      show some _ = some _
      congr 1
      show gfv b i h j r = gfv b i (gup h i k v) j r
      unfold gfv
      rw [gup_ne (fun q => e q.2.symm)]
section GH
variable {x y : Option gO} {o : gO} {M : gM} {X : gX} {h : gH} {pc : Nat} {lv : gL} {st : List gV}
theorem gget {idx ci k a : Nat} {q : Nat × Nat} {w : gV} (hd : decode M.1 pc = .ok (.getfield idx, 3)) (pc' : Nat) (hp : pc + 3 = pc') (hf : gFl M.2.1 idx ci k) (hsh : gsh a = .inr ci) (hk : (gfk ci)[k]? = some q) (hi : a ∈ zL (xZ X)) (hw : gRg h → gRv w) (he : gfv (zb (xZ X)) a h k q = gem (zb (xZ X)) w) (kk : gr x o M X h pc' lv (w :: st)) : gr x o M X h pc lv (.inr (.inr a) :: st) := by
  subst hp
  intro hx hK hs H locs ls hS
  obtain ⟨C, T, N, h1, h2, h3, h4⟩ := hf
  obtain ⟨q0, hq0⟩ := List.getElem?_of_mem hi
  have hat := gW_at h hq0
  rw [gE_o hsh] at hat
  refine va_get hK.1 hK.2.1 hK.2.2.2.2.1 h4 hK.2.2.2.1 hK.2.2.2.2.2.1 hS.2.2.1 q0 hat h1 k h2 (hK.2.2.2.2.1 _ h3) (fun _ z => z) (gfs_at hk) hd ?_
  rw [he]
  exact kk hx hK (gRl_c (hw hS.1) (gRl_t hs)) H locs ls hS
theorem gr_geti {idx ci k a z : Nat} (hd : decode M.1 pc = .ok (.getfield idx, 3)) (pc' : Nat) (hp : pc + 3 = pc') (hf : gFl M.2.1 idx ci k) (hsh : gsh a = .inr ci) (hk : (gfk ci)[k]? = some (0, z)) (hi : a ∈ zL (xZ X)) (kk : gr x o M X h pc' lv (.inl (h a k) :: st)) : gr x o M X h pc lv (.inr (.inr a) :: st) :=
  gget (w := .inl (h a k)) hd pc' hp hf hsh hk hi (fun hg => hg a k) rfl kk
theorem gr_getd {idx ci k a z : Nat} (hd : decode M.1 pc = .ok (.getfield idx, 3)) (pc' : Nat) (hp : pc + 3 = pc') (hf : gFl M.2.1 idx ci k) (hsh : gsh a = .inr ci) (hk : (gfk ci)[k]? = some (1, z)) (hi : a ∈ zL (xZ X)) (kk : gr x o M X h pc' lv (.inr (.inr (h a k).toNat) :: st)) : gr x o M X h pc lv (.inr (.inr a) :: st) :=
  gget (w := .inr (.inr (h a k).toNat)) hd pc' hp hf hsh hk hi (fun _ => trivial) rfl kk
theorem gr_getr {idx ci k a z : Nat} (hd : decode M.1 pc = .ok (.getfield idx, 3)) (pc' : Nat) (hp : pc + 3 = pc') (hf : gFl M.2.1 idx ci k) (hsh : gsh a = .inr ci) (hk : (gfk ci)[k]? = some (2, z)) (hi : a ∈ zL (xZ X)) (r : Nat) (hr : a + z = r) (kk : gr x o M X h pc' lv (.inr (.inr r) :: st)) : gr x o M X h pc lv (.inr (.inr a) :: st) :=
  gget (w := .inr (.inr r)) hd pc' hp hf hsh hk hi (fun _ => trivial) (by rw [← hr]; rfl) kk
theorem gr_geta {idx ci k a z : Nat} (hd : decode M.1 pc = .ok (.getfield idx, 3)) (pc' : Nat) (hp : pc + 3 = pc') (hf : gFl M.2.1 idx ci k) (hsh : gsh a = .inr ci) (hk : (gfk ci)[k]? = some (3, z)) (hi : a ∈ zL (xZ X)) (kk : gr x o M X h pc' lv (.inr (.inr z) :: st)) : gr x o M X h pc lv (.inr (.inr a) :: st) :=
  gget (w := .inr (.inr z)) hd pc' hp hf hsh hk hi (fun _ => trivial) rfl kk
theorem gput {idx ci k a : Nat} {q : Nat × Nat} {v : Int} {w : gV} {ty : FieldType} (hd : decode M.1 pc = .ok (.putfield idx, 3)) (pc' : Nat) (hp : pc + 3 = pc') (hf : gFp M.2.1 idx ci k ty) (hsh : gsh a = .inr ci) (hk : (gfk ci)[k]? = some q) (hi : a ∈ zL (xZ X)) (hv : gRl (w :: .inr (.inr a) :: st) → gR32 v) (he : gem (zb (xZ X)) w = gfv (zb (xZ X)) a (gup h a k v) k q) (hn : narrow ty (gem (zb (xZ X)) w) = gem (zb (xZ X)) w) (hfit : fits ty (gem (zb (xZ X)) w) = true) (kk : gr x o M X (gup h a k v) pc' lv st) : gr x o M X h pc lv (w :: .inr (.inr a) :: st) := by
  subst hp
  intro hx hK hs H locs ls hS
  obtain ⟨C, T, N, ty0, h1, h2, h3, h4, h5, h6, h7, h8⟩ := hf
  obtain ⟨q0, hq0⟩ := List.getElem?_of_mem hi
  have hat := gW_at h hq0
  rw [gE_o hsh] at hat
  have hlen : k < ((gfk ci).mapIdx (fun k q => gfv (zb (xZ X)) a h k q)).length := by
    rw [List.length_mapIdx]; exact (List.getElem?_eq_some_iff.mp hk).1
  refine va_put hK.1 hK.2.1 hK.2.2.2.2.1 h4 ty0 h5 h6 hK.2.2.2.1 hK.2.2.2.2.2.1 hS.2.2.1 (gD hK.2.2.2.2.2.2.2.2.2.2 h) hS.2.2.2.1 q0 hat h1 k h2 (hK.2.2.2.2.1 _ h3) (fun _ z => z) h7 h8 hn hfit hlen hd (fun H1 locs1 hP1 _ hS1 => ?_)
  rw [he, gfs_set hk, ← gE_o (G := zG (xZ X)) (b := zb (xZ X)) (h := gup h a k v) hsh, gW_set hK.2.2.2.2.2.2.2.2.2.2 hq0 (fun j hj y => gup_ne (fun q => hj q.1))] at hP1
  exact kk hx hK (gRl_t (gRl_t hs)) H1 locs1 ls ⟨gRg_up hS.1 (hv hs), hS.2.1, hP1, hS1, hS.2.2.2.2⟩
theorem gr_puti {idx ci k a z : Nat} {v : Int} (hd : decode M.1 pc = .ok (.putfield idx, 3)) (pc' : Nat) (hp : pc + 3 = pc') (hf : gFp M.2.1 idx ci k .int) (hsh : gsh a = .inr ci) (hk : (gfk ci)[k]? = some (0, z)) (hi : a ∈ zL (xZ X)) {kk : gH → Option gO} (k1 : ∀ h1, h1 = gup h a k v → gr (kk h1) o M X h1 pc' lv st) : gr (gs (gup h a k v) kk) o M X h pc lv (.inl v :: .inr (.inr a) :: st) :=
  gput hd pc' hp hf hsh hk hi (fun hs => gRl_h hs) (by show Value.int _ = Value.int _; rw [gup_at]) rfl rfl (k1 _ rfl)
theorem gr_putd {idx ci k a c z : Nat} {C : String} (hd : decode M.1 pc = .ok (.putfield idx, 3)) (pc' : Nat) (hp : pc + 3 = pc') (hf : gFp M.2.1 idx ci k (.object C)) (hsh : gsh a = .inr ci) (hk : (gfk ci)[k]? = some (1, z)) (hi : a ∈ zL (xZ X)) (hc : c < 2147483647) {kk : gH → Option gO} (k1 : ∀ h1, h1 = gup h a k (c : Int) → gr (kk h1) o M X h1 pc' lv st) : gr (gs (gup h a k (c : Int)) kk) o M X h pc lv (.inr (.inr c) :: .inr (.inr a) :: st) :=
  gput hd pc' hp hf hsh hk hi (fun _ => ⟨by omega, by omega⟩) (by show Value.ref _ = Value.ref _; rw [gup_at]; rfl) rfl rfl (k1 _ rfl)
theorem gr_iald {a n : Nat} {i : Int} (hd : decode M.1 pc = .ok (.iaload, 1)) (pc' : Nat) (hp : pc + 1 = pc') (hsh : gsh a = .inl (0, n)) (hi : a ∈ zL (xZ X)) (kk : gr x o M X h pc' lv (.inl (h a i.toNat) :: st)) : gr (gd (gix n i) x) o M X h pc lv (.inl i :: .inr (.inr a) :: st) := by
  subst hp
  refine gr_gd fun hc => ?_
  intro hx hK hs H locs ls hS
  obtain ⟨q0, hq0⟩ := List.getElem?_of_mem hi
  have hat := gW_at h hq0
  rw [gE_i hsh] at hat
  have hv := gvin (gRl_h hs) hc
  refine va_iald hK.1 hK.2.1 hK.2.2.2.2.2.1 hS.2.2.1 q0 0 hat rfl hv.1 hd ?_
  rw [hv.2]
  exact kk hx hK (gRl_c (hS.1 _ _) (gRl_t (gRl_t hs))) H locs ls hS
theorem gr_zald {a n : Nat} {i : Int} (hd : decode M.1 pc = .ok (.baload, 1)) (pc' : Nat) (hp : pc + 1 = pc') (hsh : gsh a = .inl (1, n)) (hi : a ∈ zL (xZ X)) (kk : gr x o M X h pc' lv (.inl (h a i.toNat) :: st)) : gr (gd (gix n i) x) o M X h pc lv (.inl i :: .inr (.inr a) :: st) := by
  subst hp
  refine gr_gd fun hc => ?_
  intro hx hK hs H locs ls hS
  obtain ⟨q0, hq0⟩ := List.getElem?_of_mem hi
  have hat := gW_at h hq0
  rw [gE_z hsh] at hat
  have hv := gvin (gRl_h hs) hc
  refine va_zald hK.1 hK.2.1 hK.2.2.2.2.2.1 hS.2.2.1 q0 1 hat rfl hv.1 hd ?_
  rw [hv.2]
  exact kk hx hK (gRl_c (hS.1 _ _) (gRl_t (gRl_t hs))) H locs ls hS
theorem gr_qald {a n : Nat} {i : Int} (hd : decode M.1 pc = .ok (.aaload, 1)) (pc' : Nat) (hp : pc + 1 = pc') (hsh : gsh a = .inl (2, n)) (hi : a ∈ zL (xZ X)) (kk : gr x o M X h pc' lv (.inr (.inr (a + 1 + 10 * i.toNat)) :: st)) : gr (gd (gix n i) x) o M X h pc lv (.inl i :: .inr (.inr a) :: st) := by
  subst hp
  refine gr_gd fun hc => ?_
  intro hx hK hs H locs ls hS
  obtain ⟨q0, hq0⟩ := List.getElem?_of_mem hi
  have hat := gW_at h hq0
  rw [gE_q hsh] at hat
  have hv := gvin (gRl_h hs) hc
  refine va_aldq hK.1 hK.2.1 hK.2.2.2.2.2.1 hS.2.2.1 q0 2 hat rfl hv.1 hd ?_
  rw [hv.2]
  exact kk hx hK (gRl_c trivial (gRl_t (gRl_t hs))) H locs ls hS
theorem gr_alen {a t n : Nat} (hd : decode M.1 pc = .ok (.arraylength, 1)) (pc' : Nat) (hp : pc + 1 = pc') (hsh : gsh a = .inl (t, n)) (ht : t = 0) (hi : a ∈ zL (xZ X)) (hn : n < 2147483647) (kk : gr x o M X h pc' lv (.inl (n : Int) :: st)) : gr x o M X h pc lv (.inr (.inr a) :: st) := by
  subst hp
  subst ht
  intro hx hK hs H locs ls hS
  obtain ⟨q0, hq0⟩ := List.getElem?_of_mem hi
  have hat := gW_at h hq0
  rw [gE_i hsh] at hat
  refine va_alen hK.1 hK.2.1 hK.2.2.2.2.2.1 hS.2.2.1 q0 0 hat rfl (v := Int32.ofInt (n : Int)) ?_ hd (kk hx hK (gRl_c ⟨by omega, by omega⟩ (gRl_t hs)) H locs ls hS)
  rfl
theorem gr_iast {a n : Nat} {i v : Int} (hd : decode M.1 pc = .ok (.iastore, 1)) (pc' : Nat) (hp : pc + 1 = pc') (hsh : gsh a = .inl (0, n)) (hi : a ∈ zL (xZ X)) {kk : gH → Option gO} (k1 : ∀ h1, h1 = gup h a i.toNat v → gr (kk h1) o M X h1 pc' lv st) : gr (gd (gix n i) (gs (gup h a i.toNat v) kk)) o M X h pc lv (.inl v :: .inl i :: .inr (.inr a) :: st) := by
  subst hp
  refine gr_gd fun hc => ?_
  intro hx hK hs H locs ls hS
  obtain ⟨q0, hq0⟩ := List.getElem?_of_mem hi
  have hat := gW_at h hq0
  rw [gE_i hsh] at hat
  have hv := gvin (gRl_h (gRl_t hs)) hc
  refine va_iast hK.1 hK.2.1 hK.2.2.2.2.2.1 hS.2.2.1 (gD hK.2.2.2.2.2.2.2.2.2.2 h) hS.2.2.2.1 q0 0 hat rfl hv.1 hd (fun H1 locs1 hP1 _ hS1 => ?_)
  rw [hv.2, ← gupd_eq, ← gE_i (G := zG (xZ X)) (b := zb (xZ X)) hsh, gW_set hK.2.2.2.2.2.2.2.2.2.2 hq0 (fun j hj y => gup_ne (fun q => hj q.1))] at hP1
  exact k1 _ rfl hx hK (gRl_t (gRl_t (gRl_t hs))) H1 locs1 ls ⟨gRg_up hS.1 (gRl_h hs), hS.2.1, hP1, hS1, hS.2.2.2.2⟩
theorem gr_zast {a n : Nat} {i v : Int} (hd : decode M.1 pc = .ok (.bastore, 1)) (hz : v = 0 ∨ v = 1) (pc' : Nat) (hp : pc + 1 = pc') (hsh : gsh a = .inl (1, n)) (hi : a ∈ zL (xZ X)) {kk : gH → Option gO} (k1 : ∀ h1, h1 = gup h a i.toNat v → gr (kk h1) o M X h1 pc' lv st) : gr (gd (gix n i) (gs (gup h a i.toNat v) kk)) o M X h pc lv (.inl v :: .inl i :: .inr (.inr a) :: st) := by
  subst hp
  refine gr_gd fun hc => ?_
  intro hx hK hs H locs ls hS
  obtain ⟨q0, hq0⟩ := List.getElem?_of_mem hi
  have hat := gW_at h hq0
  rw [gE_z hsh] at hat
  have hv := gvin (gRl_h (gRl_t hs)) hc
  have hnz : vp_nar .boolean (Int32.ofInt v) = Int32.ofInt v := by rcases hz with rfl | rfl <;> decide
  refine va_zast hK.1 hK.2.1 hK.2.2.2.2.2.1 hS.2.2.1 (gD hK.2.2.2.2.2.2.2.2.2.2 h) hS.2.2.2.1 q0 1 hat rfl hv.1 hd (fun H1 locs1 hP1 _ hS1 => ?_)
  rw [hv.2, hnz, ← gupd_eq, ← gE_z (G := zG (xZ X)) (b := zb (xZ X)) hsh, gW_set hK.2.2.2.2.2.2.2.2.2.2 hq0 (fun j hj y => gup_ne (fun q => hj q.1))] at hP1
  exact k1 _ rfl hx hK (gRl_t (gRl_t (gRl_t hs))) H1 locs1 ls ⟨gRg_up hS.1 (gRl_h hs), hS.2.1, hP1, hS1, hS.2.2.2.2⟩
end GH
end
section
def gRet (ret : Option FieldType) (r : Int) : Option Value := ret.map (fun _ => .int (Int32.ofInt r))
def gRs (ret : Option FieldType) (r : Int) : List gV := match ret with
  | none => []
  | some _ => [.inl r]
def gWd (Z : gZ) (h : gH) (U : State) : Prop := va_P (zD Z) gcls (gW Z h) U.heap ∧ va_K (zD Z) gcls (gTy Z) U
def gPre (Z : gZ) (as : List gV) (h : gH) : Array Value → State → Prop := va_Pc (as.map (gem (zb Z))) (gWd Z h)
def gPost (Z : gZ) (ret : Option FieldType) (o : gO) : Array Value → State → Outcome → State → Prop := fun _ st oc t => oc = .returned (gRet ret o.2) ∧ (gRg o.1 ∧ gR32 o.2) ∧ gWd Z o.1 t ∧ va_F (gA Z) st t
def gRm (fr lo : Nat) : Room := { frames := fr, cells := 0, slots := 0, locals := lo }
/- a contract: from the memory h the method comes to o -/
def gC (Z : gZ) (y : MethodName) (cc : ByteArray) (nL : Nat) (ret : Option FieldType) (fr lo : Nat) (as : List gV) (h : gH) (o : gO) : Prop :=
  Met (zl Z) y (.code y cc nL ret :: gtbl) (gRm fr lo) (gPre Z as h) (gPost Z ret o) 0 0 (gA Z)
def gFin (X : gX) (ret : Option FieldType) (o : gO) : Prop := (xme X).sig.returnType = ret ∧ (xme X).locks = false ∧ xQ X = MQ (xb X) (gPost (xZ X) ret o) (xa X) (xs X) (xce X) (xsl X) (gA (xZ X)) ∧ xH X = (xs X).heap
theorem gC_of {Z : gZ} {y : MethodName} {cc : ByteArray} {nL : Nat} {ret : Option FieldType} {fr lo : Nat} {as : List gV} {h : gH} {o : gO} {lv : gL} {own : String} {x : Option gO} (hy : plainName y.cls = true) (hown : y.cls = own) (hlen : (lg_sl (as.map (gem (zb Z)))).length ≤ nL) (hlv : lv_args 0 (as.map (gem (zb Z))) = gEL (zb Z) lv) (hlvs : lv.map Prod.snd = as) (hn : (zL Z).Nodup) (hg : gRg h) (ha : gRl as) (hx : x = some o)
    (k : ∀ X : gX, xZ X = Z → gFin X ret o → gr x o (cc, own, fr, lo, nL) X h 0 lv []) : gC Z y cc nL ret fr lo as h o := by
  refine Met.ofW (cc := cc) (maxL := nL) (ret := ret) hy rfl ?_
  intro p e s m args below meth c s₁ B hml hv
  obtain ⟨rfl, hP, hK⟩ := hv
  have hts := atoms_spec (ws := .code y cc nL ret :: gtbl) B.pre
  have hown' : s.vm.findClass own = some m.cls := by rw [← hown]; exact findClass_of_methodNamed B.named
  have hl := lv_entry (as.map (gem (zb Z))) (n := nL) hlen
  rw [lg_entry_eq]
  generalize (lg_sl (as.map (gem (zb Z))) ++ List.replicate (nL - (lg_sl (as.map (gem (zb Z)))).length) Slot.unset).toArray = ls at hl ⊢
  rw [hlv] at hl
  exact k (Z, p, e, gRm fr lo, s, m, (as.map (gem (zb Z))).toArray, below, meth, c, nL, 0, 0, MQ below (gPost Z ret o) (as.map (gem (zb Z))).toArray s 0 0 (gA Z), s.heap) rfl
    ⟨B.returns, B.notSynchronized, rfl, rfl⟩ hx ⟨B.exec, B.bytes, ⟨hml, rfl⟩, hown', fun w hw => hts w (List.mem_cons_of_mem _ hw), hK, Nat.le_refl _, Nat.le_refl _, Nat.zero_le _, Nat.zero_le _, hn⟩ (fun _ h => by cases h) s.heap [] ls ⟨hg, by rw [hlvs]; exact ha, hP, va_S.rf, hl⟩
def gCat (v : gV) : Nat := match v with
  | .inr (.inl _) => 2
  | _ => 1
theorem gCat_eq (b : Nat) (st : List gV) : ((st.map (gem b)).map fun v => v.category) = st.map gCat := by
  rw [List.map_map]
  apply List.map_congr_left
  intro v _
  rcases v with x | x | x <;> rfl
/- what the tables say of a call: by an instance, of a static method -/
def gCy (own : String) (idx : Nat) (y : MethodName) (cc : ByteArray) (nL : Nat) (ret : Option FieldType) (n : Nat) : Prop :=
  Cond.methodLink own idx y ∈ gtbl ∧ Cond.initialized y.cls ∈ gtbl ∧ Cond.code y cc nL ret ∈ gtbl ∧ (y.cls ≠ "java/lang/invoke/MethodHandle" ∧ y.cls ≠ "java/lang/invoke/VarHandle" ∧ (parseMethodDescriptor y.desc).map (fun d => d.parameters.length) = some n)
theorem gGood {c : Cond} (h : c ∈ gtbl) : GoodIn gtbl (c :: gtbl) := fun w hw => by
  have hm : w ∈ gtbl := by
    rcases List.mem_cons.mp hw with rfl | hw
    · exact h
    · exact hw
  exact ⟨hm, good_of_word (gtbl_good w hm)⟩
theorem gBlind (Z : gZ) (as : List gV) (h : gH) : FrameBlind (gPre Z as h) := fun _ U g mk q => ⟨q.1, q.2.1, va_K.moved (u := U) (Vm.Alike.refl U.vm) q.2.2⟩
section GCALL
variable {x y : Option gO} {o : gO} {M : gM} {X : gX} {h : gH} {pc : Nat} {lv : gL} {st : List gV}
theorem gafter {ret : Option FieldType} {o1 : gO} {kk : gH → Int → Option gO} {args' : Array Value} {H : Heap} {locs : List Loc} {ls : Array Slot} {stk : List gV} (hK : gKn M X) (hs : gRl st) (hS : gSt X h lv H locs ls) (hx : kk o1.1 o1.2 = some o)
    (run : va_Run (xp X) (zl (xZ X)) (xe X) (xR X) (xs X) (xm X) (xa X) (xb X) (xme X) (xc X) H locs (xce X) (xsl X) 0 0 (F0 (xm X) pc ls (stk.map (gem (zb (xZ X))))) (st.map (gem (zb (xZ X)))) (gPost (xZ X) ret o1 args') (gA (xZ X)))
    (k : gr (kk o1.1 o1.2) o M X o1.1 (pc + 3) lv (gRs ret o1.2 ++ st)) : gWW X H locs pc ls stk := by
  intro T hT X'
  obtain ⟨v, st₀, t, T', L, h0, X'', hL, e1, e2, ⟨hv, ⟨hg1, hr1⟩, ⟨hP1, hK1⟩, hF⟩, stp⟩ := run T hT X'
  have hv' : v = gRet ret o1.2 := by cases hv; rfl
  subst hv'
  have hP1' : va_P (zD (xZ X)) gcls (gW (xZ X) o1.1) T'.heap := by rw [e1]; exact hP1
  have hz : H.size ≤ T'.heap.size := by rw [e1, ← h0]; exact hF.1
  have hkeep : ∀ q : Nat, q < H.size → ¬ gA (xZ X) q → T'.heap[q]? = H[q]? := fun q h1 h2 => by
    rw [e1, hF.2 q (by rw [h0]; exact h1) h2, h0]
  have hSS := hS.2.2.2.1
  have hS1 : va_S (gA (xZ X)) (xH X) T'.heap (locs ++ L) := by
    refine ⟨Nat.le_trans hSS.1 hz, fun q h1 h2 => ?_, fun q hq => ?_⟩
    · rw [hkeep q (Nat.lt_of_lt_of_le h1 hSS.1) h2]
      exact hSS.2.1 q h1 h2
    · rcases List.mem_append.mp hq with h | h
      · exact hSS.2.2 q h
      · exact hL q h
  have hst : gRl (gRs ret o1.2 ++ st) := by
    intro u hu
    rcases List.mem_append.mp hu with hu | hu
    · cases ret with
      | none => cases hu
      | some _ =>
        have e : u = .inl o1.2 := by simpa [gRs] using hu
        rw [e]; exact hr1
    · exact hs u hu
  obtain ⟨t2, a1, b1⟩ := k hx hK hst T'.heap (locs ++ L) ls ⟨hg1, hS.2.1, hP1', hS1, hS.2.2.2.2⟩ T' rfl X''
  refine ⟨t2, stp t2 ?_, b1⟩
  have e : (gRs ret o1.2 ++ st).map (gem (zb (xZ X))) = (gRet ret o1.2).toList ++ st.map (gem (zb (xZ X))) := by
    cases ret <;> rfl
  rw [e] at a1
  exact a1
theorem gr_callV {idx fr lo nL' ci a N : Nat} {T : u_T} {yy : MethodName} {cc' : ByteArray} {ret : Option FieldType} {as stk : List gV} {fx : Option gO} {kk : gH → Int → Option gO} (hd : decode M.1 pc = .ok (.invokevirtual idx, 3)) (pc' : Nat) (hp : pc + 3 = pc') (hst : stk = as.reverse ++ .inr (.inr a) :: st) (hy : gCy M.2.1 idx yy cc' nL' ret as.length) (hin : Cond.instanceMethod yy ∈ gtbl) (hse : Cond.selects yy.cls yy yy ∈ gtbl) (hroom : fr + 1 ≤ M.2.2.1 ∧ 8 + (nL' + 11) + lo ≤ M.2.2.2.1) (hcat : (st.map gCat).sum ≤ 8) (hsh : gsh a = .inr ci) (hci : gcls[ci]? = some (yy.cls, T, N)) (hi : a ∈ zL (xZ X))
    (hc : ∀ o1, gRg h → gRl (.inr (.inr a) :: as) → fx = some o1 → gC (xZ X) yy cc' nL' ret fr lo (.inr (.inr a) :: as) h o1) (k : ∀ h1 r, fx = some (h1, r) → gr (kk h1 r) o M X h1 pc' lv (gRs ret r ++ st)) : gr (gb fx kk) o M X h pc lv stk := by
  subst hp
  subst hst
  intro hx hK hs H locs ls hS
  cases hfx : fx with
  | none => rw [hfx] at hx; cases hx
  | some o1 =>
    rw [hfx] at hx
    have hx' : kk o1.1 o1.2 = some o := hx
    have hsa : gRl (.inr (.inr a) :: as) := fun u hu => by
      rcases List.mem_cons.mp hu with rfl | hu
      · exact trivial
      · exact hs u (List.mem_append_left _ (List.mem_reverse.mpr hu))
    have hss : gRl st := fun u hu => hs u (List.mem_append_right _ (List.mem_cons_of_mem _ hu))
    have hM := hc o1 hS.1 hsa hfx
    obtain ⟨hy1, hy2, hy3, hy4⟩ := hy
    obtain ⟨q0, hq0⟩ := List.getElem?_of_mem hi
    have hat := gW_at h hq0
    rw [gE_o hsh] at hat
    have hrec := va_recv hK.2.2.2.2.2.1 hS.2.2.1 hci hat
    have cw : CallW (xR X) (xs X) (xa X) M.2.1 yy.cls idx yy cc' nL' ret (.code yy cc' nL' ret :: gtbl) (gRm fr lo) 0 0 as.length :=
      ⟨callB_of _ hK.2.2.2.2.1 (gGood hy3) rfl rfl rfl (hK.2.2.2.2.1 _ hy2) (hK.2.2.2.2.1 _ hy1) hy4 ⟨Nat.le_trans hroom.1 hK.2.2.2.2.2.2.1, Nat.le_trans hroom.2 hK.2.2.2.2.2.2.2.1⟩, hK.2.2.2.2.1 _ hin, hK.2.2.2.2.1 _ hse⟩
    have run := va_runV (cc := M.1) (nL := xn X) (Ts := gtbl) (own := M.2.1) (e := xe X) (below := xb X) (meth := xme X) (H := H) (locs := locs) (cells := xce X) (slots := xsl X) (As := as.map (gem (zb (xZ X)))) (rest := st.map (gem (zb (xZ X)))) (g := F0 (xm X) pc ls ((as.reverse ++ .inr (.inr a) :: st).map (gem (zb (xZ X))))) ⟨hK.1, hK.2.1, hK.2.2.1.1, hK.2.2.2.1, hK.2.2.2.2.1⟩ hM cw (b := zb (xZ X) + a)
      ⟨gBlind _ _ _, hrec, fun U hU hW => ⟨rfl, by rw [hU]; exact hS.2.2.1, va_K.moved hW.alike hK.2.2.2.2.2.1⟩⟩ rfl (List.length_map ..) hS.2.2.2.2.1 (by rw [List.map_append, List.map_reverse]; rfl) (by rw [gCat_eq]; exact Nat.le_trans (Nat.le_of_eq (Nat.zero_add _)) hcat) hd ⟨hK.2.2.2.2.2.2.2.2.1, hK.2.2.2.2.2.2.2.2.2.1⟩
    exact gafter hK hss hS hx' run (k o1.1 o1.2 hfx)
theorem gr_callS {idx fr lo nL' : Nat} {yy : MethodName} {cc' : ByteArray} {ret : Option FieldType} {as stk : List gV} {fx : Option gO} {kk : gH → Int → Option gO} (hd : decode M.1 pc = .ok (.invokestatic idx, 3)) (pc' : Nat) (hp : pc + 3 = pc') (hst : stk = as.reverse ++ st) (hy : gCy M.2.1 idx yy cc' nL' ret as.length) (hin : Cond.static yy ∈ gtbl) (hroom : fr + 1 ≤ M.2.2.1 ∧ 8 + (nL' + 11) + lo ≤ M.2.2.2.1) (hcat : (st.map gCat).sum ≤ 8)
    (hc : ∀ o1, gRg h → gRl as → fx = some o1 → gC (xZ X) yy cc' nL' ret fr lo as h o1) (k : ∀ h1 r, fx = some (h1, r) → gr (kk h1 r) o M X h1 pc' lv (gRs ret r ++ st)) : gr (gb fx kk) o M X h pc lv stk := by
  subst hp
  subst hst
  intro hx hK hs H locs ls hS
  cases hfx : fx with
  | none => rw [hfx] at hx; cases hx
  | some o1 =>
    rw [hfx] at hx
    have hx' : kk o1.1 o1.2 = some o := hx
    have hsa : gRl as := fun u hu => hs u (List.mem_append_left _ (List.mem_reverse.mpr hu))
    have hss : gRl st := fun u hu => hs u (List.mem_append_right _ hu)
    have hM := hc o1 hS.1 hsa hfx
    obtain ⟨hy1, hy2, hy3, hy4⟩ := hy
    have cw : CallB (xR X) (xs X) (xa X) M.2.1 idx yy cc' nL' ret (.code yy cc' nL' ret :: gtbl) (gRm fr lo) 0 0 as.length ∧ (Cond.static yy).before (xa X) (xs X) = true :=
      ⟨callB_of _ hK.2.2.2.2.1 (gGood hy3) rfl rfl rfl (hK.2.2.2.2.1 _ hy2) (hK.2.2.2.2.1 _ hy1) hy4 ⟨Nat.le_trans hroom.1 hK.2.2.2.2.2.2.1, Nat.le_trans hroom.2 hK.2.2.2.2.2.2.2.1⟩, hK.2.2.2.2.1 _ hin⟩
    have run := va_runS (cc := M.1) (nL := xn X) (Ts := gtbl) (own := M.2.1) (e := xe X) (below := xb X) (meth := xme X) (H := H) (locs := locs) (cells := xce X) (slots := xsl X) (As := as.map (gem (zb (xZ X)))) (rest := st.map (gem (zb (xZ X)))) (g := F0 (xm X) pc ls ((as.reverse ++ st).map (gem (zb (xZ X))))) ⟨hK.1, hK.2.1, hK.2.2.1.1, hK.2.2.2.1, hK.2.2.2.2.1⟩ hM cw
      ⟨gBlind _ _ _, fun U hU hW => ⟨rfl, by rw [hU]; exact hS.2.2.1, va_K.moved hW.alike hK.2.2.2.2.2.1⟩⟩ rfl (List.length_map ..) hS.2.2.2.2.1 (by rw [List.map_append, List.map_reverse]) (by rw [gCat_eq]; exact Nat.le_trans (Nat.le_of_eq (Nat.zero_add _)) hcat) hd ⟨hK.2.2.2.2.2.2.2.2.1, hK.2.2.2.2.2.2.2.2.2.1⟩
    exact gafter hK hss hS hx' run (k o1.1 o1.2 hfx)
theorem gr_ireturn {r : Int} (hd : decode M.1 pc = .ok (.ireturn, 1)) (hF : gFin X (some .int) o) : gr (some (h, r)) o M X h pc lv [.inl r] := by
  intro hx hK hs H locs ls hS
  obtain ⟨f1, f2, f3, f4⟩ := hF
  cases hx
  unfold gWW
  rw [f3]
  exact W.iret hK.1 hK.2.1 f1 (fun t ht hW => ⟨rfl, ⟨hS.1, gRl_h hs⟩, ⟨by rw [ht]; exact hS.2.2.1, va_K.moved hW.alike hK.2.2.2.2.2.1⟩, va_S.F (by rw [← f4]; exact hS.2.2.2.1) ht⟩) hS.2.2.2.1.2.2 hd f2
theorem gr_zreturn {r : Int} (hd : decode M.1 pc = .ok (.ireturn, 1)) (hF : gFin X (some .boolean) o) : gr (gd (decide (r = 0 ∨ r = 1)) (some (h, r))) o M X h pc lv [.inl r] := by
  refine gr_gd fun hc => ?_
  intro hx hK hs H locs ls hS
  obtain ⟨f1, f2, f3, f4⟩ := hF
  cases hx
  unfold gWW
  rw [f3]
  have hz : r = 0 ∨ r = 1 := of_decide_eq_true hc
  exact W.zret hK.1 hK.2.1 f1 (by rcases hz with rfl | rfl <;> rfl) (fun t ht hW => ⟨rfl, ⟨hS.1, gRl_h hs⟩, ⟨by rw [ht]; exact hS.2.2.1, va_K.moved hW.alike hK.2.2.2.2.2.1⟩, va_S.F (by rw [← f4]; exact hS.2.2.2.1) ht⟩) hS.2.2.2.1.2.2 hd f2
theorem gr_return (hd : decode M.1 pc = .ok (.return_, 1)) (hF : gFin X none o) : gr (some (h, 0)) o M X h pc lv [] := by
  intro hx hK hs H locs ls hS
  obtain ⟨f1, f2, f3, f4⟩ := hF
  cases hx
  unfold gWW
  rw [f3]
  exact W.vret hK.1 hK.2.1 f1 (fun t ht hW => ⟨rfl, ⟨hS.1, gR0⟩, ⟨by rw [ht]; exact hS.2.2.1, va_K.moved hW.alike hK.2.2.2.2.2.1⟩, va_S.F (by rw [← f4]; exact hS.2.2.2.1) ht⟩) hS.2.2.2.1.2.2 hd f2
end GCALL
/- a row of ints copied into another -/
def gcp (h : gH) (s sp d dp n : Nat) : gH := fun x y => if x = d ∧ dp ≤ y ∧ y < dp + n then h s (sp + (y - dp)) else h x y
def gcpok (s d : Nat) (sp dp n : Int) : Bool := decide (0 ≤ sp ∧ 0 ≤ dp ∧ 0 ≤ n ∧ sp + n ≤ (gln s : Int) ∧ dp + n ≤ (gln d : Int))
theorem gln_of {i t n : Nat} (h : gsh i = .inl (t, n)) : gln i = n := by unfold gln; rw [h]
theorem gr_acopy {x : Option gO} {o : gO} {M : gM} {X : gX} {h : gH} {pc : Nat} {lv : gL} {st : List gV} {idx s d n0 n1 : Nat} {sp dp n : Int} (hd : decode M.1 pc = .ok (.invokestatic idx, 3)) (pc' : Nat) (hp : pc + 3 = pc') (h1 : Cond.methodLink M.2.1 idx arraycopyName ∈ gtbl) (h2 : Cond.native arraycopyName ∈ gtbl) (h3 : Cond.static arraycopyName ∈ gtbl) (h4 : Cond.initialized "java/lang/System" ∈ gtbl) (hroom : 1 ≤ M.2.2.1 ∧ 8 + (nativeFrameWords "java/lang/System" "arraycopy" 5 + 11) ≤ M.2.2.2.1) (hcat : (st.map gCat).sum ≤ 8) (hs0 : gsh s = .inl (0, n0)) (hs1 : gsh d = .inl (0, n1)) (hi0 : s ∈ zL (xZ X)) (hi1 : d ∈ zL (xZ X)) {kk : gH → Option gO} (k1 : ∀ h1, h1 = gcp h s sp.toNat d dp.toNat n.toNat → gr (kk h1) o M X h1 pc' lv st) : gr (gd (gcpok s d sp dp n) (gs (gcp h s sp.toNat d dp.toNat n.toNat) kk)) o M X h pc lv (.inl n :: .inl dp :: .inr (.inr d) :: .inl sp :: .inr (.inr s) :: st) := by
  subst hp
  refine gr_gd fun hc => ?_
  intro hx hK hs H locs ls hS
  have hc' := of_decide_eq_true hc
  rw [gln_of hs0, gln_of hs1] at hc'
  obtain ⟨c1, c2, c3, c4, c5⟩ := hc'
  have r1 : gR32 n := gRl_h hs
  have r2 : gR32 dp := gRl_h (gRl_t hs)
  have r3 : gR32 sp := gRl_h (gRl_t (gRl_t (gRl_t hs)))
  have e1 : (Int32.ofInt n).toNatClampNeg = n.toNat := by show ((Int32.ofInt n).toInt).toNat = _; rw [g32 r1]
  have e2 : (Int32.ofInt dp).toNatClampNeg = dp.toNat := by show ((Int32.ofInt dp).toInt).toNat = _; rw [g32 r2]
  have e3 : (Int32.ofInt sp).toNatClampNeg = sp.toNat := by show ((Int32.ofInt sp).toInt).toNat = _; rw [g32 r3]
  have ng : ∀ {z : Int}, gR32 z → 0 ≤ z → ¬ Int32.ofInt z < 0 := fun rz hz q => by rw [gof0, glt rz gR0] at q; omega
  obtain ⟨q0, hq0⟩ := List.getElem?_of_mem hi0
  obtain ⟨q1, hq1⟩ := List.getElem?_of_mem hi1
  have hat0 := gW_at h hq0
  rw [gE_i hs0] at hat0
  have hat1 := gW_at h hq1
  rw [gE_i hs1] at hat1
  refine va_copyi hK.1 hK.2.1 (hK.2.2.1.1.trans hS.2.2.2.2.1.symm) hK.2.2.2.1 (hK.2.2.2.2.1 _ h1) (hK.2.2.2.2.1 _ h2) (hK.2.2.2.2.1 _ h3) (hK.2.2.2.2.1 _ h4) hK.2.2.2.2.2.1 hS.2.2.1 (gD hK.2.2.2.2.2.2.2.2.2.2 h) hS.2.2.2.1 q0 q1 0 0 hat0 hat1 (ty := .int) rfl rfl rfl (ng r3 c1) (ng r2 c2) (ng r1 c3) (by rw [e3, e1]; omega) (by rw [e2, e1]; omega) (fun _ _ => rfl) (Nat.le_trans hroom.1 hK.2.2.2.2.2.2.1) (by rw [gCat_eq]; have := hroom.2; have := hK.2.2.2.2.2.2.2.1; omega) hd (fun H1 locs1 hP1 _ hS1 => ?_)
  have hh : ∀ j, j ≠ d → ∀ y, gcp h s sp.toNat d dp.toNat n.toNat j y = h j y := fun j hj y => if_neg (fun q => hj q.1)
  have ec : va_cpy (fun j => Int32.ofInt (h s j)) (fun j => Int32.ofInt (h d j)) sp.toNat dp.toNat n.toNat = fun j => Int32.ofInt (gcp h s sp.toNat d dp.toNat n.toNat d j) := by
    funext j
    unfold va_cpy gcp
    by_cases hj : dp.toNat ≤ j ∧ j < dp.toNat + n.toNat
    · rw [if_pos hj, if_pos ⟨rfl, hj⟩]
    · rw [if_neg hj, if_neg (fun q => hj q.2)]
  rw [e1, e2, e3, ec, ← gE_i (G := zG (xZ X)) (b := zb (xZ X)) (h := gcp h s sp.toNat d dp.toNat n.toNat) hs1, gW_set hK.2.2.2.2.2.2.2.2.2.2 hq1 hh] at hP1
  have hg' : gRg (gcp h s sp.toNat d dp.toNat n.toNat) := fun x y => by
    unfold gcp
    split
    · exact hS.1 _ _
    · exact hS.1 _ _
  exact k1 _ rfl hx hK (gRl_t (gRl_t (gRl_t (gRl_t (gRl_t hs))))) H1 locs1 ls ⟨hg', hS.2.1, hP1, hS1, hS.2.2.2.2⟩
end
section
theorem gr_sub {x : Option gO} {o : gO} {M : gM} {X : gX} {h : gH} {pc : Nat} {lv : gL} {st : List gV} {lv' : gL} (ks : List Nat) (hl : ks.filterMap (fun k => lv[k]?) = lv') (k : gr x o M X h pc lv' st) : gr x o M X h pc lv st := by
  intro hx hK hs H locs ls hS
  have hm : ∀ q, q ∈ lv' → q ∈ lv := fun q hq => by
    rw [← hl] at hq
    obtain ⟨i, -, hi⟩ := List.mem_filterMap.mp hq
    exact List.mem_of_getElem? hi
  refine k hx hK hs H locs ls ⟨hS.1, fun v hv => ?_, hS.2.2.1, hS.2.2.2.1, hS.2.2.2.2.1, hS.2.2.2.2.2.1, fun q hq => ?_⟩
  · obtain ⟨q, hq, rfl⟩ := List.mem_map.mp hv
    exact hS.2.1 _ (List.mem_map.mpr ⟨q, hm q hq, rfl⟩)
  · obtain ⟨r, hr, rfl⟩ := List.mem_map.mp hq
    exact hS.2.2.2.2.2.2 _ (List.mem_map.mpr ⟨r, hm r hr, rfl⟩)
theorem gclE {i ci : Nat} (h : gcl i ci = true) : gsh i = .inr ci := of_decide_eq_true h
theorem gsmall {i ci : Nat} (h : gsh i = .inr ci) : i < 2147483647 := Nat.lt_trans (gsh_lt h (by intro q; cases q)) (by decide)
theorem giaE {i : Nat} (h : gia i = true) : gsh i = .inl (0, gln i) := by
  unfold gia at h
  unfold gln
  rcases hs : gsh i with ⟨t, n⟩ | c
  · rcases t with _ | t
    · rfl
    · rw [hs] at h; cases h
  · rw [hs] at h; cases h
theorem gia_of {i n : Nat} (h : gsh i = .inl (0, n)) : gia i = true := by unfold gia; rw [h]; rfl
theorem gr_ialdP {x : Option gO} {o : gO} {M : gM} {X : gX} {h : gH} {pc : Nat} {lv : gL} {st : List gV} {a : Nat} {i : Int} (hd : decode M.1 pc = .ok (.iaload, 1)) (pc' : Nat) (hp : pc + 1 = pc') (hia : gia a = true) (hL : gLive (xZ X)) (kk : gr x o M X h pc' lv (.inl (h a i.toNat) :: st)) : gr (gd (gix (gln a) i) x) o M X h pc lv (.inl i :: .inr (.inr a) :: st) := gr_iald hd pc' hp (giaE hia) (glj hL (giaE hia) (by decide)) kk
theorem gr_iastP {o : gO} {M : gM} {X : gX} {h : gH} {pc : Nat} {lv : gL} {st : List gV} {a : Nat} {i v : Int} (hd : decode M.1 pc = .ok (.iastore, 1)) (pc' : Nat) (hp : pc + 1 = pc') (hia : gia a = true) (hL : gLive (xZ X)) {kk : gH → Option gO} (k1 : ∀ h1, h1 = gup h a i.toNat v → gr (kk h1) o M X h1 pc' lv st) : gr (gd (gix (gln a) i) (gs (gup h a i.toNat v) kk)) o M X h pc lv (.inl v :: .inl i :: .inr (.inr a) :: st) := gr_iast hd pc' hp (giaE hia) (glj hL (giaE hia) (by decide)) k1
theorem gln_small (i : Nat) : gln i < 2147483647 := by
  by_cases hi : i < gN
  · have : ∀ i, i < gN → gln i < 2147483647 := by decide +kernel
    exact this i hi
  · have hl : gtab.length ≤ i := by
      have : gtab.length = gN := by decide +kernel
      omega
    unfold gln gsh
    rw [List.getD_eq_getElem?_getD, List.getElem?_eq_none hl]
    decide
theorem gr_alenP {x : Option gO} {o : gO} {M : gM} {X : gX} {h : gH} {pc : Nat} {lv : gL} {st : List gV} {a : Nat} (hd : decode M.1 pc = .ok (.arraylength, 1)) (pc' : Nat) (hp : pc + 1 = pc') (hia : gia a = true) (hL : gLive (xZ X)) (kk : gr x o M X h pc' lv (.inl ((gln a : Nat) : Int) :: st)) : gr x o M X h pc lv (.inr (.inr a) :: st) := gr_alen hd pc' hp (giaE hia) rfl (glj hL (giaE hia) (by decide)) (gln_small a) kk
theorem gr_callVi {o : gO} {M : gM} {X : gX} {h : gH} {pc : Nat} {lv : gL} {st : List gV} {idx fr lo nL' : Nat} {ci a N : Nat} {T : u_T} {yy : MethodName} {cc' : ByteArray} {ty : FieldType} {as stk : List gV} {fx : Option gO} {kk : gH → Int → Option gO} (hd : decode M.1 pc = .ok (.invokevirtual idx, 3)) (pc' : Nat) (hp : pc + 3 = pc') (hst : stk = as.reverse ++ .inr (.inr a) :: st) (hy : gCy M.2.1 idx yy cc' nL' (some ty) as.length) (hin : Cond.instanceMethod yy ∈ gtbl) (hse : Cond.selects yy.cls yy yy ∈ gtbl) (hroom : fr + 1 ≤ M.2.2.1 ∧ 8 + (nL' + 11) + lo ≤ M.2.2.2.1) (hcat : (st.map gCat).sum ≤ 8) (hsh : gsh a = .inr ci) (hci : gcls[ci]? = some (yy.cls, T, N)) (hi : a ∈ zL (xZ X))
    (hc : ∀ o1, gRg h → gRl (.inr (.inr a) :: as) → fx = some o1 → gC (xZ X) yy cc' nL' (some ty) fr lo (.inr (.inr a) :: as) h o1) (k : ∀ h1 r, fx = some (h1, r) → gr (kk h1 r) o M X h1 pc' lv (.inl r :: st)) : gr (gb fx kk) o M X h pc lv stk := gr_callV hd pc' hp hst hy hin hse hroom hcat hsh hci hi hc k
theorem gr_callVv {o : gO} {M : gM} {X : gX} {h : gH} {pc : Nat} {lv : gL} {st : List gV} {idx fr lo nL' : Nat} {ci a N : Nat} {T : u_T} {yy : MethodName} {cc' : ByteArray}  {as stk : List gV} {fx : Option gO} {kk : gH → Int → Option gO} (hd : decode M.1 pc = .ok (.invokevirtual idx, 3)) (pc' : Nat) (hp : pc + 3 = pc') (hst : stk = as.reverse ++ .inr (.inr a) :: st) (hy : gCy M.2.1 idx yy cc' nL' none as.length) (hin : Cond.instanceMethod yy ∈ gtbl) (hse : Cond.selects yy.cls yy yy ∈ gtbl) (hroom : fr + 1 ≤ M.2.2.1 ∧ 8 + (nL' + 11) + lo ≤ M.2.2.2.1) (hcat : (st.map gCat).sum ≤ 8) (hsh : gsh a = .inr ci) (hci : gcls[ci]? = some (yy.cls, T, N)) (hi : a ∈ zL (xZ X))
    (hc : ∀ o1, gRg h → gRl (.inr (.inr a) :: as) → fx = some o1 → gC (xZ X) yy cc' nL' none fr lo (.inr (.inr a) :: as) h o1) (k : ∀ h1 r, fx = some (h1, r) → gr (kk h1 r) o M X h1 pc' lv (st)) : gr (gb fx kk) o M X h pc lv stk := gr_callV hd pc' hp hst hy hin hse hroom hcat hsh hci hi hc k
theorem gr_callSi {o : gO} {M : gM} {X : gX} {h : gH} {pc : Nat} {lv : gL} {st : List gV} {idx fr lo nL' : Nat}  {yy : MethodName} {cc' : ByteArray} {ty : FieldType} {as stk : List gV} {fx : Option gO} {kk : gH → Int → Option gO} (hd : decode M.1 pc = .ok (.invokestatic idx, 3)) (pc' : Nat) (hp : pc + 3 = pc') (hst : stk = as.reverse ++ st) (hy : gCy M.2.1 idx yy cc' nL' (some ty) as.length) (hin : Cond.static yy ∈ gtbl) (hroom : fr + 1 ≤ M.2.2.1 ∧ 8 + (nL' + 11) + lo ≤ M.2.2.2.1) (hcat : (st.map gCat).sum ≤ 8) 
    (hc : ∀ o1, gRg h → gRl (as) → fx = some o1 → gC (xZ X) yy cc' nL' (some ty) fr lo (as) h o1) (k : ∀ h1 r, fx = some (h1, r) → gr (kk h1 r) o M X h1 pc' lv (.inl r :: st)) : gr (gb fx kk) o M X h pc lv stk := gr_callS hd pc' hp hst hy hin hroom hcat hc k
theorem gr_callSv {o : gO} {M : gM} {X : gX} {h : gH} {pc : Nat} {lv : gL} {st : List gV} {idx fr lo nL' : Nat}  {yy : MethodName} {cc' : ByteArray}  {as stk : List gV} {fx : Option gO} {kk : gH → Int → Option gO} (hd : decode M.1 pc = .ok (.invokestatic idx, 3)) (pc' : Nat) (hp : pc + 3 = pc') (hst : stk = as.reverse ++ st) (hy : gCy M.2.1 idx yy cc' nL' none as.length) (hin : Cond.static yy ∈ gtbl) (hroom : fr + 1 ≤ M.2.2.1 ∧ 8 + (nL' + 11) + lo ≤ M.2.2.2.1) (hcat : (st.map gCat).sum ≤ 8) 
    (hc : ∀ o1, gRg h → gRl (as) → fx = some o1 → gC (xZ X) yy cc' nL' none fr lo (as) h o1) (k : ∀ h1 r, fx = some (h1, r) → gr (kk h1 r) o M X h1 pc' lv (st)) : gr (gb fx kk) o M X h pc lv stk := gr_callS hd pc' hp hst hy hin hroom hcat hc k
theorem gsh_0 : gsh 0 = .inr 6 := by decide +kernel
theorem gsh_1 : gsh 1 = .inr 0 := by decide +kernel
theorem gsh_2 : gsh 2 = .inl (0, 9) := by decide +kernel
theorem gsh_3 : gsh 3 = .inl (0, 9) := by decide +kernel
theorem gsh_4 : gsh 4 = .inl (0, 9) := by decide +kernel
theorem gsh_5 : gsh 5 = .inl (0, 9) := by decide +kernel
theorem gsh_6 : gsh 6 = .inl (0, 6) := by decide +kernel
theorem gsh_7 : gsh 7 = .inl (0, 6) := by decide +kernel
theorem gsh_8 : gsh 8 = .inl (0, 6) := by decide +kernel
theorem gsh_9 : gsh 9 = .inl (0, 6) := by decide +kernel
theorem gsh_10 : gsh 10 = .inl (0, 6) := by decide +kernel
theorem gsh_11 : gsh 11 = .inl (0, 49) := by decide +kernel
theorem gsh_12 : gsh 12 = .inl (0, 49) := by decide +kernel
theorem gsh_13 : gsh 13 = .inr 0 := by decide +kernel
theorem gsh_14 : gsh 14 = .inl (0, 9) := by decide +kernel
theorem gsh_15 : gsh 15 = .inl (0, 9) := by decide +kernel
theorem gsh_16 : gsh 16 = .inl (0, 9) := by decide +kernel
theorem gsh_17 : gsh 17 = .inl (0, 9) := by decide +kernel
theorem gsh_18 : gsh 18 = .inl (0, 6) := by decide +kernel
theorem gsh_19 : gsh 19 = .inl (0, 6) := by decide +kernel
theorem gsh_20 : gsh 20 = .inl (0, 6) := by decide +kernel
theorem gsh_21 : gsh 21 = .inl (0, 6) := by decide +kernel
theorem gsh_22 : gsh 22 = .inl (0, 6) := by decide +kernel
theorem gsh_23 : gsh 23 = .inl (0, 49) := by decide +kernel
theorem gsh_24 : gsh 24 = .inl (0, 49) := by decide +kernel
theorem gsh_25 : gsh 25 = .inr 2 := by decide +kernel
theorem gsh_26 : gsh 26 = .inl (0, 250) := by decide +kernel
theorem gsh_27 : gsh 27 = .inr 4 := by decide +kernel
theorem gsh_28 : gsh 28 = .inl (0, 9) := by decide +kernel
theorem gsh_29 : gsh 29 = .inl (0, 9) := by decide +kernel
theorem gsh_30 : gsh 30 = .inl (0, 9) := by decide +kernel
theorem gsh_31 : gsh 31 = .inl (0, 18) := by decide +kernel
theorem gsh_32 : gsh 32 = .inl (0, 6) := by decide +kernel
theorem gsh_33 : gsh 33 = .inl (0, 6) := by decide +kernel
theorem gsh_34 : gsh 34 = .inl (0, 6) := by decide +kernel
theorem gsh_35 : gsh 35 = .inl (0, 6) := by decide +kernel
theorem gsh_36 : gsh 36 = .inl (0, 6) := by decide +kernel
theorem gsh_37 : gsh 37 = .inr 4 := by decide +kernel
theorem gsh_38 : gsh 38 = .inl (0, 9) := by decide +kernel
theorem gsh_39 : gsh 39 = .inl (0, 9) := by decide +kernel
theorem gsh_40 : gsh 40 = .inl (0, 9) := by decide +kernel
theorem gsh_41 : gsh 41 = .inl (0, 18) := by decide +kernel
theorem gsh_42 : gsh 42 = .inl (0, 6) := by decide +kernel
theorem gsh_43 : gsh 43 = .inl (0, 6) := by decide +kernel
theorem gsh_44 : gsh 44 = .inl (0, 6) := by decide +kernel
theorem gsh_45 : gsh 45 = .inl (0, 6) := by decide +kernel
theorem gsh_46 : gsh 46 = .inl (0, 6) := by decide +kernel
theorem gsh_47 : gsh 47 = .inl (2, 2) := by decide +kernel
theorem gsh_48 : gsh 48 = .inr 4 := by decide +kernel
theorem gsh_49 : gsh 49 = .inl (0, 9) := by decide +kernel
theorem gsh_50 : gsh 50 = .inl (0, 9) := by decide +kernel
theorem gsh_51 : gsh 51 = .inl (0, 9) := by decide +kernel
theorem gsh_52 : gsh 52 = .inl (0, 18) := by decide +kernel
theorem gsh_53 : gsh 53 = .inl (0, 6) := by decide +kernel
theorem gsh_54 : gsh 54 = .inl (0, 6) := by decide +kernel
theorem gsh_55 : gsh 55 = .inl (0, 6) := by decide +kernel
theorem gsh_56 : gsh 56 = .inl (0, 6) := by decide +kernel
theorem gsh_57 : gsh 57 = .inl (0, 6) := by decide +kernel
theorem gsh_58 : gsh 58 = .inr 4 := by decide +kernel
theorem gsh_59 : gsh 59 = .inl (0, 9) := by decide +kernel
theorem gsh_60 : gsh 60 = .inl (0, 9) := by decide +kernel
theorem gsh_61 : gsh 61 = .inl (0, 9) := by decide +kernel
theorem gsh_62 : gsh 62 = .inl (0, 18) := by decide +kernel
theorem gsh_63 : gsh 63 = .inl (0, 6) := by decide +kernel
theorem gsh_64 : gsh 64 = .inl (0, 6) := by decide +kernel
theorem gsh_65 : gsh 65 = .inl (0, 6) := by decide +kernel
theorem gsh_66 : gsh 66 = .inl (0, 6) := by decide +kernel
theorem gsh_67 : gsh 67 = .inl (0, 6) := by decide +kernel
theorem gsh_68 : gsh 68 = .inl (1, 2) := by decide +kernel
theorem gsh_69 : gsh 69 = .inr 5 := by decide +kernel
theorem gsh_70 : gsh 70 = .inl (0, 7) := by decide +kernel
theorem gsh_71 : gsh 71 = .inl (0, 7) := by decide +kernel
theorem gsh_72 : gsh 72 = .inr 3 := by decide +kernel
theorem gsh_73 : gsh 73 = .inl (0, 6) := by decide +kernel
theorem gsh_74 : gsh 74 = .inl (0, 6) := by decide +kernel
theorem gsh_75 : gsh 75 = .inr 1 := by decide +kernel
theorem gsh_76 : gsh 76 = .inl (0, 8) := by decide +kernel
theorem gsh_77 : gsh 77 = .inl (0, 8) := by decide +kernel
theorem gsh_78 : gsh 78 = .inl (0, 8) := by decide +kernel
theorem gsh_79 : gsh 79 = .inr 1 := by decide +kernel
theorem gsh_80 : gsh 80 = .inl (0, 15) := by decide +kernel
theorem gsh_81 : gsh 81 = .inl (0, 15) := by decide +kernel
theorem gsh_82 : gsh 82 = .inl (0, 15) := by decide +kernel
theorem gsh_83 : gsh 83 = .inr 7 := by decide +kernel
theorem gsh_84 : gsh 84 = .inl (0, 9) := by decide +kernel
theorem gsh_85 : gsh 85 = .inl (0, 9) := by decide +kernel
theorem gsh_86 : gsh 86 = .inl (0, 9) := by decide +kernel
theorem gsh_87 : gsh 87 = .inl (0, 6) := by decide +kernel
theorem gsh_88 : gsh 88 = .inl (0, 6) := by decide +kernel
theorem gsh_89 : gsh 89 = .inl (0, 6) := by decide +kernel
theorem gsh_90 : gsh 90 = .inl (0, 6) := by decide +kernel
theorem gsh_91 : gsh 91 = .inl (0, 49) := by decide +kernel
theorem gsh_92 : gsh 92 = .inl (0, 50) := by decide +kernel
theorem gsh_93 : gsh 93 = .inl (0, 250) := by decide +kernel
theorem gsh_94 : gsh 94 = .inl (0, 2) := by decide +kernel
theorem gsh_95 : gsh 95 = .inl (0, 9) := by decide +kernel
theorem gsh_96 : gsh 96 = .inl (0, 9) := by decide +kernel
theorem gsh_97 : gsh 97 = .inl (0, 9) := by decide +kernel
theorem gsh_98 : gsh 98 = .inl (0, 9) := by decide +kernel
theorem gsh_99 : gsh 99 = .inl (0, 6) := by decide +kernel
theorem gsh_100 : gsh 100 = .inl (0, 6) := by decide +kernel
theorem gsh_101 : gsh 101 = .inl (0, 6) := by decide +kernel
theorem gsh_102 : gsh 102 = .inl (0, 6) := by decide +kernel
theorem gsh_103 : gsh 103 = .inl (0, 6) := by decide +kernel
theorem gsh_104 : gsh 104 = .inl (0, 50) := by decide +kernel
theorem gsh_105 : gsh 105 = .inl (0, 7) := by decide +kernel
theorem gsh_106 : gsh 106 = .inl (0, 2107) := by decide +kernel
theorem gsh_107 : gsh 107 = .inl (0, 6) := by decide +kernel
theorem gsh_108 : gsh 108 = .inl (0, 6) := by decide +kernel
theorem gsh_109 : gsh 109 = .inl (0, 8) := by decide +kernel
theorem gsh_110 : gsh 110 = .inl (0, 8) := by decide +kernel
theorem gsh_111 : gsh 111 = .inl (0, 8) := by decide +kernel
theorem gsh_112 : gsh 112 = .inl (0, 15) := by decide +kernel
theorem gsh_113 : gsh 113 = .inl (0, 15) := by decide +kernel
theorem gsh_114 : gsh 114 = .inl (0, 102) := by decide +kernel
theorem gsh_115 : gsh 115 = .inl (1, 2) := by decide +kernel
theorem gsC_1 {t : Nat} (ht : gsh t = .inr 0) : gsh (t + 1) = .inl (0, 9) := by
  have q : ∀ t, t < gN → gsh t = .inr 0 → gsh (t + 1) = .inl (0, 9) := by decide +kernel
  exact q t (gsh_lt ht (by intro z; cases z)) ht
theorem gsC_2 {t : Nat} (ht : gsh t = .inr 0) : gsh (t + 2) = .inl (0, 9) := by
  have q : ∀ t, t < gN → gsh t = .inr 0 → gsh (t + 2) = .inl (0, 9) := by decide +kernel
  exact q t (gsh_lt ht (by intro z; cases z)) ht
theorem gsC_3 {t : Nat} (ht : gsh t = .inr 0) : gsh (t + 3) = .inl (0, 9) := by
  have q : ∀ t, t < gN → gsh t = .inr 0 → gsh (t + 3) = .inl (0, 9) := by decide +kernel
  exact q t (gsh_lt ht (by intro z; cases z)) ht
theorem gsC_4 {t : Nat} (ht : gsh t = .inr 0) : gsh (t + 4) = .inl (0, 9) := by
  have q : ∀ t, t < gN → gsh t = .inr 0 → gsh (t + 4) = .inl (0, 9) := by decide +kernel
  exact q t (gsh_lt ht (by intro z; cases z)) ht
theorem gsC_5 {t : Nat} (ht : gsh t = .inr 0) : gsh (t + 5) = .inl (0, 6) := by
  have q : ∀ t, t < gN → gsh t = .inr 0 → gsh (t + 5) = .inl (0, 6) := by decide +kernel
  exact q t (gsh_lt ht (by intro z; cases z)) ht
theorem gsC_6 {t : Nat} (ht : gsh t = .inr 0) : gsh (t + 6) = .inl (0, 6) := by
  have q : ∀ t, t < gN → gsh t = .inr 0 → gsh (t + 6) = .inl (0, 6) := by decide +kernel
  exact q t (gsh_lt ht (by intro z; cases z)) ht
theorem gsC_7 {t : Nat} (ht : gsh t = .inr 0) : gsh (t + 7) = .inl (0, 6) := by
  have q : ∀ t, t < gN → gsh t = .inr 0 → gsh (t + 7) = .inl (0, 6) := by decide +kernel
  exact q t (gsh_lt ht (by intro z; cases z)) ht
theorem gsC_8 {t : Nat} (ht : gsh t = .inr 0) : gsh (t + 8) = .inl (0, 6) := by
  have q : ∀ t, t < gN → gsh t = .inr 0 → gsh (t + 8) = .inl (0, 6) := by decide +kernel
  exact q t (gsh_lt ht (by intro z; cases z)) ht
theorem gsC_9 {t : Nat} (ht : gsh t = .inr 0) : gsh (t + 9) = .inl (0, 6) := by
  have q : ∀ t, t < gN → gsh t = .inr 0 → gsh (t + 9) = .inl (0, 6) := by decide +kernel
  exact q t (gsh_lt ht (by intro z; cases z)) ht
theorem gsC_10 {t : Nat} (ht : gsh t = .inr 0) : gsh (t + 10) = .inl (0, 49) := by
  have q : ∀ t, t < gN → gsh t = .inr 0 → gsh (t + 10) = .inl (0, 49) := by decide +kernel
  exact q t (gsh_lt ht (by intro z; cases z)) ht
theorem gsC_11 {t : Nat} (ht : gsh t = .inr 0) : gsh (t + 11) = .inl (0, 49) := by
  have q : ∀ t, t < gN → gsh t = .inr 0 → gsh (t + 11) = .inl (0, 49) := by decide +kernel
  exact q t (gsh_lt ht (by intro z; cases z)) ht
theorem gsT_1 {t : Nat} (ht : gsh t = .inr 4) : gsh (t + 1) = .inl (0, 9) := by
  have q : ∀ t, t < gN → gsh t = .inr 4 → gsh (t + 1) = .inl (0, 9) := by decide +kernel
  exact q t (gsh_lt ht (by intro z; cases z)) ht
theorem gsT_2 {t : Nat} (ht : gsh t = .inr 4) : gsh (t + 2) = .inl (0, 9) := by
  have q : ∀ t, t < gN → gsh t = .inr 4 → gsh (t + 2) = .inl (0, 9) := by decide +kernel
  exact q t (gsh_lt ht (by intro z; cases z)) ht
theorem gsT_3 {t : Nat} (ht : gsh t = .inr 4) : gsh (t + 3) = .inl (0, 9) := by
  have q : ∀ t, t < gN → gsh t = .inr 4 → gsh (t + 3) = .inl (0, 9) := by decide +kernel
  exact q t (gsh_lt ht (by intro z; cases z)) ht
theorem gsT_4 {t : Nat} (ht : gsh t = .inr 4) : gsh (t + 4) = .inl (0, 18) := by
  have q : ∀ t, t < gN → gsh t = .inr 4 → gsh (t + 4) = .inl (0, 18) := by decide +kernel
  exact q t (gsh_lt ht (by intro z; cases z)) ht
theorem gsT_5 {t : Nat} (ht : gsh t = .inr 4) : gsh (t + 5) = .inl (0, 6) := by
  have q : ∀ t, t < gN → gsh t = .inr 4 → gsh (t + 5) = .inl (0, 6) := by decide +kernel
  exact q t (gsh_lt ht (by intro z; cases z)) ht
theorem gsT_6 {t : Nat} (ht : gsh t = .inr 4) : gsh (t + 6) = .inl (0, 6) := by
  have q : ∀ t, t < gN → gsh t = .inr 4 → gsh (t + 6) = .inl (0, 6) := by decide +kernel
  exact q t (gsh_lt ht (by intro z; cases z)) ht
theorem gsT_7 {t : Nat} (ht : gsh t = .inr 4) : gsh (t + 7) = .inl (0, 6) := by
  have q : ∀ t, t < gN → gsh t = .inr 4 → gsh (t + 7) = .inl (0, 6) := by decide +kernel
  exact q t (gsh_lt ht (by intro z; cases z)) ht
theorem gsT_8 {t : Nat} (ht : gsh t = .inr 4) : gsh (t + 8) = .inl (0, 6) := by
  have q : ∀ t, t < gN → gsh t = .inr 4 → gsh (t + 8) = .inl (0, 6) := by decide +kernel
  exact q t (gsh_lt ht (by intro z; cases z)) ht
theorem gsT_9 {t : Nat} (ht : gsh t = .inr 4) : gsh (t + 9) = .inl (0, 6) := by
  have q : ∀ t, t < gN → gsh t = .inr 4 → gsh (t + 9) = .inl (0, 6) := by decide +kernel
  exact q t (gsh_lt ht (by intro z; cases z)) ht
theorem gsN_1 {t : Nat} (ht : gsh t = .inr 1) : gia (t + 1) = true := by
  have q : ∀ t, t < gN → gsh t = .inr 1 → gia (t + 1) = true := by decide +kernel
  exact q t (gsh_lt ht (by intro z; cases z)) ht
theorem gsN_2 {t : Nat} (ht : gsh t = .inr 1) : gia (t + 2) = true := by
  have q : ∀ t, t < gN → gsh t = .inr 1 → gia (t + 2) = true := by decide +kernel
  exact q t (gsh_lt ht (by intro z; cases z)) ht
theorem gsN_3 {t : Nat} (ht : gsh t = .inr 1) : gia (t + 3) = true := by
  have q : ∀ t, t < gN → gsh t = .inr 1 → gia (t + 3) = true := by decide +kernel
  exact q t (gsh_lt ht (by intro z; cases z)) ht
end
section
-- City_clear
theorem dq_City_clear_0 : decode gc_City_clear 0 = .ok (.aload_n 0, 1) := by decide +kernel
theorem dq_City_clear_1 : decode gc_City_clear 1 = .ok (.iconst 0, 1) := by decide +kernel
theorem dq_City_clear_2 : decode gc_City_clear 2 = .ok (.putfield 45, 3) := by decide +kernel
theorem dq_City_clear_5 : decode gc_City_clear 5 = .ok (.aload_n 0, 1) := by decide +kernel
theorem dq_City_clear_6 : decode gc_City_clear 6 = .ok (.iconst 0, 1) := by decide +kernel
theorem dq_City_clear_7 : decode gc_City_clear 7 = .ok (.putfield 49, 3) := by decide +kernel
theorem dq_City_clear_10 : decode gc_City_clear 10 = .ok (.aload_n 0, 1) := by decide +kernel
theorem dq_City_clear_11 : decode gc_City_clear 11 = .ok (.iconst 0, 1) := by decide +kernel
theorem dq_City_clear_12 : decode gc_City_clear 12 = .ok (.putfield 52, 3) := by decide +kernel
theorem dq_City_clear_15 : decode gc_City_clear 15 = .ok (.aload_n 0, 1) := by decide +kernel
theorem dq_City_clear_16 : decode gc_City_clear 16 = .ok (.iconst 0, 1) := by decide +kernel
theorem dq_City_clear_17 : decode gc_City_clear 17 = .ok (.putfield 55, 3) := by decide +kernel
theorem dq_City_clear_20 : decode gc_City_clear 20 = .ok (.return_, 1) := by decide +kernel
abbrev gm_City_clear : gM := (gc_City_clear, gR_0, 0, 0, 1)
theorem gfp_City_45 : gFp gR_0 45 0 0 .int := ⟨_, _, _, gt_0, rfl, by decide, (gtab_at 26 (by decide +kernel) rfl), gin_0, gto_0, gnm_0, rfl, by decide +kernel⟩
theorem gfp_City_49 : gFp gR_0 49 0 1 .int := ⟨_, _, _, gt_0, rfl, by decide, (gtab_at 29 (by decide +kernel) rfl), gin_0, gto_0, gnm_0, rfl, by decide +kernel⟩
theorem gfp_City_52 : gFp gR_0 52 0 2 .int := ⟨_, _, _, gt_0, rfl, by decide, (gtab_at 34 (by decide +kernel) rfl), gin_0, gto_0, gnm_0, rfl, by decide +kernel⟩
theorem gfp_City_55 : gFp gR_0 55 0 3 .int := ⟨_, _, _, gt_0, rfl, by decide, (gtab_at 39 (by decide +kernel) rfl), gin_0, gto_0, gnm_0, rfl, by decide +kernel⟩
def f_City_clear (t : Nat) (h : gH) : Option gO := gs (gup h t 0 0) (fun h1 => gs (gup h1 t 1 0) (fun h2 => gs (gup h2 t 2 0) (fun h3 => gs (gup h3 t 3 0) (fun h4 => some (h4, 0)))))
theorem c_City_clear {Z : gZ} (hL : gLive Z) (hn : (zL Z).Nodup) {t : Nat} (ht : gsh t = .inr 0) {h : gH} {o : gO} (hg : gRg h) (ha : gRl [.inr (.inr t)]) (hx : f_City_clear t h = some o) : gC Z gy_City_clear gc_City_clear 1 none 0 0 [.inr (.inr t)] h o := by
  unfold f_City_clear at hx
  refine gC_of (lv := [(0, .inr (.inr t))]) (own := gR_0) (by decide +kernel) rfl (Nat.le_of_ble_eq_true rfl) rfl rfl hn hg ha hx (fun X hZ hF => ?_)
  subst hZ
  show gr _ o gm_City_clear X h 0 _ _
  refine gr_aload_n (M := gm_City_clear) dq_City_clear_0 rfl 0 rfl 1 rfl ?_
  refine gr_iconst (M := gm_City_clear) (v := 0) dq_City_clear_1 rfl ⟨by decide, by decide⟩ 2 rfl ?_
  refine gr_puti (M := gm_City_clear) dq_City_clear_2 5 rfl gfp_City_45 ht rfl (gli hL ht) (fun h1 _ => ?_)
  refine gr_aload_n (M := gm_City_clear) dq_City_clear_5 rfl 0 rfl 6 rfl ?_
  refine gr_iconst (M := gm_City_clear) (v := 0) dq_City_clear_6 rfl ⟨by decide, by decide⟩ 7 rfl ?_
  refine gr_puti (M := gm_City_clear) dq_City_clear_7 10 rfl gfp_City_49 ht rfl (gli hL ht) (fun h2 _ => ?_)
  refine gr_aload_n (M := gm_City_clear) dq_City_clear_10 rfl 0 rfl 11 rfl ?_
  refine gr_iconst (M := gm_City_clear) (v := 0) dq_City_clear_11 rfl ⟨by decide, by decide⟩ 12 rfl ?_
  refine gr_puti (M := gm_City_clear) dq_City_clear_12 15 rfl gfp_City_52 ht rfl (gli hL ht) (fun h3 _ => ?_)
  refine gr_aload_n (M := gm_City_clear) dq_City_clear_15 rfl 0 rfl 16 rfl ?_
  refine gr_iconst (M := gm_City_clear) (v := 0) dq_City_clear_16 rfl ⟨by decide, by decide⟩ 17 rfl ?_
  refine gr_puti (M := gm_City_clear) dq_City_clear_17 20 rfl gfp_City_55 ht rfl (gli hL ht) (fun h4 _ => ?_)
  exact gr_return (M := gm_City_clear) dq_City_clear_20 hF

-- City_distance
theorem dq_City_distance_0 : decode gc_City_distance 0 = .ok (.aload_n 0, 1) := by decide +kernel
theorem dq_City_distance_1 : decode gc_City_distance 1 = .ok (.getfield 39, 3) := by decide +kernel
theorem dq_City_distance_4 : decode gc_City_distance 4 = .ok (.iload_n 1, 1) := by decide +kernel
theorem dq_City_distance_5 : decode gc_City_distance 5 = .ok (.bipush 7, 2) := by decide +kernel
theorem dq_City_distance_7 : decode gc_City_distance 7 = .ok (.imul, 1) := by decide +kernel
theorem dq_City_distance_8 : decode gc_City_distance 8 = .ok (.iload_n 2, 1) := by decide +kernel
theorem dq_City_distance_9 : decode gc_City_distance 9 = .ok (.iadd, 1) := by decide +kernel
theorem dq_City_distance_10 : decode gc_City_distance 10 = .ok (.iaload, 1) := by decide +kernel
theorem dq_City_distance_11 : decode gc_City_distance 11 = .ok (.ireturn, 1) := by decide +kernel
abbrev gm_City_distance : gM := (gc_City_distance, gR_0, 0, 0, 3)
theorem gfl_City_39 : gFl gR_0 39 0 13 := ⟨_, _, _, rfl, by decide, (gtab_at 81 (by decide +kernel) rfl), gin_0⟩
def f_City_distance (t : Nat) (a1 : Int) (a2 : Int) (h : gH) : Option gO := gd (gix 49 (gadd (gmul a1 7) a2)) (some (h, (h (t + 10) (gadd (gmul a1 7) a2).toNat)))
theorem c_City_distance {Z : gZ} (hL : gLive Z) (hn : (zL Z).Nodup) {t : Nat} {a1 : Int} {a2 : Int} (ht : gsh t = .inr 0) {h : gH} {o : gO} (hg : gRg h) (ha : gRl [.inr (.inr t), .inl a1, .inl a2]) (hx : f_City_distance t a1 a2 h = some o) : gC Z gy_City_distance gc_City_distance 3 (some .int) 0 0 [.inr (.inr t), .inl a1, .inl a2] h o := by
  unfold f_City_distance at hx
  refine gC_of (lv := [(0, .inr (.inr t)), (1, .inl a1), (2, .inl a2)]) (own := gR_0) (by decide +kernel) rfl (Nat.le_of_ble_eq_true rfl) rfl rfl hn hg ha hx (fun X hZ hF => ?_)
  subst hZ
  show gr _ o gm_City_distance X h 0 _ _
  refine gr_aload_n (M := gm_City_distance) dq_City_distance_0 rfl 0 rfl 1 rfl ?_
  refine gr_getr (M := gm_City_distance) dq_City_distance_1 4 rfl gfl_City_39 ht rfl (gli hL ht) (t + 10) rfl ?_
  refine gr_iload_n (M := gm_City_distance) dq_City_distance_4 rfl 1 rfl 5 rfl ?_
  refine gr_bipush (M := gm_City_distance) (v := 7) dq_City_distance_5 (by decide) ⟨by decide, by decide⟩ 7 rfl ?_
  refine gr_imul (M := gm_City_distance) dq_City_distance_7 8 rfl ?_
  refine gr_iload_n (M := gm_City_distance) dq_City_distance_8 rfl 2 rfl 9 rfl ?_
  refine gr_iadd (M := gm_City_distance) dq_City_distance_9 10 rfl ?_
  refine gr_iald (M := gm_City_distance) dq_City_distance_10 11 rfl (gsC_10 ht) (glj hL (gsC_10 ht) (by decide)) ?_
  exact gr_ireturn (M := gm_City_distance) dq_City_distance_11 hF

-- City_nextStreet
theorem dq_City_nextStreet_0 : decode gc_City_nextStreet 0 = .ok (.aload_n 0, 1) := by decide +kernel
theorem dq_City_nextStreet_1 : decode gc_City_nextStreet 1 = .ok (.getfield 42, 3) := by decide +kernel
theorem dq_City_nextStreet_4 : decode gc_City_nextStreet 4 = .ok (.iload_n 1, 1) := by decide +kernel
theorem dq_City_nextStreet_5 : decode gc_City_nextStreet 5 = .ok (.bipush 7, 2) := by decide +kernel
theorem dq_City_nextStreet_7 : decode gc_City_nextStreet 7 = .ok (.imul, 1) := by decide +kernel
theorem dq_City_nextStreet_8 : decode gc_City_nextStreet 8 = .ok (.iload_n 2, 1) := by decide +kernel
theorem dq_City_nextStreet_9 : decode gc_City_nextStreet 9 = .ok (.iadd, 1) := by decide +kernel
theorem dq_City_nextStreet_10 : decode gc_City_nextStreet 10 = .ok (.iaload, 1) := by decide +kernel
theorem dq_City_nextStreet_11 : decode gc_City_nextStreet 11 = .ok (.ireturn, 1) := by decide +kernel
abbrev gm_City_nextStreet : gM := (gc_City_nextStreet, gR_0, 0, 0, 3)
theorem gfl_City_42 : gFl gR_0 42 0 14 := ⟨_, _, _, rfl, by decide, (gtab_at 82 (by decide +kernel) rfl), gin_0⟩
def f_City_nextStreet (t : Nat) (a1 : Int) (a2 : Int) (h : gH) : Option gO := gd (gix 49 (gadd (gmul a1 7) a2)) (some (h, (h (t + 11) (gadd (gmul a1 7) a2).toNat)))
theorem c_City_nextStreet {Z : gZ} (hL : gLive Z) (hn : (zL Z).Nodup) {t : Nat} {a1 : Int} {a2 : Int} (ht : gsh t = .inr 0) {h : gH} {o : gO} (hg : gRg h) (ha : gRl [.inr (.inr t), .inl a1, .inl a2]) (hx : f_City_nextStreet t a1 a2 h = some o) : gC Z gy_City_nextStreet gc_City_nextStreet 3 (some .int) 0 0 [.inr (.inr t), .inl a1, .inl a2] h o := by
  unfold f_City_nextStreet at hx
  refine gC_of (lv := [(0, .inr (.inr t)), (1, .inl a1), (2, .inl a2)]) (own := gR_0) (by decide +kernel) rfl (Nat.le_of_ble_eq_true rfl) rfl rfl hn hg ha hx (fun X hZ hF => ?_)
  subst hZ
  show gr _ o gm_City_nextStreet X h 0 _ _
  refine gr_aload_n (M := gm_City_nextStreet) dq_City_nextStreet_0 rfl 0 rfl 1 rfl ?_
  refine gr_getr (M := gm_City_nextStreet) dq_City_nextStreet_1 4 rfl gfl_City_42 ht rfl (gli hL ht) (t + 11) rfl ?_
  refine gr_iload_n (M := gm_City_nextStreet) dq_City_nextStreet_4 rfl 1 rfl 5 rfl ?_
  refine gr_bipush (M := gm_City_nextStreet) (v := 7) dq_City_nextStreet_5 (by decide) ⟨by decide, by decide⟩ 7 rfl ?_
  refine gr_imul (M := gm_City_nextStreet) dq_City_nextStreet_7 8 rfl ?_
  refine gr_iload_n (M := gm_City_nextStreet) dq_City_nextStreet_8 rfl 2 rfl 9 rfl ?_
  refine gr_iadd (M := gm_City_nextStreet) dq_City_nextStreet_9 10 rfl ?_
  refine gr_iald (M := gm_City_nextStreet) dq_City_nextStreet_10 11 rfl (gsC_11 ht) (glj hL (gsC_11 ht) (by decide)) ?_
  exact gr_ireturn (M := gm_City_nextStreet) dq_City_nextStreet_11 hF

-- City_otherEnd
theorem dq_City_otherEnd_0 : decode gc_City_otherEnd 0 = .ok (.aload_n 0, 1) := by decide +kernel
theorem dq_City_otherEnd_1 : decode gc_City_otherEnd 1 = .ok (.getfield 11, 3) := by decide +kernel
theorem dq_City_otherEnd_4 : decode gc_City_otherEnd 4 = .ok (.iload_n 1, 1) := by decide +kernel
theorem dq_City_otherEnd_5 : decode gc_City_otherEnd 5 = .ok (.iaload, 1) := by decide +kernel
theorem dq_City_otherEnd_6 : decode gc_City_otherEnd 6 = .ok (.iload_n 2, 1) := by decide +kernel
theorem dq_City_otherEnd_7 : decode gc_City_otherEnd 7 = .ok (.if_icmp .ne 10, 3) := by decide +kernel
theorem dq_City_otherEnd_10 : decode gc_City_otherEnd 10 = .ok (.aload_n 0, 1) := by decide +kernel
theorem dq_City_otherEnd_11 : decode gc_City_otherEnd 11 = .ok (.getfield 15, 3) := by decide +kernel
theorem dq_City_otherEnd_14 : decode gc_City_otherEnd 14 = .ok (.iload_n 1, 1) := by decide +kernel
theorem dq_City_otherEnd_15 : decode gc_City_otherEnd 15 = .ok (.iaload, 1) := by decide +kernel
theorem dq_City_otherEnd_16 : decode gc_City_otherEnd 16 = .ok (.ireturn, 1) := by decide +kernel
theorem dq_City_otherEnd_17 : decode gc_City_otherEnd 17 = .ok (.aload_n 0, 1) := by decide +kernel
theorem dq_City_otherEnd_18 : decode gc_City_otherEnd 18 = .ok (.getfield 15, 3) := by decide +kernel
theorem dq_City_otherEnd_21 : decode gc_City_otherEnd 21 = .ok (.iload_n 1, 1) := by decide +kernel
theorem dq_City_otherEnd_22 : decode gc_City_otherEnd 22 = .ok (.iaload, 1) := by decide +kernel
theorem dq_City_otherEnd_23 : decode gc_City_otherEnd 23 = .ok (.iload_n 2, 1) := by decide +kernel
theorem dq_City_otherEnd_24 : decode gc_City_otherEnd 24 = .ok (.if_icmp .ne 12, 3) := by decide +kernel
theorem dq_City_otherEnd_27 : decode gc_City_otherEnd 27 = .ok (.aload_n 0, 1) := by decide +kernel
theorem dq_City_otherEnd_28 : decode gc_City_otherEnd 28 = .ok (.getfield 11, 3) := by decide +kernel
theorem dq_City_otherEnd_31 : decode gc_City_otherEnd 31 = .ok (.iload_n 1, 1) := by decide +kernel
theorem dq_City_otherEnd_32 : decode gc_City_otherEnd 32 = .ok (.iaload, 1) := by decide +kernel
theorem dq_City_otherEnd_33 : decode gc_City_otherEnd 33 = .ok (.goto 4, 3) := by decide +kernel
theorem dq_City_otherEnd_36 : decode gc_City_otherEnd 36 = .ok (.iconst (-1), 1) := by decide +kernel
theorem dq_City_otherEnd_37 : decode gc_City_otherEnd 37 = .ok (.ireturn, 1) := by decide +kernel
abbrev gm_City_otherEnd : gM := (gc_City_otherEnd, gR_0, 0, 0, 3)
theorem gfl_City_11 : gFl gR_0 11 0 4 := ⟨_, _, _, rfl, by decide, (gtab_at 44 (by decide +kernel) rfl), gin_0⟩
theorem gfl_City_15 : gFl gR_0 15 0 5 := ⟨_, _, _, rfl, by decide, (gtab_at 49 (by decide +kernel) rfl), gin_0⟩
def f_City_otherEnd (t : Nat) (a1 : Int) (a2 : Int) (h : gH) : Option gO := gd (gix 9 a1) (if (h (t + 1) a1.toNat) = a2 then (gd (gix 9 a1) (some (h, (h (t + 2) a1.toNat)))) else (gd (gix 9 a1) (if (h (t + 2) a1.toNat) = a2 then (gd (gix 9 a1) (some (h, (h (t + 1) a1.toNat)))) else (some (h, (-1))))))
theorem c_City_otherEnd {Z : gZ} (hL : gLive Z) (hn : (zL Z).Nodup) {t : Nat} {a1 : Int} {a2 : Int} (ht : gsh t = .inr 0) {h : gH} {o : gO} (hg : gRg h) (ha : gRl [.inr (.inr t), .inl a1, .inl a2]) (hx : f_City_otherEnd t a1 a2 h = some o) : gC Z gy_City_otherEnd gc_City_otherEnd 3 (some .int) 0 0 [.inr (.inr t), .inl a1, .inl a2] h o := by
  unfold f_City_otherEnd at hx
  refine gC_of (lv := [(0, .inr (.inr t)), (1, .inl a1), (2, .inl a2)]) (own := gR_0) (by decide +kernel) rfl (Nat.le_of_ble_eq_true rfl) rfl rfl hn hg ha hx (fun X hZ hF => ?_)
  subst hZ
  show gr _ o gm_City_otherEnd X h 0 _ _
  refine gr_aload_n (M := gm_City_otherEnd) dq_City_otherEnd_0 rfl 0 rfl 1 rfl ?_
  refine gr_getr (M := gm_City_otherEnd) dq_City_otherEnd_1 4 rfl gfl_City_11 ht rfl (gli hL ht) (t + 1) rfl ?_
  refine gr_iload_n (M := gm_City_otherEnd) dq_City_otherEnd_4 rfl 1 rfl 5 rfl ?_
  refine gr_iald (M := gm_City_otherEnd) dq_City_otherEnd_5 6 rfl (gsC_1 ht) (glj hL (gsC_1 ht) (by decide)) ?_
  refine gr_iload_n (M := gm_City_otherEnd) dq_City_otherEnd_6 rfl 2 rfl 7 rfl ?_
  refine gr_icmp_ne (M := gm_City_otherEnd) dq_City_otherEnd_7 17 10 rfl rfl (fun c1 => ?_) (fun c1 => ?_)
  · refine gr_aload_n (M := gm_City_otherEnd) dq_City_otherEnd_17 rfl 0 rfl 18 rfl ?_
    refine gr_getr (M := gm_City_otherEnd) dq_City_otherEnd_18 21 rfl gfl_City_15 ht rfl (gli hL ht) (t + 2) rfl ?_
    refine gr_iload_n (M := gm_City_otherEnd) dq_City_otherEnd_21 rfl 1 rfl 22 rfl ?_
    refine gr_iald (M := gm_City_otherEnd) dq_City_otherEnd_22 23 rfl (gsC_2 ht) (glj hL (gsC_2 ht) (by decide)) ?_
    refine gr_iload_n (M := gm_City_otherEnd) dq_City_otherEnd_23 rfl 2 rfl 24 rfl ?_
    refine gr_icmp_ne (M := gm_City_otherEnd) dq_City_otherEnd_24 36 27 rfl rfl (fun c2 => ?_) (fun c2 => ?_)
    · refine gr_iconst (M := gm_City_otherEnd) (v := (-1)) dq_City_otherEnd_36 rfl ⟨by decide, by decide⟩ 37 rfl ?_
      exact gr_ireturn (M := gm_City_otherEnd) dq_City_otherEnd_37 hF
    refine gr_aload_n (M := gm_City_otherEnd) dq_City_otherEnd_27 rfl 0 rfl 28 rfl ?_
    refine gr_getr (M := gm_City_otherEnd) dq_City_otherEnd_28 31 rfl gfl_City_11 ht rfl (gli hL ht) (t + 1) rfl ?_
    refine gr_iload_n (M := gm_City_otherEnd) dq_City_otherEnd_31 rfl 1 rfl 32 rfl ?_
    refine gr_iald (M := gm_City_otherEnd) dq_City_otherEnd_32 33 rfl (gsC_1 ht) (glj hL (gsC_1 ht) (by decide)) ?_
    refine gr_goto (M := gm_City_otherEnd) dq_City_otherEnd_33 37 rfl ?_
    exact gr_ireturn (M := gm_City_otherEnd) dq_City_otherEnd_37 hF
  refine gr_aload_n (M := gm_City_otherEnd) dq_City_otherEnd_10 rfl 0 rfl 11 rfl ?_
  refine gr_getr (M := gm_City_otherEnd) dq_City_otherEnd_11 14 rfl gfl_City_15 ht rfl (gli hL ht) (t + 2) rfl ?_
  refine gr_iload_n (M := gm_City_otherEnd) dq_City_otherEnd_14 rfl 1 rfl 15 rfl ?_
  refine gr_iald (M := gm_City_otherEnd) dq_City_otherEnd_15 16 rfl (gsC_2 ht) (glj hL (gsC_2 ht) (by decide)) ?_
  exact gr_ireturn (M := gm_City_otherEnd) dq_City_otherEnd_16 hF

-- City_sideOf
theorem dq_City_sideOf_0 : decode gc_City_sideOf 0 = .ok (.aload_n 0, 1) := by decide +kernel
theorem dq_City_sideOf_1 : decode gc_City_sideOf 1 = .ok (.getfield 11, 3) := by decide +kernel
theorem dq_City_sideOf_4 : decode gc_City_sideOf 4 = .ok (.iload_n 1, 1) := by decide +kernel
theorem dq_City_sideOf_5 : decode gc_City_sideOf 5 = .ok (.iaload, 1) := by decide +kernel
theorem dq_City_sideOf_6 : decode gc_City_sideOf 6 = .ok (.iload_n 2, 1) := by decide +kernel
theorem dq_City_sideOf_7 : decode gc_City_sideOf 7 = .ok (.if_icmp .ne 7, 3) := by decide +kernel
theorem dq_City_sideOf_10 : decode gc_City_sideOf 10 = .ok (.iconst 0, 1) := by decide +kernel
theorem dq_City_sideOf_11 : decode gc_City_sideOf 11 = .ok (.goto 4, 3) := by decide +kernel
theorem dq_City_sideOf_14 : decode gc_City_sideOf 14 = .ok (.iconst 1, 1) := by decide +kernel
theorem dq_City_sideOf_15 : decode gc_City_sideOf 15 = .ok (.ireturn, 1) := by decide +kernel
abbrev gm_City_sideOf : gM := (gc_City_sideOf, gR_0, 0, 0, 3)
def f_City_sideOf (t : Nat) (a1 : Int) (a2 : Int) (h : gH) : Option gO := gd (gix 9 a1) (if (h (t + 1) a1.toNat) = a2 then (some (h, 0)) else (some (h, 1)))
theorem c_City_sideOf {Z : gZ} (hL : gLive Z) (hn : (zL Z).Nodup) {t : Nat} {a1 : Int} {a2 : Int} (ht : gsh t = .inr 0) {h : gH} {o : gO} (hg : gRg h) (ha : gRl [.inr (.inr t), .inl a1, .inl a2]) (hx : f_City_sideOf t a1 a2 h = some o) : gC Z gy_City_sideOf gc_City_sideOf 3 (some .int) 0 0 [.inr (.inr t), .inl a1, .inl a2] h o := by
  unfold f_City_sideOf at hx
  refine gC_of (lv := [(0, .inr (.inr t)), (1, .inl a1), (2, .inl a2)]) (own := gR_0) (by decide +kernel) rfl (Nat.le_of_ble_eq_true rfl) rfl rfl hn hg ha hx (fun X hZ hF => ?_)
  subst hZ
  show gr _ o gm_City_sideOf X h 0 _ _
  refine gr_aload_n (M := gm_City_sideOf) dq_City_sideOf_0 rfl 0 rfl 1 rfl ?_
  refine gr_getr (M := gm_City_sideOf) dq_City_sideOf_1 4 rfl gfl_City_11 ht rfl (gli hL ht) (t + 1) rfl ?_
  refine gr_iload_n (M := gm_City_sideOf) dq_City_sideOf_4 rfl 1 rfl 5 rfl ?_
  refine gr_iald (M := gm_City_sideOf) dq_City_sideOf_5 6 rfl (gsC_1 ht) (glj hL (gsC_1 ht) (by decide)) ?_
  refine gr_iload_n (M := gm_City_sideOf) dq_City_sideOf_6 rfl 2 rfl 7 rfl ?_
  refine gr_icmp_ne (M := gm_City_sideOf) dq_City_sideOf_7 14 10 rfl rfl (fun c1 => ?_) (fun c1 => ?_)
  · refine gr_iconst (M := gm_City_sideOf) (v := 1) dq_City_sideOf_14 rfl ⟨by decide, by decide⟩ 15 rfl ?_
    exact gr_ireturn (M := gm_City_sideOf) dq_City_sideOf_15 hF
  refine gr_iconst (M := gm_City_sideOf) (v := 0) dq_City_sideOf_10 rfl ⟨by decide, by decide⟩ 11 rfl ?_
  refine gr_goto (M := gm_City_sideOf) dq_City_sideOf_11 15 rfl ?_
  exact gr_ireturn (M := gm_City_sideOf) dq_City_sideOf_15 hF

-- City_shorten
theorem dq_City_shorten_0 : decode gc_City_shorten 0 = .ok (.iload_n 3, 1) := by decide +kernel
theorem dq_City_shorten_1 : decode gc_City_shorten 1 = .ok (.aload_n 0, 1) := by decide +kernel
theorem dq_City_shorten_2 : decode gc_City_shorten 2 = .ok (.iload_n 1, 1) := by decide +kernel
theorem dq_City_shorten_3 : decode gc_City_shorten 3 = .ok (.iload_n 2, 1) := by decide +kernel
theorem dq_City_shorten_4 : decode gc_City_shorten 4 = .ok (.invokevirtual 62, 3) := by decide +kernel
theorem dq_City_shorten_7 : decode gc_City_shorten 7 = .ok (.if_icmp .ge 15, 3) := by decide +kernel
theorem dq_City_shorten_10 : decode gc_City_shorten 10 = .ok (.aload_n 0, 1) := by decide +kernel
theorem dq_City_shorten_11 : decode gc_City_shorten 11 = .ok (.getfield 39, 3) := by decide +kernel
theorem dq_City_shorten_14 : decode gc_City_shorten 14 = .ok (.iload_n 1, 1) := by decide +kernel
theorem dq_City_shorten_15 : decode gc_City_shorten 15 = .ok (.bipush 7, 2) := by decide +kernel
theorem dq_City_shorten_17 : decode gc_City_shorten 17 = .ok (.imul, 1) := by decide +kernel
theorem dq_City_shorten_18 : decode gc_City_shorten 18 = .ok (.iload_n 2, 1) := by decide +kernel
theorem dq_City_shorten_19 : decode gc_City_shorten 19 = .ok (.iadd, 1) := by decide +kernel
theorem dq_City_shorten_20 : decode gc_City_shorten 20 = .ok (.iload_n 3, 1) := by decide +kernel
theorem dq_City_shorten_21 : decode gc_City_shorten 21 = .ok (.iastore, 1) := by decide +kernel
theorem dq_City_shorten_22 : decode gc_City_shorten 22 = .ok (.return_, 1) := by decide +kernel
abbrev gm_City_shorten : gM := (gc_City_shorten, gR_0, 1, 22, 4)
theorem gcy_City_62 : gCy gR_0 62 gy_City_distance gc_City_distance 3 (some .int) 2 := ⟨(gtab_at 382 (by decide +kernel) rfl), (gtab_at 2 (by decide +kernel) rfl), (gtab_at 385 rfl rfl), by decide, by decide, by decide +kernel⟩
theorem gim_City_distance : Cond.instanceMethod gy_City_distance ∈ gtbl := (gtab_at 383 (by decide +kernel) rfl)
theorem gse_City_distance : Cond.selects gy_City_distance.cls gy_City_distance gy_City_distance ∈ gtbl := (gtab_at 384 (by decide +kernel) rfl)
def f_City_shorten (t : Nat) (a1 : Int) (a2 : Int) (a3 : Int) (h : gH) : Option gO := gb (f_City_distance t a1 a2 h) (fun h1 r2 => if r2 ≤ a3 then (some (h1, 0)) else (gd (gix 49 (gadd (gmul a1 7) a2)) (gs (gup h1 (t + 10) (gadd (gmul a1 7) a2).toNat a3) (fun h4 => some (h4, 0)))))
theorem c_City_shorten {Z : gZ} (hL : gLive Z) (hn : (zL Z).Nodup) {t : Nat} {a1 : Int} {a2 : Int} {a3 : Int} (ht : gsh t = .inr 0) {h : gH} {o : gO} (hg : gRg h) (ha : gRl [.inr (.inr t), .inl a1, .inl a2, .inl a3]) (hx : f_City_shorten t a1 a2 a3 h = some o) : gC Z gy_City_shorten gc_City_shorten 4 none 1 22 [.inr (.inr t), .inl a1, .inl a2, .inl a3] h o := by
  unfold f_City_shorten at hx
  refine gC_of (lv := [(0, .inr (.inr t)), (1, .inl a1), (2, .inl a2), (3, .inl a3)]) (own := gR_0) (by decide +kernel) rfl (Nat.le_of_ble_eq_true rfl) rfl rfl hn hg ha hx (fun X hZ hF => ?_)
  subst hZ
  show gr _ o gm_City_shorten X h 0 _ _
  refine gr_iload_n (M := gm_City_shorten) dq_City_shorten_0 rfl 3 rfl 1 rfl ?_
  refine gr_aload_n (M := gm_City_shorten) dq_City_shorten_1 rfl 0 rfl 2 rfl ?_
  refine gr_iload_n (M := gm_City_shorten) dq_City_shorten_2 rfl 1 rfl 3 rfl ?_
  refine gr_iload_n (M := gm_City_shorten) dq_City_shorten_3 rfl 2 rfl 4 rfl ?_
  refine gr_callVi (M := gm_City_shorten) (as := [.inl a1, .inl a2]) dq_City_shorten_4 7 rfl rfl gcy_City_62 gim_City_distance gse_City_distance ⟨by decide, by decide⟩ (Nat.le_of_ble_eq_true rfl) ht rfl (gli hL ht) (fun o1 hg ha hx => c_City_distance hL hn ht hg ha hx) (fun h1 r2 _ => ?_)
  refine gr_icmp_ge (M := gm_City_shorten) dq_City_shorten_7 22 10 rfl rfl (fun c3 => ?_) (fun c3 => ?_)
  · exact gr_return (M := gm_City_shorten) dq_City_shorten_22 hF
  refine gr_aload_n (M := gm_City_shorten) dq_City_shorten_10 rfl 0 rfl 11 rfl ?_
  refine gr_getr (M := gm_City_shorten) dq_City_shorten_11 14 rfl gfl_City_39 ht rfl (gli hL ht) (t + 10) rfl ?_
  refine gr_iload_n (M := gm_City_shorten) dq_City_shorten_14 rfl 1 rfl 15 rfl ?_
  refine gr_bipush (M := gm_City_shorten) (v := 7) dq_City_shorten_15 (by decide) ⟨by decide, by decide⟩ 17 rfl ?_
  refine gr_imul (M := gm_City_shorten) dq_City_shorten_17 18 rfl ?_
  refine gr_iload_n (M := gm_City_shorten) dq_City_shorten_18 rfl 2 rfl 19 rfl ?_
  refine gr_iadd (M := gm_City_shorten) dq_City_shorten_19 20 rfl ?_
  refine gr_iload_n (M := gm_City_shorten) dq_City_shorten_20 rfl 3 rfl 21 rfl ?_
  refine gr_iast (M := gm_City_shorten) dq_City_shorten_21 22 rfl (gsC_10 ht) (glj hL (gsC_10 ht) (by decide)) (fun h4 _ => ?_)
  exact gr_return (M := gm_City_shorten) dq_City_shorten_22 hF

-- City_leastNearer
theorem dq_City_leastNearer_0 : decode gc_City_leastNearer 0 = .ok (.aload_n 0, 1) := by decide +kernel
theorem dq_City_leastNearer_1 : decode gc_City_leastNearer 1 = .ok (.iload_n 1, 1) := by decide +kernel
theorem dq_City_leastNearer_2 : decode gc_City_leastNearer 2 = .ok (.iload_n 2, 1) := by decide +kernel
theorem dq_City_leastNearer_3 : decode gc_City_leastNearer 3 = .ok (.invokevirtual 62, 3) := by decide +kernel
theorem dq_City_leastNearer_6 : decode gc_City_leastNearer 6 = .ok (.istore_n 3, 1) := by decide +kernel
theorem dq_City_leastNearer_7 : decode gc_City_leastNearer 7 = .ok (.iload_n 3, 1) := by decide +kernel
theorem dq_City_leastNearer_8 : decode gc_City_leastNearer 8 = .ok (.sipush 1000, 3) := by decide +kernel
theorem dq_City_leastNearer_11 : decode gc_City_leastNearer 11 = .ok (.if_icmp .lt 5, 3) := by decide +kernel
theorem dq_City_leastNearer_14 : decode gc_City_leastNearer 14 = .ok (.iconst (-1), 1) := by decide +kernel
theorem dq_City_leastNearer_15 : decode gc_City_leastNearer 15 = .ok (.ireturn, 1) := by decide +kernel
theorem dq_City_leastNearer_16 : decode gc_City_leastNearer 16 = .ok (.iconst 0, 1) := by decide +kernel
theorem dq_City_leastNearer_17 : decode gc_City_leastNearer 17 = .ok (.istore 4, 2) := by decide +kernel
theorem dq_City_leastNearer_19 : decode gc_City_leastNearer 19 = .ok (.iload 4, 2) := by decide +kernel
theorem dq_City_leastNearer_21 : decode gc_City_leastNearer 21 = .ok (.aload_n 0, 1) := by decide +kernel
theorem dq_City_leastNearer_22 : decode gc_City_leastNearer 22 = .ok (.getfield 52, 3) := by decide +kernel
theorem dq_City_leastNearer_25 : decode gc_City_leastNearer 25 = .ok (.if_icmp .ge 46, 3) := by decide +kernel
theorem dq_City_leastNearer_28 : decode gc_City_leastNearer 28 = .ok (.aload_n 0, 1) := by decide +kernel
theorem dq_City_leastNearer_29 : decode gc_City_leastNearer 29 = .ok (.iload 4, 2) := by decide +kernel
theorem dq_City_leastNearer_31 : decode gc_City_leastNearer 31 = .ok (.iload_n 1, 1) := by decide +kernel
theorem dq_City_leastNearer_32 : decode gc_City_leastNearer 32 = .ok (.invokevirtual 72, 3) := by decide +kernel
theorem dq_City_leastNearer_35 : decode gc_City_leastNearer 35 = .ok (.istore 5, 2) := by decide +kernel
theorem dq_City_leastNearer_37 : decode gc_City_leastNearer 37 = .ok (.iload 5, 2) := by decide +kernel
theorem dq_City_leastNearer_39 : decode gc_City_leastNearer 39 = .ok (.iconst (-1), 1) := by decide +kernel
theorem dq_City_leastNearer_40 : decode gc_City_leastNearer 40 = .ok (.if_icmp .eq 25, 3) := by decide +kernel
theorem dq_City_leastNearer_43 : decode gc_City_leastNearer 43 = .ok (.aload_n 0, 1) := by decide +kernel
theorem dq_City_leastNearer_44 : decode gc_City_leastNearer 44 = .ok (.getfield 18, 3) := by decide +kernel
theorem dq_City_leastNearer_47 : decode gc_City_leastNearer 47 = .ok (.iload 4, 2) := by decide +kernel
theorem dq_City_leastNearer_49 : decode gc_City_leastNearer 49 = .ok (.iaload, 1) := by decide +kernel
theorem dq_City_leastNearer_50 : decode gc_City_leastNearer 50 = .ok (.aload_n 0, 1) := by decide +kernel
theorem dq_City_leastNearer_51 : decode gc_City_leastNearer 51 = .ok (.iload 5, 2) := by decide +kernel
theorem dq_City_leastNearer_53 : decode gc_City_leastNearer 53 = .ok (.iload_n 2, 1) := by decide +kernel
theorem dq_City_leastNearer_54 : decode gc_City_leastNearer 54 = .ok (.invokevirtual 62, 3) := by decide +kernel
theorem dq_City_leastNearer_57 : decode gc_City_leastNearer 57 = .ok (.iadd, 1) := by decide +kernel
theorem dq_City_leastNearer_58 : decode gc_City_leastNearer 58 = .ok (.iload_n 3, 1) := by decide +kernel
theorem dq_City_leastNearer_59 : decode gc_City_leastNearer 59 = .ok (.if_icmp .ne 6, 3) := by decide +kernel
theorem dq_City_leastNearer_62 : decode gc_City_leastNearer 62 = .ok (.iload 4, 2) := by decide +kernel
theorem dq_City_leastNearer_64 : decode gc_City_leastNearer 64 = .ok (.ireturn, 1) := by decide +kernel
theorem dq_City_leastNearer_65 : decode gc_City_leastNearer 65 = .ok (.iinc 4 1, 3) := by decide +kernel
theorem dq_City_leastNearer_68 : decode gc_City_leastNearer 68 = .ok (.goto (-49), 3) := by decide +kernel
theorem dq_City_leastNearer_71 : decode gc_City_leastNearer 71 = .ok (.iconst (-1), 1) := by decide +kernel
theorem dq_City_leastNearer_72 : decode gc_City_leastNearer 72 = .ok (.ireturn, 1) := by decide +kernel
abbrev gm_City_leastNearer : gM := (gc_City_leastNearer, gR_0, 1, 22, 6)
theorem gfl_City_52 : gFl gR_0 52 0 2 := ⟨_, _, _, rfl, by decide, (gtab_at 34 (by decide +kernel) rfl), gin_0⟩
theorem gcy_City_72 : gCy gR_0 72 gy_City_otherEnd gc_City_otherEnd 3 (some .int) 2 := ⟨(gtab_at 394 (by decide +kernel) rfl), (gtab_at 2 (by decide +kernel) rfl), (gtab_at 397 rfl rfl), by decide, by decide, by decide +kernel⟩
theorem gim_City_otherEnd : Cond.instanceMethod gy_City_otherEnd ∈ gtbl := (gtab_at 395 (by decide +kernel) rfl)
theorem gse_City_otherEnd : Cond.selects gy_City_otherEnd.cls gy_City_otherEnd gy_City_otherEnd ∈ gtbl := (gtab_at 396 (by decide +kernel) rfl)
theorem gfl_City_18 : gFl gR_0 18 0 6 := ⟨_, _, _, rfl, by decide, (gtab_at 54 (by decide +kernel) rfl), gin_0⟩
def f_City_leastNearer_J65 (t : Nat) (k19 : Int → gH → Option gO) (v1 : Int) (v2 : Int) (v3 : Int) (v4 : Int) (h : gH) : Option gO := k19 (gadd v4 1) h
theorem w_City_leastNearer_J65 {o : gO} {X : gX} (hL : gLive (xZ X)) (hn : (zL (xZ X)).Nodup) (hF : gFin X (some .int) o) {t : Nat} (ht : gsh t = .inr 0)  {k19 : Int → gH → Option gO} {v1 : Int} {v2 : Int} {v3 : Int} {v4 : Int} {h : gH} (hk19 : ∀ (v4 : Int) (h : gH), gr (k19 v4 h) o gm_City_leastNearer X h 19 [(0, .inr (.inr t)), (1, .inl v1), (2, .inl v2), (3, .inl v3), (4, .inl v4)] []) : gr (f_City_leastNearer_J65 t k19 v1 v2 v3 v4 h) o gm_City_leastNearer X h 65 [(0, .inr (.inr t)), (1, .inl v1), (2, .inl v2), (3, .inl v3), (4, .inl v4)] [] := by
  unfold f_City_leastNearer_J65
  refine gr_iinc (M := gm_City_leastNearer) (lv' := [(4, .inl (gadd v4 1)), (0, .inr (.inr t)), (1, .inl v1), (2, .inl v2), (3, .inl v3)]) dq_City_leastNearer_65 4 rfl rfl (by decide) rfl 68 rfl ?_
  refine gr_goto (M := gm_City_leastNearer) dq_City_leastNearer_68 19 rfl ?_
  refine gr_sub (M := gm_City_leastNearer) (lv' := [(0, .inr (.inr t)), (1, .inl v1), (2, .inl v2), (3, .inl v3), (4, .inl (gadd v4 1))]) [1, 2, 3, 4, 0] rfl ?_
  exact hk19 _ _

def f_City_leastNearer_L19 (t : Nat) (v1 : Int) (v2 : Int) (v3 : Int) (k71 : gH → Option gO) : Nat → Int → gH → Option gO
  | 0, _, _ => none
  | n + 1, v4, h => if (h t 2) ≤ v4 then (k71  h) else (gb (f_City_otherEnd t v4 v1 h) (fun h5 r6 => if r6 = (-1) then (f_City_leastNearer_J65 t (f_City_leastNearer_L19 t v1 v2 v3 k71 n) v1 v2 v3 v4 h5) else (gd (gix 9 v4) (gb (f_City_distance t r6 v2 h5) (fun h8 r9 => if (gadd (h5 (t + 3) v4.toNat) r9) = v3 then (some (h8, v4)) else (f_City_leastNearer_J65 t (f_City_leastNearer_L19 t v1 v2 v3 k71 n) v1 v2 v3 v4 h8))))))
theorem w_City_leastNearer_L19 {o : gO} {X : gX} (hL : gLive (xZ X)) (hn : (zL (xZ X)).Nodup) (hF : gFin X (some .int) o) {t : Nat} {v1 : Int} {v2 : Int} {v3 : Int} (ht : gsh t = .inr 0)  {k71 : gH → Option gO} (hk71 : ∀ (h : gH), gr (k71 h) o gm_City_leastNearer X h 71 [] []) : ∀ (n : Nat) (v4 : Int) (h : gH), gr (f_City_leastNearer_L19 t v1 v2 v3 k71 n v4 h) o gm_City_leastNearer X h 19 [(0, .inr (.inr t)), (1, .inl v1), (2, .inl v2), (3, .inl v3), (4, .inl v4)] [] := by
  intro n
  induction n with
  | zero => intros; exact gr_none
  | succ n ih =>
    intro v4 h
    unfold f_City_leastNearer_L19
    refine gr_iload (M := gm_City_leastNearer) dq_City_leastNearer_19 4 rfl 21 rfl ?_
    refine gr_aload_n (M := gm_City_leastNearer) dq_City_leastNearer_21 rfl 0 rfl 22 rfl ?_
    refine gr_geti (M := gm_City_leastNearer) dq_City_leastNearer_22 25 rfl gfl_City_52 ht rfl (gli hL ht) ?_
    refine gr_icmp_ge (M := gm_City_leastNearer) dq_City_leastNearer_25 71 28 rfl rfl (fun c4 => ?_) (fun c4 => ?_)
    · refine gr_sub (M := gm_City_leastNearer) (lv' := []) [] rfl ?_
      exact hk71  _
    refine gr_aload_n (M := gm_City_leastNearer) dq_City_leastNearer_28 rfl 0 rfl 29 rfl ?_
    refine gr_iload (M := gm_City_leastNearer) dq_City_leastNearer_29 4 rfl 31 rfl ?_
    refine gr_iload_n (M := gm_City_leastNearer) dq_City_leastNearer_31 rfl 1 rfl 32 rfl ?_
    refine gr_callVi (M := gm_City_leastNearer) (as := [.inl v4, .inl v1]) dq_City_leastNearer_32 35 rfl rfl gcy_City_72 gim_City_otherEnd gse_City_otherEnd ⟨by decide, by decide⟩ (Nat.le_of_ble_eq_true rfl) ht rfl (gli hL ht) (fun o1 hg ha hx => c_City_otherEnd hL hn ht hg ha hx) (fun h5 r6 _ => ?_)
    refine gr_istore (M := gm_City_leastNearer) (kk := 0) (lv' := [(5, .inl r6), (0, .inr (.inr t)), (1, .inl v1), (2, .inl v2), (3, .inl v3), (4, .inl v4)]) dq_City_leastNearer_35 (by decide) rfl 37 rfl ?_
    refine gr_iload (M := gm_City_leastNearer) dq_City_leastNearer_37 0 rfl 39 rfl ?_
    refine gr_iconst (M := gm_City_leastNearer) (v := (-1)) dq_City_leastNearer_39 rfl ⟨by decide, by decide⟩ 40 rfl ?_
    refine gr_icmp_eq (M := gm_City_leastNearer) dq_City_leastNearer_40 65 43 rfl rfl (fun c7 => ?_) (fun c7 => ?_)
    · refine gr_sub (M := gm_City_leastNearer) (lv' := [(0, .inr (.inr t)), (1, .inl v1), (2, .inl v2), (3, .inl v3), (4, .inl v4)]) [1, 2, 3, 4, 5] rfl ?_
      exact w_City_leastNearer_J65 hL hn hF ht  ih
    refine gr_aload_n (M := gm_City_leastNearer) dq_City_leastNearer_43 rfl 1 rfl 44 rfl ?_
    refine gr_getr (M := gm_City_leastNearer) dq_City_leastNearer_44 47 rfl gfl_City_18 ht rfl (gli hL ht) (t + 3) rfl ?_
    refine gr_iload (M := gm_City_leastNearer) dq_City_leastNearer_47 5 rfl 49 rfl ?_
    refine gr_iald (M := gm_City_leastNearer) dq_City_leastNearer_49 50 rfl (gsC_3 ht) (glj hL (gsC_3 ht) (by decide)) ?_
    refine gr_aload_n (M := gm_City_leastNearer) dq_City_leastNearer_50 rfl 1 rfl 51 rfl ?_
    refine gr_iload (M := gm_City_leastNearer) dq_City_leastNearer_51 0 rfl 53 rfl ?_
    refine gr_iload_n (M := gm_City_leastNearer) dq_City_leastNearer_53 rfl 3 rfl 54 rfl ?_
    refine gr_callVi (M := gm_City_leastNearer) (as := [.inl r6, .inl v2]) dq_City_leastNearer_54 57 rfl rfl gcy_City_62 gim_City_distance gse_City_distance ⟨by decide, by decide⟩ (Nat.le_of_ble_eq_true rfl) ht rfl (gli hL ht) (fun o1 hg ha hx => c_City_distance hL hn ht hg ha hx) (fun h8 r9 _ => ?_)
    refine gr_iadd (M := gm_City_leastNearer) dq_City_leastNearer_57 58 rfl ?_
    refine gr_iload_n (M := gm_City_leastNearer) dq_City_leastNearer_58 rfl 4 rfl 59 rfl ?_
    refine gr_icmp_ne (M := gm_City_leastNearer) dq_City_leastNearer_59 65 62 rfl rfl (fun c10 => ?_) (fun c10 => ?_)
    · refine gr_sub (M := gm_City_leastNearer) (lv' := [(0, .inr (.inr t)), (1, .inl v1), (2, .inl v2), (3, .inl v3), (4, .inl v4)]) [1, 2, 3, 4, 5] rfl ?_
      exact w_City_leastNearer_J65 hL hn hF ht  ih
    refine gr_iload (M := gm_City_leastNearer) dq_City_leastNearer_62 5 rfl 64 rfl ?_
    exact gr_ireturn (M := gm_City_leastNearer) dq_City_leastNearer_64 hF

def f_City_leastNearer (t : Nat) (a1 : Int) (a2 : Int) (h : gH) : Option gO := gb (f_City_distance t a1 a2 h) (fun h1 r2 => if r2 < 1000 then (f_City_leastNearer_L19 t a1 a2 r2 (fun  h11 => some (h11, (-1))) 50000 0 h1) else (some (h1, (-1))))
theorem c_City_leastNearer {Z : gZ} (hL : gLive Z) (hn : (zL Z).Nodup) {t : Nat} {a1 : Int} {a2 : Int} (ht : gsh t = .inr 0) {h : gH} {o : gO} (hg : gRg h) (ha : gRl [.inr (.inr t), .inl a1, .inl a2]) (hx : f_City_leastNearer t a1 a2 h = some o) : gC Z gy_City_leastNearer gc_City_leastNearer 6 (some .int) 1 22 [.inr (.inr t), .inl a1, .inl a2] h o := by
  unfold f_City_leastNearer at hx
  refine gC_of (lv := [(0, .inr (.inr t)), (1, .inl a1), (2, .inl a2)]) (own := gR_0) (by decide +kernel) rfl (Nat.le_of_ble_eq_true rfl) rfl rfl hn hg ha hx (fun X hZ hF => ?_)
  subst hZ
  show gr _ o gm_City_leastNearer X h 0 _ _
  refine gr_aload_n (M := gm_City_leastNearer) dq_City_leastNearer_0 rfl 0 rfl 1 rfl ?_
  refine gr_iload_n (M := gm_City_leastNearer) dq_City_leastNearer_1 rfl 1 rfl 2 rfl ?_
  refine gr_iload_n (M := gm_City_leastNearer) dq_City_leastNearer_2 rfl 2 rfl 3 rfl ?_
  refine gr_callVi (M := gm_City_leastNearer) (as := [.inl a1, .inl a2]) dq_City_leastNearer_3 6 rfl rfl gcy_City_62 gim_City_distance gse_City_distance ⟨by decide, by decide⟩ (Nat.le_of_ble_eq_true rfl) ht rfl (gli hL ht) (fun o1 hg ha hx => c_City_distance hL hn ht hg ha hx) (fun h1 r2 _ => ?_)
  refine gr_istore_n (M := gm_City_leastNearer) (lv' := [(3, .inl r2), (0, .inr (.inr t)), (1, .inl a1), (2, .inl a2)]) dq_City_leastNearer_6 rfl (by decide) rfl 7 rfl ?_
  refine gr_iload_n (M := gm_City_leastNearer) dq_City_leastNearer_7 rfl 0 rfl 8 rfl ?_
  refine gr_sipush (M := gm_City_leastNearer) (v := 1000) dq_City_leastNearer_8 (by decide) ⟨by decide, by decide⟩ 11 rfl ?_
  refine gr_icmp_lt (M := gm_City_leastNearer) dq_City_leastNearer_11 16 14 rfl rfl (fun c3 => ?_) (fun c3 => ?_)
  · refine gr_iconst (M := gm_City_leastNearer) (v := 0) dq_City_leastNearer_16 rfl ⟨by decide, by decide⟩ 17 rfl ?_
    refine gr_istore (M := gm_City_leastNearer) (kk := 0) (lv' := [(4, .inl 0), (3, .inl r2), (0, .inr (.inr t)), (1, .inl a1), (2, .inl a2)]) dq_City_leastNearer_17 (by decide) rfl 19 rfl ?_
    refine gr_sub (M := gm_City_leastNearer) (lv' := [(0, .inr (.inr t)), (1, .inl a1), (2, .inl a2), (3, .inl r2), (4, .inl 0)]) [2, 3, 4, 1, 0] rfl ?_
    refine w_City_leastNearer_L19 hL hn hF ht  (fun h11 => ?_) 50000 _ _
    refine gr_iconst (M := gm_City_leastNearer) (v := (-1)) dq_City_leastNearer_71 rfl ⟨by decide, by decide⟩ 72 rfl ?_
    exact gr_ireturn (M := gm_City_leastNearer) dq_City_leastNearer_72 hF
  refine gr_iconst (M := gm_City_leastNearer) (v := (-1)) dq_City_leastNearer_14 rfl ⟨by decide, by decide⟩ 15 rfl ?_
  exact gr_ireturn (M := gm_City_leastNearer) dq_City_leastNearer_15 hF

-- City_lead
theorem dq_City_lead_0 : decode gc_City_lead 0 = .ok (.iconst 0, 1) := by decide +kernel
theorem dq_City_lead_1 : decode gc_City_lead 1 = .ok (.istore_n 1, 1) := by decide +kernel
theorem dq_City_lead_2 : decode gc_City_lead 2 = .ok (.iload_n 1, 1) := by decide +kernel
theorem dq_City_lead_3 : decode gc_City_lead 3 = .ok (.aload_n 0, 1) := by decide +kernel
theorem dq_City_lead_4 : decode gc_City_lead 4 = .ok (.getfield 45, 3) := by decide +kernel
theorem dq_City_lead_7 : decode gc_City_lead 7 = .ok (.if_icmp .ge 42, 3) := by decide +kernel
theorem dq_City_lead_10 : decode gc_City_lead 10 = .ok (.iconst 0, 1) := by decide +kernel
theorem dq_City_lead_11 : decode gc_City_lead 11 = .ok (.istore_n 2, 1) := by decide +kernel
theorem dq_City_lead_12 : decode gc_City_lead 12 = .ok (.iload_n 2, 1) := by decide +kernel
theorem dq_City_lead_13 : decode gc_City_lead 13 = .ok (.aload_n 0, 1) := by decide +kernel
theorem dq_City_lead_14 : decode gc_City_lead 14 = .ok (.getfield 45, 3) := by decide +kernel
theorem dq_City_lead_17 : decode gc_City_lead 17 = .ok (.if_icmp .ge 26, 3) := by decide +kernel
theorem dq_City_lead_20 : decode gc_City_lead 20 = .ok (.aload_n 0, 1) := by decide +kernel
theorem dq_City_lead_21 : decode gc_City_lead 21 = .ok (.getfield 42, 3) := by decide +kernel
theorem dq_City_lead_24 : decode gc_City_lead 24 = .ok (.iload_n 1, 1) := by decide +kernel
theorem dq_City_lead_25 : decode gc_City_lead 25 = .ok (.bipush 7, 2) := by decide +kernel
theorem dq_City_lead_27 : decode gc_City_lead 27 = .ok (.imul, 1) := by decide +kernel
theorem dq_City_lead_28 : decode gc_City_lead 28 = .ok (.iload_n 2, 1) := by decide +kernel
theorem dq_City_lead_29 : decode gc_City_lead 29 = .ok (.iadd, 1) := by decide +kernel
theorem dq_City_lead_30 : decode gc_City_lead 30 = .ok (.aload_n 0, 1) := by decide +kernel
theorem dq_City_lead_31 : decode gc_City_lead 31 = .ok (.iload_n 1, 1) := by decide +kernel
theorem dq_City_lead_32 : decode gc_City_lead 32 = .ok (.iload_n 2, 1) := by decide +kernel
theorem dq_City_lead_33 : decode gc_City_lead 33 = .ok (.invokevirtual 69, 3) := by decide +kernel
theorem dq_City_lead_36 : decode gc_City_lead 36 = .ok (.iastore, 1) := by decide +kernel
theorem dq_City_lead_37 : decode gc_City_lead 37 = .ok (.iinc 2 1, 3) := by decide +kernel
theorem dq_City_lead_40 : decode gc_City_lead 40 = .ok (.goto (-28), 3) := by decide +kernel
theorem dq_City_lead_43 : decode gc_City_lead 43 = .ok (.iinc 1 1, 3) := by decide +kernel
theorem dq_City_lead_46 : decode gc_City_lead 46 = .ok (.goto (-44), 3) := by decide +kernel
theorem dq_City_lead_49 : decode gc_City_lead 49 = .ok (.return_, 1) := by decide +kernel
abbrev gm_City_lead : gM := (gc_City_lead, gR_0, 2, 47, 3)
theorem gfl_City_45 : gFl gR_0 45 0 0 := ⟨_, _, _, rfl, by decide, (gtab_at 26 (by decide +kernel) rfl), gin_0⟩
theorem gcy_City_69 : gCy gR_0 69 gy_City_leastNearer gc_City_leastNearer 6 (some .int) 2 := ⟨(gtab_at 390 (by decide +kernel) rfl), (gtab_at 2 (by decide +kernel) rfl), (gtab_at 393 rfl rfl), by decide, by decide, by decide +kernel⟩
theorem gim_City_leastNearer : Cond.instanceMethod gy_City_leastNearer ∈ gtbl := (gtab_at 392 (by decide +kernel) rfl)
theorem gse_City_leastNearer : Cond.selects gy_City_leastNearer.cls gy_City_leastNearer gy_City_leastNearer ∈ gtbl := (by decide +kernel)
def f_City_lead_L12 (t : Nat) (v1 : Int) (k43 : gH → Option gO) : Nat → Int → gH → Option gO
  | 0, _, _ => none
  | n + 1, v2, h => if (h t 0) ≤ v2 then (k43  h) else (gb (f_City_leastNearer t v1 v2 h) (fun h3 r4 => gd (gix 49 (gadd (gmul v1 7) v2)) (gs (gup h3 (t + 11) (gadd (gmul v1 7) v2).toNat r4) (fun h5 => f_City_lead_L12 t v1 k43 n (gadd v2 1) h5))))
theorem w_City_lead_L12 {o : gO} {X : gX} (hL : gLive (xZ X)) (hn : (zL (xZ X)).Nodup) (hF : gFin X none o) {t : Nat} {v1 : Int} (ht : gsh t = .inr 0)  {k43 : gH → Option gO} (hk43 : ∀ (h : gH), gr (k43 h) o gm_City_lead X h 43 [(0, .inr (.inr t)), (1, .inl v1)] []) : ∀ (n : Nat) (v2 : Int) (h : gH), gr (f_City_lead_L12 t v1 k43 n v2 h) o gm_City_lead X h 12 [(0, .inr (.inr t)), (1, .inl v1), (2, .inl v2)] [] := by
  intro n
  induction n with
  | zero => intros; exact gr_none
  | succ n ih =>
    intro v2 h
    unfold f_City_lead_L12
    refine gr_iload_n (M := gm_City_lead) dq_City_lead_12 rfl 2 rfl 13 rfl ?_
    refine gr_aload_n (M := gm_City_lead) dq_City_lead_13 rfl 0 rfl 14 rfl ?_
    refine gr_geti (M := gm_City_lead) dq_City_lead_14 17 rfl gfl_City_45 ht rfl (gli hL ht) ?_
    refine gr_icmp_ge (M := gm_City_lead) dq_City_lead_17 43 20 rfl rfl (fun c2 => ?_) (fun c2 => ?_)
    · refine gr_sub (M := gm_City_lead) (lv' := [(0, .inr (.inr t)), (1, .inl v1)]) [0, 1] rfl ?_
      exact hk43  _
    refine gr_aload_n (M := gm_City_lead) dq_City_lead_20 rfl 0 rfl 21 rfl ?_
    refine gr_getr (M := gm_City_lead) dq_City_lead_21 24 rfl gfl_City_42 ht rfl (gli hL ht) (t + 11) rfl ?_
    refine gr_iload_n (M := gm_City_lead) dq_City_lead_24 rfl 1 rfl 25 rfl ?_
    refine gr_bipush (M := gm_City_lead) (v := 7) dq_City_lead_25 (by decide) ⟨by decide, by decide⟩ 27 rfl ?_
    refine gr_imul (M := gm_City_lead) dq_City_lead_27 28 rfl ?_
    refine gr_iload_n (M := gm_City_lead) dq_City_lead_28 rfl 2 rfl 29 rfl ?_
    refine gr_iadd (M := gm_City_lead) dq_City_lead_29 30 rfl ?_
    refine gr_aload_n (M := gm_City_lead) dq_City_lead_30 rfl 0 rfl 31 rfl ?_
    refine gr_iload_n (M := gm_City_lead) dq_City_lead_31 rfl 1 rfl 32 rfl ?_
    refine gr_iload_n (M := gm_City_lead) dq_City_lead_32 rfl 2 rfl 33 rfl ?_
    refine gr_callVi (M := gm_City_lead) (as := [.inl v1, .inl v2]) dq_City_lead_33 36 rfl rfl gcy_City_69 gim_City_leastNearer gse_City_leastNearer ⟨by decide, by decide⟩ (Nat.le_of_ble_eq_true rfl) ht rfl (gli hL ht) (fun o1 hg ha hx => c_City_leastNearer hL hn ht hg ha hx) (fun h3 r4 _ => ?_)
    refine gr_iast (M := gm_City_lead) dq_City_lead_36 37 rfl (gsC_11 ht) (glj hL (gsC_11 ht) (by decide)) (fun h5 _ => ?_)
    refine gr_iinc (M := gm_City_lead) (lv' := [(2, .inl (gadd v2 1)), (0, .inr (.inr t)), (1, .inl v1)]) dq_City_lead_37 2 rfl rfl (by decide) rfl 40 rfl ?_
    refine gr_goto (M := gm_City_lead) dq_City_lead_40 12 rfl ?_
    refine gr_sub (M := gm_City_lead) (lv' := [(0, .inr (.inr t)), (1, .inl v1), (2, .inl (gadd v2 1))]) [1, 2, 0] rfl ?_
    exact ih _ _

def f_City_lead_L2 (t : Nat) (k49 : gH → Option gO) : Nat → Int → gH → Option gO
  | 0, _, _ => none
  | n + 1, v1, h => if (h t 0) ≤ v1 then (k49  h) else (f_City_lead_L12 t v1 (fun  h6 => f_City_lead_L2 t k49 n (gadd v1 1) h6) 50000 0 h)
theorem w_City_lead_L2 {o : gO} {X : gX} (hL : gLive (xZ X)) (hn : (zL (xZ X)).Nodup) (hF : gFin X none o) {t : Nat} (ht : gsh t = .inr 0)  {k49 : gH → Option gO} (hk49 : ∀ (h : gH), gr (k49 h) o gm_City_lead X h 49 [] []) : ∀ (n : Nat) (v1 : Int) (h : gH), gr (f_City_lead_L2 t k49 n v1 h) o gm_City_lead X h 2 [(0, .inr (.inr t)), (1, .inl v1)] [] := by
  intro n
  induction n with
  | zero => intros; exact gr_none
  | succ n ih =>
    intro v1 h
    unfold f_City_lead_L2
    refine gr_iload_n (M := gm_City_lead) dq_City_lead_2 rfl 1 rfl 3 rfl ?_
    refine gr_aload_n (M := gm_City_lead) dq_City_lead_3 rfl 0 rfl 4 rfl ?_
    refine gr_geti (M := gm_City_lead) dq_City_lead_4 7 rfl gfl_City_45 ht rfl (gli hL ht) ?_
    refine gr_icmp_ge (M := gm_City_lead) dq_City_lead_7 49 10 rfl rfl (fun c1 => ?_) (fun c1 => ?_)
    · refine gr_sub (M := gm_City_lead) (lv' := []) [] rfl ?_
      exact hk49  _
    refine gr_iconst (M := gm_City_lead) (v := 0) dq_City_lead_10 rfl ⟨by decide, by decide⟩ 11 rfl ?_
    refine gr_istore_n (M := gm_City_lead) (lv' := [(2, .inl 0), (0, .inr (.inr t)), (1, .inl v1)]) dq_City_lead_11 rfl (by decide) rfl 12 rfl ?_
    refine gr_sub (M := gm_City_lead) (lv' := [(0, .inr (.inr t)), (1, .inl v1), (2, .inl 0)]) [1, 2, 0] rfl ?_
    refine w_City_lead_L12 hL hn hF ht  (fun h6 => ?_) 50000 _ _
    refine gr_iinc (M := gm_City_lead) (lv' := [(1, .inl (gadd v1 1)), (0, .inr (.inr t))]) dq_City_lead_43 1 rfl rfl (by decide) rfl 46 rfl ?_
    refine gr_goto (M := gm_City_lead) dq_City_lead_46 2 rfl ?_
    refine gr_sub (M := gm_City_lead) (lv' := [(0, .inr (.inr t)), (1, .inl (gadd v1 1))]) [1, 0] rfl ?_
    exact ih _ _

def f_City_lead (t : Nat) (h : gH) : Option gO := f_City_lead_L2 t (fun  h7 => some (h7, 0)) 50000 0 h
theorem c_City_lead {Z : gZ} (hL : gLive Z) (hn : (zL Z).Nodup) {t : Nat} (ht : gsh t = .inr 0) {h : gH} {o : gO} (hg : gRg h) (ha : gRl [.inr (.inr t)]) (hx : f_City_lead t h = some o) : gC Z gy_City_lead gc_City_lead 3 none 2 47 [.inr (.inr t)] h o := by
  unfold f_City_lead at hx
  refine gC_of (lv := [(0, .inr (.inr t))]) (own := gR_0) (by decide +kernel) rfl (Nat.le_of_ble_eq_true rfl) rfl rfl hn hg ha hx (fun X hZ hF => ?_)
  subst hZ
  show gr _ o gm_City_lead X h 0 _ _
  refine gr_iconst (M := gm_City_lead) (v := 0) dq_City_lead_0 rfl ⟨by decide, by decide⟩ 1 rfl ?_
  refine gr_istore_n (M := gm_City_lead) (lv' := [(1, .inl 0), (0, .inr (.inr t))]) dq_City_lead_1 rfl (by decide) rfl 2 rfl ?_
  refine gr_sub (M := gm_City_lead) (lv' := [(0, .inr (.inr t)), (1, .inl 0)]) [1, 0] rfl ?_
  refine w_City_lead_L2 hL hn hF ht  (fun h7 => ?_) 50000 _ _
  exact gr_return (M := gm_City_lead) dq_City_lead_49 hF

-- City_measure
theorem dq_City_measure_0 : decode gc_City_measure 0 = .ok (.iconst 0, 1) := by decide +kernel
theorem dq_City_measure_1 : decode gc_City_measure 1 = .ok (.istore_n 1, 1) := by decide +kernel
theorem dq_City_measure_2 : decode gc_City_measure 2 = .ok (.iload_n 1, 1) := by decide +kernel
theorem dq_City_measure_3 : decode gc_City_measure 3 = .ok (.aload_n 0, 1) := by decide +kernel
theorem dq_City_measure_4 : decode gc_City_measure 4 = .ok (.getfield 45, 3) := by decide +kernel
theorem dq_City_measure_7 : decode gc_City_measure 7 = .ok (.if_icmp .ge 48, 3) := by decide +kernel
theorem dq_City_measure_10 : decode gc_City_measure 10 = .ok (.iconst 0, 1) := by decide +kernel
theorem dq_City_measure_11 : decode gc_City_measure 11 = .ok (.istore_n 2, 1) := by decide +kernel
theorem dq_City_measure_12 : decode gc_City_measure 12 = .ok (.iload_n 2, 1) := by decide +kernel
theorem dq_City_measure_13 : decode gc_City_measure 13 = .ok (.aload_n 0, 1) := by decide +kernel
theorem dq_City_measure_14 : decode gc_City_measure 14 = .ok (.getfield 45, 3) := by decide +kernel
theorem dq_City_measure_17 : decode gc_City_measure 17 = .ok (.if_icmp .ge 32, 3) := by decide +kernel
theorem dq_City_measure_20 : decode gc_City_measure 20 = .ok (.aload_n 0, 1) := by decide +kernel
theorem dq_City_measure_21 : decode gc_City_measure 21 = .ok (.getfield 39, 3) := by decide +kernel
theorem dq_City_measure_24 : decode gc_City_measure 24 = .ok (.iload_n 1, 1) := by decide +kernel
theorem dq_City_measure_25 : decode gc_City_measure 25 = .ok (.bipush 7, 2) := by decide +kernel
theorem dq_City_measure_27 : decode gc_City_measure 27 = .ok (.imul, 1) := by decide +kernel
theorem dq_City_measure_28 : decode gc_City_measure 28 = .ok (.iload_n 2, 1) := by decide +kernel
theorem dq_City_measure_29 : decode gc_City_measure 29 = .ok (.iadd, 1) := by decide +kernel
theorem dq_City_measure_30 : decode gc_City_measure 30 = .ok (.iload_n 1, 1) := by decide +kernel
theorem dq_City_measure_31 : decode gc_City_measure 31 = .ok (.iload_n 2, 1) := by decide +kernel
theorem dq_City_measure_32 : decode gc_City_measure 32 = .ok (.if_icmp .ne 7, 3) := by decide +kernel
theorem dq_City_measure_35 : decode gc_City_measure 35 = .ok (.iconst 0, 1) := by decide +kernel
theorem dq_City_measure_36 : decode gc_City_measure 36 = .ok (.goto 6, 3) := by decide +kernel
theorem dq_City_measure_39 : decode gc_City_measure 39 = .ok (.sipush 1000, 3) := by decide +kernel
theorem dq_City_measure_42 : decode gc_City_measure 42 = .ok (.iastore, 1) := by decide +kernel
theorem dq_City_measure_43 : decode gc_City_measure 43 = .ok (.iinc 2 1, 3) := by decide +kernel
theorem dq_City_measure_46 : decode gc_City_measure 46 = .ok (.goto (-34), 3) := by decide +kernel
theorem dq_City_measure_49 : decode gc_City_measure 49 = .ok (.iinc 1 1, 3) := by decide +kernel
theorem dq_City_measure_52 : decode gc_City_measure 52 = .ok (.goto (-50), 3) := by decide +kernel
theorem dq_City_measure_55 : decode gc_City_measure 55 = .ok (.iconst 0, 1) := by decide +kernel
theorem dq_City_measure_56 : decode gc_City_measure 56 = .ok (.istore_n 1, 1) := by decide +kernel
theorem dq_City_measure_57 : decode gc_City_measure 57 = .ok (.iload_n 1, 1) := by decide +kernel
theorem dq_City_measure_58 : decode gc_City_measure 58 = .ok (.aload_n 0, 1) := by decide +kernel
theorem dq_City_measure_59 : decode gc_City_measure 59 = .ok (.getfield 52, 3) := by decide +kernel
theorem dq_City_measure_62 : decode gc_City_measure 62 = .ok (.if_icmp .ge 53, 3) := by decide +kernel
theorem dq_City_measure_65 : decode gc_City_measure 65 = .ok (.aload_n 0, 1) := by decide +kernel
theorem dq_City_measure_66 : decode gc_City_measure 66 = .ok (.aload_n 0, 1) := by decide +kernel
theorem dq_City_measure_67 : decode gc_City_measure 67 = .ok (.getfield 11, 3) := by decide +kernel
theorem dq_City_measure_70 : decode gc_City_measure 70 = .ok (.iload_n 1, 1) := by decide +kernel
theorem dq_City_measure_71 : decode gc_City_measure 71 = .ok (.iaload, 1) := by decide +kernel
theorem dq_City_measure_72 : decode gc_City_measure 72 = .ok (.aload_n 0, 1) := by decide +kernel
theorem dq_City_measure_73 : decode gc_City_measure 73 = .ok (.getfield 15, 3) := by decide +kernel
theorem dq_City_measure_76 : decode gc_City_measure 76 = .ok (.iload_n 1, 1) := by decide +kernel
theorem dq_City_measure_77 : decode gc_City_measure 77 = .ok (.iaload, 1) := by decide +kernel
theorem dq_City_measure_78 : decode gc_City_measure 78 = .ok (.aload_n 0, 1) := by decide +kernel
theorem dq_City_measure_79 : decode gc_City_measure 79 = .ok (.getfield 18, 3) := by decide +kernel
theorem dq_City_measure_82 : decode gc_City_measure 82 = .ok (.iload_n 1, 1) := by decide +kernel
theorem dq_City_measure_83 : decode gc_City_measure 83 = .ok (.iaload, 1) := by decide +kernel
theorem dq_City_measure_84 : decode gc_City_measure 84 = .ok (.invokevirtual 58, 3) := by decide +kernel
theorem dq_City_measure_87 : decode gc_City_measure 87 = .ok (.aload_n 0, 1) := by decide +kernel
theorem dq_City_measure_88 : decode gc_City_measure 88 = .ok (.aload_n 0, 1) := by decide +kernel
theorem dq_City_measure_89 : decode gc_City_measure 89 = .ok (.getfield 15, 3) := by decide +kernel
theorem dq_City_measure_92 : decode gc_City_measure 92 = .ok (.iload_n 1, 1) := by decide +kernel
theorem dq_City_measure_93 : decode gc_City_measure 93 = .ok (.iaload, 1) := by decide +kernel
theorem dq_City_measure_94 : decode gc_City_measure 94 = .ok (.aload_n 0, 1) := by decide +kernel
theorem dq_City_measure_95 : decode gc_City_measure 95 = .ok (.getfield 11, 3) := by decide +kernel
theorem dq_City_measure_98 : decode gc_City_measure 98 = .ok (.iload_n 1, 1) := by decide +kernel
theorem dq_City_measure_99 : decode gc_City_measure 99 = .ok (.iaload, 1) := by decide +kernel
theorem dq_City_measure_100 : decode gc_City_measure 100 = .ok (.aload_n 0, 1) := by decide +kernel
theorem dq_City_measure_101 : decode gc_City_measure 101 = .ok (.getfield 18, 3) := by decide +kernel
theorem dq_City_measure_104 : decode gc_City_measure 104 = .ok (.iload_n 1, 1) := by decide +kernel
theorem dq_City_measure_105 : decode gc_City_measure 105 = .ok (.iaload, 1) := by decide +kernel
theorem dq_City_measure_106 : decode gc_City_measure 106 = .ok (.invokevirtual 58, 3) := by decide +kernel
theorem dq_City_measure_109 : decode gc_City_measure 109 = .ok (.iinc 1 1, 3) := by decide +kernel
theorem dq_City_measure_112 : decode gc_City_measure 112 = .ok (.goto (-55), 3) := by decide +kernel
theorem dq_City_measure_115 : decode gc_City_measure 115 = .ok (.iconst 0, 1) := by decide +kernel
theorem dq_City_measure_116 : decode gc_City_measure 116 = .ok (.istore_n 1, 1) := by decide +kernel
theorem dq_City_measure_117 : decode gc_City_measure 117 = .ok (.iload_n 1, 1) := by decide +kernel
theorem dq_City_measure_118 : decode gc_City_measure 118 = .ok (.aload_n 0, 1) := by decide +kernel
theorem dq_City_measure_119 : decode gc_City_measure 119 = .ok (.getfield 45, 3) := by decide +kernel
theorem dq_City_measure_122 : decode gc_City_measure 122 = .ok (.if_icmp .ge 60, 3) := by decide +kernel
theorem dq_City_measure_125 : decode gc_City_measure 125 = .ok (.iconst 0, 1) := by decide +kernel
theorem dq_City_measure_126 : decode gc_City_measure 126 = .ok (.istore_n 2, 1) := by decide +kernel
theorem dq_City_measure_127 : decode gc_City_measure 127 = .ok (.iload_n 2, 1) := by decide +kernel
theorem dq_City_measure_128 : decode gc_City_measure 128 = .ok (.aload_n 0, 1) := by decide +kernel
theorem dq_City_measure_129 : decode gc_City_measure 129 = .ok (.getfield 45, 3) := by decide +kernel
theorem dq_City_measure_132 : decode gc_City_measure 132 = .ok (.if_icmp .ge 44, 3) := by decide +kernel
theorem dq_City_measure_135 : decode gc_City_measure 135 = .ok (.iconst 0, 1) := by decide +kernel
theorem dq_City_measure_136 : decode gc_City_measure 136 = .ok (.istore_n 3, 1) := by decide +kernel
theorem dq_City_measure_137 : decode gc_City_measure 137 = .ok (.iload_n 3, 1) := by decide +kernel
theorem dq_City_measure_138 : decode gc_City_measure 138 = .ok (.aload_n 0, 1) := by decide +kernel
theorem dq_City_measure_139 : decode gc_City_measure 139 = .ok (.getfield 45, 3) := by decide +kernel
theorem dq_City_measure_142 : decode gc_City_measure 142 = .ok (.if_icmp .ge 28, 3) := by decide +kernel
theorem dq_City_measure_145 : decode gc_City_measure 145 = .ok (.aload_n 0, 1) := by decide +kernel
theorem dq_City_measure_146 : decode gc_City_measure 146 = .ok (.iload_n 2, 1) := by decide +kernel
theorem dq_City_measure_147 : decode gc_City_measure 147 = .ok (.iload_n 3, 1) := by decide +kernel
theorem dq_City_measure_148 : decode gc_City_measure 148 = .ok (.aload_n 0, 1) := by decide +kernel
theorem dq_City_measure_149 : decode gc_City_measure 149 = .ok (.iload_n 2, 1) := by decide +kernel
theorem dq_City_measure_150 : decode gc_City_measure 150 = .ok (.iload_n 1, 1) := by decide +kernel
theorem dq_City_measure_151 : decode gc_City_measure 151 = .ok (.invokevirtual 62, 3) := by decide +kernel
theorem dq_City_measure_154 : decode gc_City_measure 154 = .ok (.aload_n 0, 1) := by decide +kernel
theorem dq_City_measure_155 : decode gc_City_measure 155 = .ok (.iload_n 1, 1) := by decide +kernel
theorem dq_City_measure_156 : decode gc_City_measure 156 = .ok (.iload_n 3, 1) := by decide +kernel
theorem dq_City_measure_157 : decode gc_City_measure 157 = .ok (.invokevirtual 62, 3) := by decide +kernel
theorem dq_City_measure_160 : decode gc_City_measure 160 = .ok (.iadd, 1) := by decide +kernel
theorem dq_City_measure_161 : decode gc_City_measure 161 = .ok (.invokevirtual 58, 3) := by decide +kernel
theorem dq_City_measure_164 : decode gc_City_measure 164 = .ok (.iinc 3 1, 3) := by decide +kernel
theorem dq_City_measure_167 : decode gc_City_measure 167 = .ok (.goto (-30), 3) := by decide +kernel
theorem dq_City_measure_170 : decode gc_City_measure 170 = .ok (.iinc 2 1, 3) := by decide +kernel
theorem dq_City_measure_173 : decode gc_City_measure 173 = .ok (.goto (-46), 3) := by decide +kernel
theorem dq_City_measure_176 : decode gc_City_measure 176 = .ok (.iinc 1 1, 3) := by decide +kernel
theorem dq_City_measure_179 : decode gc_City_measure 179 = .ok (.goto (-62), 3) := by decide +kernel
theorem dq_City_measure_182 : decode gc_City_measure 182 = .ok (.aload_n 0, 1) := by decide +kernel
theorem dq_City_measure_183 : decode gc_City_measure 183 = .ok (.invokevirtual 66, 3) := by decide +kernel
theorem dq_City_measure_186 : decode gc_City_measure 186 = .ok (.return_, 1) := by decide +kernel
abbrev gm_City_measure : gM := (gc_City_measure, gR_0, 3, 69, 4)
theorem gcy_City_58 : gCy gR_0 58 gy_City_shorten gc_City_shorten 4 none 3 := ⟨(gtab_at 378 (by decide +kernel) rfl), (gtab_at 2 (by decide +kernel) rfl), (gtab_at 381 rfl rfl), by decide, by decide, by decide +kernel⟩
theorem gim_City_shorten : Cond.instanceMethod gy_City_shorten ∈ gtbl := (gtab_at 380 (by decide +kernel) rfl)
theorem gse_City_shorten : Cond.selects gy_City_shorten.cls gy_City_shorten gy_City_shorten ∈ gtbl := (by decide +kernel)
theorem gcy_City_66 : gCy gR_0 66 gy_City_lead gc_City_lead 3 none 0 := ⟨(gtab_at 386 (by decide +kernel) rfl), (gtab_at 2 (by decide +kernel) rfl), (gtab_at 389 rfl rfl), by decide, by decide, by decide +kernel⟩
theorem gim_City_lead : Cond.instanceMethod gy_City_lead ∈ gtbl := (gtab_at 388 (by decide +kernel) rfl)
theorem gse_City_lead : Cond.selects gy_City_lead.cls gy_City_lead gy_City_lead ∈ gtbl := (by decide +kernel)
def f_City_measure_J42 (t : Nat) (k12 : Int → gH → Option gO) (v1 : Int) (v2 : Int) (s2 : Int) (s1 : Int) (h : gH) : Option gO := gd (gix 49 s1) (gs (gup h (t + 10) s1.toNat s2) (fun h4 => k12 (gadd v2 1) h4))
theorem w_City_measure_J42 {o : gO} {X : gX} (hL : gLive (xZ X)) (hn : (zL (xZ X)).Nodup) (hF : gFin X none o) {t : Nat} (ht : gsh t = .inr 0)  {k12 : Int → gH → Option gO} {v1 : Int} {v2 : Int} {s2 : Int} {s1 : Int} {h : gH} (hk12 : ∀ (v2 : Int) (h : gH), gr (k12 v2 h) o gm_City_measure X h 12 [(0, .inr (.inr t)), (1, .inl v1), (2, .inl v2)] []) : gr (f_City_measure_J42 t k12 v1 v2 s2 s1 h) o gm_City_measure X h 42 [(0, .inr (.inr t)), (1, .inl v1), (2, .inl v2)] [.inl s2, .inl s1, .inr (.inr (t + 10))] := by
  unfold f_City_measure_J42
  refine gr_iast (M := gm_City_measure) dq_City_measure_42 43 rfl (gsC_10 ht) (glj hL (gsC_10 ht) (by decide)) (fun h4 _ => ?_)
  refine gr_iinc (M := gm_City_measure) (lv' := [(2, .inl (gadd v2 1)), (0, .inr (.inr t)), (1, .inl v1)]) dq_City_measure_43 2 rfl rfl (by decide) rfl 46 rfl ?_
  refine gr_goto (M := gm_City_measure) dq_City_measure_46 12 rfl ?_
  refine gr_sub (M := gm_City_measure) (lv' := [(0, .inr (.inr t)), (1, .inl v1), (2, .inl (gadd v2 1))]) [1, 2, 0] rfl ?_
  exact hk12 _ _

def f_City_measure_L12 (t : Nat) (v1 : Int) (k49 : gH → Option gO) : Nat → Int → gH → Option gO
  | 0, _, _ => none
  | n + 1, v2, h => if (h t 0) ≤ v2 then (k49  h) else (if v1 = v2 then (f_City_measure_J42 t (f_City_measure_L12 t v1 k49 n) v1 v2 0 (gadd (gmul v1 7) v2) h) else (f_City_measure_J42 t (f_City_measure_L12 t v1 k49 n) v1 v2 1000 (gadd (gmul v1 7) v2) h))
theorem w_City_measure_L12 {o : gO} {X : gX} (hL : gLive (xZ X)) (hn : (zL (xZ X)).Nodup) (hF : gFin X none o) {t : Nat} {v1 : Int} (ht : gsh t = .inr 0)  {k49 : gH → Option gO} (hk49 : ∀ (h : gH), gr (k49 h) o gm_City_measure X h 49 [(0, .inr (.inr t)), (1, .inl v1)] []) : ∀ (n : Nat) (v2 : Int) (h : gH), gr (f_City_measure_L12 t v1 k49 n v2 h) o gm_City_measure X h 12 [(0, .inr (.inr t)), (1, .inl v1), (2, .inl v2)] [] := by
  intro n
  induction n with
  | zero => intros; exact gr_none
  | succ n ih =>
    intro v2 h
    unfold f_City_measure_L12
    refine gr_iload_n (M := gm_City_measure) dq_City_measure_12 rfl 2 rfl 13 rfl ?_
    refine gr_aload_n (M := gm_City_measure) dq_City_measure_13 rfl 0 rfl 14 rfl ?_
    refine gr_geti (M := gm_City_measure) dq_City_measure_14 17 rfl gfl_City_45 ht rfl (gli hL ht) ?_
    refine gr_icmp_ge (M := gm_City_measure) dq_City_measure_17 49 20 rfl rfl (fun c2 => ?_) (fun c2 => ?_)
    · refine gr_sub (M := gm_City_measure) (lv' := [(0, .inr (.inr t)), (1, .inl v1)]) [0, 1] rfl ?_
      exact hk49  _
    refine gr_aload_n (M := gm_City_measure) dq_City_measure_20 rfl 0 rfl 21 rfl ?_
    refine gr_getr (M := gm_City_measure) dq_City_measure_21 24 rfl gfl_City_39 ht rfl (gli hL ht) (t + 10) rfl ?_
    refine gr_iload_n (M := gm_City_measure) dq_City_measure_24 rfl 1 rfl 25 rfl ?_
    refine gr_bipush (M := gm_City_measure) (v := 7) dq_City_measure_25 (by decide) ⟨by decide, by decide⟩ 27 rfl ?_
    refine gr_imul (M := gm_City_measure) dq_City_measure_27 28 rfl ?_
    refine gr_iload_n (M := gm_City_measure) dq_City_measure_28 rfl 2 rfl 29 rfl ?_
    refine gr_iadd (M := gm_City_measure) dq_City_measure_29 30 rfl ?_
    refine gr_iload_n (M := gm_City_measure) dq_City_measure_30 rfl 1 rfl 31 rfl ?_
    refine gr_iload_n (M := gm_City_measure) dq_City_measure_31 rfl 2 rfl 32 rfl ?_
    refine gr_icmp_ne (M := gm_City_measure) dq_City_measure_32 39 35 rfl rfl (fun c3 => ?_) (fun c3 => ?_)
    · refine gr_sipush (M := gm_City_measure) (v := 1000) dq_City_measure_39 (by decide) ⟨by decide, by decide⟩ 42 rfl ?_
      exact w_City_measure_J42 hL hn hF ht  ih
    refine gr_iconst (M := gm_City_measure) (v := 0) dq_City_measure_35 rfl ⟨by decide, by decide⟩ 36 rfl ?_
    refine gr_goto (M := gm_City_measure) dq_City_measure_36 42 rfl ?_
    exact w_City_measure_J42 hL hn hF ht  ih

def f_City_measure_L2 (t : Nat) (k55 : gH → Option gO) : Nat → Int → gH → Option gO
  | 0, _, _ => none
  | n + 1, v1, h => if (h t 0) ≤ v1 then (k55  h) else (f_City_measure_L12 t v1 (fun  h5 => f_City_measure_L2 t k55 n (gadd v1 1) h5) 50000 0 h)
theorem w_City_measure_L2 {o : gO} {X : gX} (hL : gLive (xZ X)) (hn : (zL (xZ X)).Nodup) (hF : gFin X none o) {t : Nat} (ht : gsh t = .inr 0)  {k55 : gH → Option gO} (hk55 : ∀ (h : gH), gr (k55 h) o gm_City_measure X h 55 [(0, .inr (.inr t))] []) : ∀ (n : Nat) (v1 : Int) (h : gH), gr (f_City_measure_L2 t k55 n v1 h) o gm_City_measure X h 2 [(0, .inr (.inr t)), (1, .inl v1)] [] := by
  intro n
  induction n with
  | zero => intros; exact gr_none
  | succ n ih =>
    intro v1 h
    unfold f_City_measure_L2
    refine gr_iload_n (M := gm_City_measure) dq_City_measure_2 rfl 1 rfl 3 rfl ?_
    refine gr_aload_n (M := gm_City_measure) dq_City_measure_3 rfl 0 rfl 4 rfl ?_
    refine gr_geti (M := gm_City_measure) dq_City_measure_4 7 rfl gfl_City_45 ht rfl (gli hL ht) ?_
    refine gr_icmp_ge (M := gm_City_measure) dq_City_measure_7 55 10 rfl rfl (fun c1 => ?_) (fun c1 => ?_)
    · refine gr_sub (M := gm_City_measure) (lv' := [(0, .inr (.inr t))]) [0] rfl ?_
      exact hk55  _
    refine gr_iconst (M := gm_City_measure) (v := 0) dq_City_measure_10 rfl ⟨by decide, by decide⟩ 11 rfl ?_
    refine gr_istore_n (M := gm_City_measure) (lv' := [(2, .inl 0), (0, .inr (.inr t)), (1, .inl v1)]) dq_City_measure_11 rfl (by decide) rfl 12 rfl ?_
    refine gr_sub (M := gm_City_measure) (lv' := [(0, .inr (.inr t)), (1, .inl v1), (2, .inl 0)]) [1, 2, 0] rfl ?_
    refine w_City_measure_L12 hL hn hF ht  (fun h5 => ?_) 50000 _ _
    refine gr_iinc (M := gm_City_measure) (lv' := [(1, .inl (gadd v1 1)), (0, .inr (.inr t))]) dq_City_measure_49 1 rfl rfl (by decide) rfl 52 rfl ?_
    refine gr_goto (M := gm_City_measure) dq_City_measure_52 2 rfl ?_
    refine gr_sub (M := gm_City_measure) (lv' := [(0, .inr (.inr t)), (1, .inl (gadd v1 1))]) [1, 0] rfl ?_
    exact ih _ _

def f_City_measure_L57 (t : Nat) (k115 : gH → Option gO) : Nat → Int → gH → Option gO
  | 0, _, _ => none
  | n + 1, v1, h => if (h t 2) ≤ v1 then (k115  h) else (gd (gix 9 v1) (gd (gix 9 v1) (gd (gix 9 v1) (gb (f_City_shorten t (h (t + 1) v1.toNat) (h (t + 2) v1.toNat) (h (t + 3) v1.toNat) h) (fun h8 r9 => gd (gix 9 v1) (gd (gix 9 v1) (gd (gix 9 v1) (gb (f_City_shorten t (h8 (t + 2) v1.toNat) (h8 (t + 1) v1.toNat) (h8 (t + 3) v1.toNat) h8) (fun h10 r11 => f_City_measure_L57 t k115 n (gadd v1 1) h10)))))))))
theorem w_City_measure_L57 {o : gO} {X : gX} (hL : gLive (xZ X)) (hn : (zL (xZ X)).Nodup) (hF : gFin X none o) {t : Nat} (ht : gsh t = .inr 0)  {k115 : gH → Option gO} (hk115 : ∀ (h : gH), gr (k115 h) o gm_City_measure X h 115 [(0, .inr (.inr t))] []) : ∀ (n : Nat) (v1 : Int) (h : gH), gr (f_City_measure_L57 t k115 n v1 h) o gm_City_measure X h 57 [(0, .inr (.inr t)), (1, .inl v1)] [] := by
  intro n
  induction n with
  | zero => intros; exact gr_none
  | succ n ih =>
    intro v1 h
    unfold f_City_measure_L57
    refine gr_iload_n (M := gm_City_measure) dq_City_measure_57 rfl 1 rfl 58 rfl ?_
    refine gr_aload_n (M := gm_City_measure) dq_City_measure_58 rfl 0 rfl 59 rfl ?_
    refine gr_geti (M := gm_City_measure) dq_City_measure_59 62 rfl gfl_City_52 ht rfl (gli hL ht) ?_
    refine gr_icmp_ge (M := gm_City_measure) dq_City_measure_62 115 65 rfl rfl (fun c7 => ?_) (fun c7 => ?_)
    · refine gr_sub (M := gm_City_measure) (lv' := [(0, .inr (.inr t))]) [0] rfl ?_
      exact hk115  _
    refine gr_aload_n (M := gm_City_measure) dq_City_measure_65 rfl 0 rfl 66 rfl ?_
    refine gr_aload_n (M := gm_City_measure) dq_City_measure_66 rfl 0 rfl 67 rfl ?_
    refine gr_getr (M := gm_City_measure) dq_City_measure_67 70 rfl gfl_City_11 ht rfl (gli hL ht) (t + 1) rfl ?_
    refine gr_iload_n (M := gm_City_measure) dq_City_measure_70 rfl 1 rfl 71 rfl ?_
    refine gr_iald (M := gm_City_measure) dq_City_measure_71 72 rfl (gsC_1 ht) (glj hL (gsC_1 ht) (by decide)) ?_
    refine gr_aload_n (M := gm_City_measure) dq_City_measure_72 rfl 0 rfl 73 rfl ?_
    refine gr_getr (M := gm_City_measure) dq_City_measure_73 76 rfl gfl_City_15 ht rfl (gli hL ht) (t + 2) rfl ?_
    refine gr_iload_n (M := gm_City_measure) dq_City_measure_76 rfl 1 rfl 77 rfl ?_
    refine gr_iald (M := gm_City_measure) dq_City_measure_77 78 rfl (gsC_2 ht) (glj hL (gsC_2 ht) (by decide)) ?_
    refine gr_aload_n (M := gm_City_measure) dq_City_measure_78 rfl 0 rfl 79 rfl ?_
    refine gr_getr (M := gm_City_measure) dq_City_measure_79 82 rfl gfl_City_18 ht rfl (gli hL ht) (t + 3) rfl ?_
    refine gr_iload_n (M := gm_City_measure) dq_City_measure_82 rfl 1 rfl 83 rfl ?_
    refine gr_iald (M := gm_City_measure) dq_City_measure_83 84 rfl (gsC_3 ht) (glj hL (gsC_3 ht) (by decide)) ?_
    refine gr_callVv (M := gm_City_measure) (as := [.inl (h (t + 1) v1.toNat), .inl (h (t + 2) v1.toNat), .inl (h (t + 3) v1.toNat)]) dq_City_measure_84 87 rfl rfl gcy_City_58 gim_City_shorten gse_City_shorten ⟨by decide, by decide⟩ (Nat.le_of_ble_eq_true rfl) ht rfl (gli hL ht) (fun o1 hg ha hx => c_City_shorten hL hn ht hg ha hx) (fun h8 r9 _ => ?_)
    refine gr_aload_n (M := gm_City_measure) dq_City_measure_87 rfl 0 rfl 88 rfl ?_
    refine gr_aload_n (M := gm_City_measure) dq_City_measure_88 rfl 0 rfl 89 rfl ?_
    refine gr_getr (M := gm_City_measure) dq_City_measure_89 92 rfl gfl_City_15 ht rfl (gli hL ht) (t + 2) rfl ?_
    refine gr_iload_n (M := gm_City_measure) dq_City_measure_92 rfl 1 rfl 93 rfl ?_
    refine gr_iald (M := gm_City_measure) dq_City_measure_93 94 rfl (gsC_2 ht) (glj hL (gsC_2 ht) (by decide)) ?_
    refine gr_aload_n (M := gm_City_measure) dq_City_measure_94 rfl 0 rfl 95 rfl ?_
    refine gr_getr (M := gm_City_measure) dq_City_measure_95 98 rfl gfl_City_11 ht rfl (gli hL ht) (t + 1) rfl ?_
    refine gr_iload_n (M := gm_City_measure) dq_City_measure_98 rfl 1 rfl 99 rfl ?_
    refine gr_iald (M := gm_City_measure) dq_City_measure_99 100 rfl (gsC_1 ht) (glj hL (gsC_1 ht) (by decide)) ?_
    refine gr_aload_n (M := gm_City_measure) dq_City_measure_100 rfl 0 rfl 101 rfl ?_
    refine gr_getr (M := gm_City_measure) dq_City_measure_101 104 rfl gfl_City_18 ht rfl (gli hL ht) (t + 3) rfl ?_
    refine gr_iload_n (M := gm_City_measure) dq_City_measure_104 rfl 1 rfl 105 rfl ?_
    refine gr_iald (M := gm_City_measure) dq_City_measure_105 106 rfl (gsC_3 ht) (glj hL (gsC_3 ht) (by decide)) ?_
    refine gr_callVv (M := gm_City_measure) (as := [.inl (h8 (t + 2) v1.toNat), .inl (h8 (t + 1) v1.toNat), .inl (h8 (t + 3) v1.toNat)]) dq_City_measure_106 109 rfl rfl gcy_City_58 gim_City_shorten gse_City_shorten ⟨by decide, by decide⟩ (Nat.le_of_ble_eq_true rfl) ht rfl (gli hL ht) (fun o1 hg ha hx => c_City_shorten hL hn ht hg ha hx) (fun h10 r11 _ => ?_)
    refine gr_iinc (M := gm_City_measure) (lv' := [(1, .inl (gadd v1 1)), (0, .inr (.inr t))]) dq_City_measure_109 1 rfl rfl (by decide) rfl 112 rfl ?_
    refine gr_goto (M := gm_City_measure) dq_City_measure_112 57 rfl ?_
    refine gr_sub (M := gm_City_measure) (lv' := [(0, .inr (.inr t)), (1, .inl (gadd v1 1))]) [1, 0] rfl ?_
    exact ih _ _

def f_City_measure_L137 (t : Nat) (v1 : Int) (v2 : Int) (k170 : gH → Option gO) : Nat → Int → gH → Option gO
  | 0, _, _ => none
  | n + 1, v3, h => if (h t 0) ≤ v3 then (k170  h) else (gb (f_City_distance t v2 v1 h) (fun h16 r17 => gb (f_City_distance t v1 v3 h16) (fun h18 r19 => gb (f_City_shorten t v2 v3 (gadd r17 r19) h18) (fun h20 r21 => f_City_measure_L137 t v1 v2 k170 n (gadd v3 1) h20))))
theorem w_City_measure_L137 {o : gO} {X : gX} (hL : gLive (xZ X)) (hn : (zL (xZ X)).Nodup) (hF : gFin X none o) {t : Nat} {v1 : Int} {v2 : Int} (ht : gsh t = .inr 0)  {k170 : gH → Option gO} (hk170 : ∀ (h : gH), gr (k170 h) o gm_City_measure X h 170 [(0, .inr (.inr t)), (1, .inl v1), (2, .inl v2)] []) : ∀ (n : Nat) (v3 : Int) (h : gH), gr (f_City_measure_L137 t v1 v2 k170 n v3 h) o gm_City_measure X h 137 [(0, .inr (.inr t)), (1, .inl v1), (2, .inl v2), (3, .inl v3)] [] := by
  intro n
  induction n with
  | zero => intros; exact gr_none
  | succ n ih =>
    intro v3 h
    unfold f_City_measure_L137
    refine gr_iload_n (M := gm_City_measure) dq_City_measure_137 rfl 3 rfl 138 rfl ?_
    refine gr_aload_n (M := gm_City_measure) dq_City_measure_138 rfl 0 rfl 139 rfl ?_
    refine gr_geti (M := gm_City_measure) dq_City_measure_139 142 rfl gfl_City_45 ht rfl (gli hL ht) ?_
    refine gr_icmp_ge (M := gm_City_measure) dq_City_measure_142 170 145 rfl rfl (fun c15 => ?_) (fun c15 => ?_)
    · refine gr_sub (M := gm_City_measure) (lv' := [(0, .inr (.inr t)), (1, .inl v1), (2, .inl v2)]) [0, 1, 2] rfl ?_
      exact hk170  _
    refine gr_aload_n (M := gm_City_measure) dq_City_measure_145 rfl 0 rfl 146 rfl ?_
    refine gr_iload_n (M := gm_City_measure) dq_City_measure_146 rfl 2 rfl 147 rfl ?_
    refine gr_iload_n (M := gm_City_measure) dq_City_measure_147 rfl 3 rfl 148 rfl ?_
    refine gr_aload_n (M := gm_City_measure) dq_City_measure_148 rfl 0 rfl 149 rfl ?_
    refine gr_iload_n (M := gm_City_measure) dq_City_measure_149 rfl 2 rfl 150 rfl ?_
    refine gr_iload_n (M := gm_City_measure) dq_City_measure_150 rfl 1 rfl 151 rfl ?_
    refine gr_callVi (M := gm_City_measure) (as := [.inl v2, .inl v1]) dq_City_measure_151 154 rfl rfl gcy_City_62 gim_City_distance gse_City_distance ⟨by decide, by decide⟩ (Nat.le_of_ble_eq_true rfl) ht rfl (gli hL ht) (fun o1 hg ha hx => c_City_distance hL hn ht hg ha hx) (fun h16 r17 _ => ?_)
    refine gr_aload_n (M := gm_City_measure) dq_City_measure_154 rfl 0 rfl 155 rfl ?_
    refine gr_iload_n (M := gm_City_measure) dq_City_measure_155 rfl 1 rfl 156 rfl ?_
    refine gr_iload_n (M := gm_City_measure) dq_City_measure_156 rfl 3 rfl 157 rfl ?_
    refine gr_callVi (M := gm_City_measure) (as := [.inl v1, .inl v3]) dq_City_measure_157 160 rfl rfl gcy_City_62 gim_City_distance gse_City_distance ⟨by decide, by decide⟩ (Nat.le_of_ble_eq_true rfl) ht rfl (gli hL ht) (fun o1 hg ha hx => c_City_distance hL hn ht hg ha hx) (fun h18 r19 _ => ?_)
    refine gr_iadd (M := gm_City_measure) dq_City_measure_160 161 rfl ?_
    refine gr_callVv (M := gm_City_measure) (as := [.inl v2, .inl v3, .inl (gadd r17 r19)]) dq_City_measure_161 164 rfl rfl gcy_City_58 gim_City_shorten gse_City_shorten ⟨by decide, by decide⟩ (Nat.le_of_ble_eq_true rfl) ht rfl (gli hL ht) (fun o1 hg ha hx => c_City_shorten hL hn ht hg ha hx) (fun h20 r21 _ => ?_)
    refine gr_iinc (M := gm_City_measure) (lv' := [(3, .inl (gadd v3 1)), (0, .inr (.inr t)), (1, .inl v1), (2, .inl v2)]) dq_City_measure_164 3 rfl rfl (by decide) rfl 167 rfl ?_
    refine gr_goto (M := gm_City_measure) dq_City_measure_167 137 rfl ?_
    refine gr_sub (M := gm_City_measure) (lv' := [(0, .inr (.inr t)), (1, .inl v1), (2, .inl v2), (3, .inl (gadd v3 1))]) [1, 2, 3, 0] rfl ?_
    exact ih _ _

def f_City_measure_L127 (t : Nat) (v1 : Int) (k176 : gH → Option gO) : Nat → Int → gH → Option gO
  | 0, _, _ => none
  | n + 1, v2, h => if (h t 0) ≤ v2 then (k176  h) else (f_City_measure_L137 t v1 v2 (fun  h22 => f_City_measure_L127 t v1 k176 n (gadd v2 1) h22) 50000 0 h)
theorem w_City_measure_L127 {o : gO} {X : gX} (hL : gLive (xZ X)) (hn : (zL (xZ X)).Nodup) (hF : gFin X none o) {t : Nat} {v1 : Int} (ht : gsh t = .inr 0)  {k176 : gH → Option gO} (hk176 : ∀ (h : gH), gr (k176 h) o gm_City_measure X h 176 [(0, .inr (.inr t)), (1, .inl v1)] []) : ∀ (n : Nat) (v2 : Int) (h : gH), gr (f_City_measure_L127 t v1 k176 n v2 h) o gm_City_measure X h 127 [(0, .inr (.inr t)), (1, .inl v1), (2, .inl v2)] [] := by
  intro n
  induction n with
  | zero => intros; exact gr_none
  | succ n ih =>
    intro v2 h
    unfold f_City_measure_L127
    refine gr_iload_n (M := gm_City_measure) dq_City_measure_127 rfl 2 rfl 128 rfl ?_
    refine gr_aload_n (M := gm_City_measure) dq_City_measure_128 rfl 0 rfl 129 rfl ?_
    refine gr_geti (M := gm_City_measure) dq_City_measure_129 132 rfl gfl_City_45 ht rfl (gli hL ht) ?_
    refine gr_icmp_ge (M := gm_City_measure) dq_City_measure_132 176 135 rfl rfl (fun c14 => ?_) (fun c14 => ?_)
    · refine gr_sub (M := gm_City_measure) (lv' := [(0, .inr (.inr t)), (1, .inl v1)]) [0, 1] rfl ?_
      exact hk176  _
    refine gr_iconst (M := gm_City_measure) (v := 0) dq_City_measure_135 rfl ⟨by decide, by decide⟩ 136 rfl ?_
    refine gr_istore_n (M := gm_City_measure) (lv' := [(3, .inl 0), (0, .inr (.inr t)), (1, .inl v1), (2, .inl v2)]) dq_City_measure_136 rfl (by decide) rfl 137 rfl ?_
    refine gr_sub (M := gm_City_measure) (lv' := [(0, .inr (.inr t)), (1, .inl v1), (2, .inl v2), (3, .inl 0)]) [1, 2, 3, 0] rfl ?_
    refine w_City_measure_L137 hL hn hF ht  (fun h22 => ?_) 50000 _ _
    refine gr_iinc (M := gm_City_measure) (lv' := [(2, .inl (gadd v2 1)), (0, .inr (.inr t)), (1, .inl v1)]) dq_City_measure_170 2 rfl rfl (by decide) rfl 173 rfl ?_
    refine gr_goto (M := gm_City_measure) dq_City_measure_173 127 rfl ?_
    refine gr_sub (M := gm_City_measure) (lv' := [(0, .inr (.inr t)), (1, .inl v1), (2, .inl (gadd v2 1))]) [1, 2, 0] rfl ?_
    exact ih _ _

def f_City_measure_L117 (t : Nat) (k182 : gH → Option gO) : Nat → Int → gH → Option gO
  | 0, _, _ => none
  | n + 1, v1, h => if (h t 0) ≤ v1 then (k182  h) else (f_City_measure_L127 t v1 (fun  h23 => f_City_measure_L117 t k182 n (gadd v1 1) h23) 50000 0 h)
theorem w_City_measure_L117 {o : gO} {X : gX} (hL : gLive (xZ X)) (hn : (zL (xZ X)).Nodup) (hF : gFin X none o) {t : Nat} (ht : gsh t = .inr 0)  {k182 : gH → Option gO} (hk182 : ∀ (h : gH), gr (k182 h) o gm_City_measure X h 182 [(0, .inr (.inr t))] []) : ∀ (n : Nat) (v1 : Int) (h : gH), gr (f_City_measure_L117 t k182 n v1 h) o gm_City_measure X h 117 [(0, .inr (.inr t)), (1, .inl v1)] [] := by
  intro n
  induction n with
  | zero => intros; exact gr_none
  | succ n ih =>
    intro v1 h
    unfold f_City_measure_L117
    refine gr_iload_n (M := gm_City_measure) dq_City_measure_117 rfl 1 rfl 118 rfl ?_
    refine gr_aload_n (M := gm_City_measure) dq_City_measure_118 rfl 0 rfl 119 rfl ?_
    refine gr_geti (M := gm_City_measure) dq_City_measure_119 122 rfl gfl_City_45 ht rfl (gli hL ht) ?_
    refine gr_icmp_ge (M := gm_City_measure) dq_City_measure_122 182 125 rfl rfl (fun c13 => ?_) (fun c13 => ?_)
    · refine gr_sub (M := gm_City_measure) (lv' := [(0, .inr (.inr t))]) [0] rfl ?_
      exact hk182  _
    refine gr_iconst (M := gm_City_measure) (v := 0) dq_City_measure_125 rfl ⟨by decide, by decide⟩ 126 rfl ?_
    refine gr_istore_n (M := gm_City_measure) (lv' := [(2, .inl 0), (0, .inr (.inr t)), (1, .inl v1)]) dq_City_measure_126 rfl (by decide) rfl 127 rfl ?_
    refine gr_sub (M := gm_City_measure) (lv' := [(0, .inr (.inr t)), (1, .inl v1), (2, .inl 0)]) [1, 2, 0] rfl ?_
    refine w_City_measure_L127 hL hn hF ht  (fun h23 => ?_) 50000 _ _
    refine gr_iinc (M := gm_City_measure) (lv' := [(1, .inl (gadd v1 1)), (0, .inr (.inr t))]) dq_City_measure_176 1 rfl rfl (by decide) rfl 179 rfl ?_
    refine gr_goto (M := gm_City_measure) dq_City_measure_179 117 rfl ?_
    refine gr_sub (M := gm_City_measure) (lv' := [(0, .inr (.inr t)), (1, .inl (gadd v1 1))]) [1, 0] rfl ?_
    exact ih _ _

def f_City_measure (t : Nat) (h : gH) : Option gO := f_City_measure_L2 t (fun  h6 => f_City_measure_L57 t (fun  h12 => f_City_measure_L117 t (fun  h24 => gb (f_City_lead t h24) (fun h25 r26 => some (h25, 0))) 50000 0 h12) 50000 0 h6) 50000 0 h
theorem c_City_measure {Z : gZ} (hL : gLive Z) (hn : (zL Z).Nodup) {t : Nat} (ht : gsh t = .inr 0) {h : gH} {o : gO} (hg : gRg h) (ha : gRl [.inr (.inr t)]) (hx : f_City_measure t h = some o) : gC Z gy_City_measure gc_City_measure 4 none 3 69 [.inr (.inr t)] h o := by
  unfold f_City_measure at hx
  refine gC_of (lv := [(0, .inr (.inr t))]) (own := gR_0) (by decide +kernel) rfl (Nat.le_of_ble_eq_true rfl) rfl rfl hn hg ha hx (fun X hZ hF => ?_)
  subst hZ
  show gr _ o gm_City_measure X h 0 _ _
  refine gr_iconst (M := gm_City_measure) (v := 0) dq_City_measure_0 rfl ⟨by decide, by decide⟩ 1 rfl ?_
  refine gr_istore_n (M := gm_City_measure) (lv' := [(1, .inl 0), (0, .inr (.inr t))]) dq_City_measure_1 rfl (by decide) rfl 2 rfl ?_
  refine gr_sub (M := gm_City_measure) (lv' := [(0, .inr (.inr t)), (1, .inl 0)]) [1, 0] rfl ?_
  refine w_City_measure_L2 hL hn hF ht  (fun h6 => ?_) 50000 _ _
  refine gr_iconst (M := gm_City_measure) (v := 0) dq_City_measure_55 rfl ⟨by decide, by decide⟩ 56 rfl ?_
  refine gr_istore_n (M := gm_City_measure) (lv' := [(1, .inl 0), (0, .inr (.inr t))]) dq_City_measure_56 rfl (by decide) rfl 57 rfl ?_
  refine gr_sub (M := gm_City_measure) (lv' := [(0, .inr (.inr t)), (1, .inl 0)]) [1, 0] rfl ?_
  refine w_City_measure_L57 hL hn hF ht  (fun h12 => ?_) 50000 _ _
  refine gr_iconst (M := gm_City_measure) (v := 0) dq_City_measure_115 rfl ⟨by decide, by decide⟩ 116 rfl ?_
  refine gr_istore_n (M := gm_City_measure) (lv' := [(1, .inl 0), (0, .inr (.inr t))]) dq_City_measure_116 rfl (by decide) rfl 117 rfl ?_
  refine gr_sub (M := gm_City_measure) (lv' := [(0, .inr (.inr t)), (1, .inl 0)]) [1, 0] rfl ?_
  refine w_City_measure_L117 hL hn hF ht  (fun h24 => ?_) 50000 _ _
  refine gr_aload_n (M := gm_City_measure) dq_City_measure_182 rfl 0 rfl 183 rfl ?_
  refine gr_callVv (M := gm_City_measure) (as := []) dq_City_measure_183 186 rfl rfl gcy_City_66 gim_City_lead gse_City_lead ⟨by decide, by decide⟩ (Nat.le_of_ble_eq_true rfl) ht rfl (gli hL ht) (fun o1 hg ha hx => c_City_lead hL hn ht hg ha hx) (fun h25 r26 _ => ?_)
  exact gr_return (M := gm_City_measure) dq_City_measure_186 hF
end
