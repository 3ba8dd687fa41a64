section
-- ===== PART A: goes FIRST, ahead of the names: the tables' words, and 'selects' of the private methods out of them =====
/-- a private method of a class that the tables say can be made, by its rows of tables_1 -/
def lw_okq (q : MethodName × Nat) : Prop := (q.1.cls ≠ "java/lang/invoke/MethodHandle" ∧ q.1.cls ≠ "java/lang/invoke/VarHandle") ∧ Cond.instantiable q.1.cls q.2 ∈ tables_1 ∧ Cond.privateMethod q.1 ∈ tables_1 ∧ Cond.instanceMethod q.1 ∈ tables_1
theorem lw_p0 : lw_okq (⟨"SignRoots", "save", "()V"⟩, 9) := ⟨⟨by decide +kernel, by decide +kernel⟩, List.mem_of_getElem? (i := 14) (by decide +kernel), List.mem_of_getElem? (i := 115) (by decide +kernel), List.mem_of_getElem? (i := 116) (by decide +kernel)⟩
theorem lw_p1 : lw_okq (⟨"SignRoots", "dropOldest", "()V"⟩, 9) := ⟨⟨by decide +kernel, by decide +kernel⟩, List.mem_of_getElem? (i := 14) (by decide +kernel), List.mem_of_getElem? (i := 119) (by decide +kernel), List.mem_of_getElem? (i := 120) (by decide +kernel)⟩
theorem lw_p2 : lw_okq (⟨"SignRoots", "errorPlace", "()I"⟩, 9) := ⟨⟨by decide +kernel, by decide +kernel⟩, List.mem_of_getElem? (i := 14) (by decide +kernel), List.mem_of_getElem? (i := 138) (by decide +kernel), List.mem_of_getElem? (i := 139) (by decide +kernel)⟩
theorem lw_p3 : lw_okq (⟨"java/lang/Throwable", "fillInStackTrace", "(I)Ljava/lang/Throwable;"⟩, 6) := ⟨⟨by decide +kernel, by decide +kernel⟩, List.mem_of_getElem? (i := 195) (by decide +kernel), List.mem_of_getElem? (i := 193) (by decide +kernel), List.mem_of_getElem? (i := 194) (by decide +kernel)⟩
theorem lw_p4 : lw_okq (⟨"SignRoots", "rootsOfSign", "(I)I"⟩, 9) := ⟨⟨by decide +kernel, by decide +kernel⟩, List.mem_of_getElem? (i := 14) (by decide +kernel), List.mem_of_getElem? (i := 225) (by decide +kernel), List.mem_of_getElem? (i := 226) (by decide +kernel)⟩
theorem lw_p5 : lw_okq (⟨"SignRoots", "withRootOne", "()I"⟩, 9) := ⟨⟨by decide +kernel, by decide +kernel⟩, List.mem_of_getElem? (i := 14) (by decide +kernel), List.mem_of_getElem? (i := 232) (by decide +kernel), List.mem_of_getElem? (i := 233) (by decide +kernel)⟩
theorem lw_p6 : lw_okq (⟨"SignRoots", "mixedPolynomial", "(J[I)J"⟩, 9) := ⟨⟨by decide +kernel, by decide +kernel⟩, List.mem_of_getElem? (i := 14) (by decide +kernel), List.mem_of_getElem? (i := 252) (by decide +kernel), List.mem_of_getElem? (i := 253) (by decide +kernel)⟩
theorem lw_p7 : lw_okq (⟨"SignRoots$Division", "fits", "(I)Z"⟩, 6) := ⟨⟨by decide +kernel, by decide +kernel⟩, List.mem_of_getElem? (i := 54) (by decide +kernel), List.mem_of_getElem? (i := 288) (by decide +kernel), List.mem_of_getElem? (i := 289) (by decide +kernel)⟩
theorem lw_p8 : lw_okq (⟨"SignRoots", "bestForm", "(I)I"⟩, 9) := ⟨⟨by decide +kernel, by decide +kernel⟩, List.mem_of_getElem? (i := 14) (by decide +kernel), List.mem_of_getElem? (i := 299) (by decide +kernel), List.mem_of_getElem? (i := 300) (by decide +kernel)⟩
theorem lw_p9 : lw_okq (⟨"SignRoots", "quotientsOf", "([II)I"⟩, 9) := ⟨⟨by decide +kernel, by decide +kernel⟩, List.mem_of_getElem? (i := 14) (by decide +kernel), List.mem_of_getElem? (i := 303) (by decide +kernel), List.mem_of_getElem? (i := 304) (by decide +kernel)⟩
theorem lw_p10 : lw_okq (⟨"SignRoots", "mixedPairs", "(J)J"⟩, 9) := ⟨⟨by decide +kernel, by decide +kernel⟩, List.mem_of_getElem? (i := 14) (by decide +kernel), List.mem_of_getElem? (i := 316) (by decide +kernel), List.mem_of_getElem? (i := 317) (by decide +kernel)⟩
theorem lw_p11 : lw_okq (⟨"SignRoots", "mixedWhole", "(J)J"⟩, 9) := ⟨⟨by decide +kernel, by decide +kernel⟩, List.mem_of_getElem? (i := 14) (by decide +kernel), List.mem_of_getElem? (i := 335) (by decide +kernel), List.mem_of_getElem? (i := 336) (by decide +kernel)⟩
theorem lw_p12 : lw_okq (⟨"SignRoots", "expandWhole", "()V"⟩, 9) := ⟨⟨by decide +kernel, by decide +kernel⟩, List.mem_of_getElem? (i := 14) (by decide +kernel), List.mem_of_getElem? (i := 339) (by decide +kernel), List.mem_of_getElem? (i := 340) (by decide +kernel)⟩
theorem lw_p13 : lw_okq (⟨"SignRoots", "mixedTexts", "(J)J"⟩, 9) := ⟨⟨by decide +kernel, by decide +kernel⟩, List.mem_of_getElem? (i := 14) (by decide +kernel), List.mem_of_getElem? (i := 343) (by decide +kernel), List.mem_of_getElem? (i := 344) (by decide +kernel)⟩
theorem lw_p14 : lw_okq (⟨"SignRoots", "degreesTogether", "()I"⟩, 9) := ⟨⟨by decide +kernel, by decide +kernel⟩, List.mem_of_getElem? (i := 14) (by decide +kernel), List.mem_of_getElem? (i := 463) (by decide +kernel), List.mem_of_getElem? (i := 464) (by decide +kernel)⟩
theorem lw_p15 : lw_okq (⟨"SignRootsModel", "fails", "(I)I"⟩, 13) := ⟨⟨by decide +kernel, by decide +kernel⟩, List.mem_of_getElem? (i := 560) (by decide +kernel), List.mem_of_getElem? (i := 620) (by decide +kernel), List.mem_of_getElem? (i := 621) (by decide +kernel)⟩
def lw_privs_1 : List (MethodName × Nat) := [(⟨"SignRoots", "save", "()V"⟩, 9), (⟨"SignRoots", "dropOldest", "()V"⟩, 9), (⟨"SignRoots", "errorPlace", "()I"⟩, 9), (⟨"java/lang/Throwable", "fillInStackTrace", "(I)Ljava/lang/Throwable;"⟩, 6), (⟨"SignRoots", "rootsOfSign", "(I)I"⟩, 9), (⟨"SignRoots", "withRootOne", "()I"⟩, 9), (⟨"SignRoots", "mixedPolynomial", "(J[I)J"⟩, 9), (⟨"SignRoots$Division", "fits", "(I)Z"⟩, 6), (⟨"SignRoots", "bestForm", "(I)I"⟩, 9), (⟨"SignRoots", "quotientsOf", "([II)I"⟩, 9), (⟨"SignRoots", "mixedPairs", "(J)J"⟩, 9), (⟨"SignRoots", "mixedWhole", "(J)J"⟩, 9), (⟨"SignRoots", "expandWhole", "()V"⟩, 9), (⟨"SignRoots", "mixedTexts", "(J)J"⟩, 9), (⟨"SignRoots", "degreesTogether", "()I"⟩, 9), (⟨"SignRootsModel", "fails", "(I)I"⟩, 13)]
theorem lw_r1 : ∀ q ∈ lw_privs_1, lw_okq q := List.forall_mem_cons.mpr ⟨lw_p0, List.forall_mem_cons.mpr ⟨lw_p1, List.forall_mem_cons.mpr ⟨lw_p2, List.forall_mem_cons.mpr ⟨lw_p3, List.forall_mem_cons.mpr ⟨lw_p4, List.forall_mem_cons.mpr ⟨lw_p5, List.forall_mem_cons.mpr ⟨lw_p6, List.forall_mem_cons.mpr ⟨lw_p7, List.forall_mem_cons.mpr ⟨lw_p8, List.forall_mem_cons.mpr ⟨lw_p9, List.forall_mem_cons.mpr ⟨lw_p10, List.forall_mem_cons.mpr ⟨lw_p11, List.forall_mem_cons.mpr ⟨lw_p12, List.forall_mem_cons.mpr ⟨lw_p13, List.forall_mem_cons.mpr ⟨lw_p14, List.forall_mem_cons.mpr ⟨lw_p15, fun _ h => absurd h List.not_mem_nil⟩⟩⟩⟩⟩⟩⟩⟩⟩⟩⟩⟩⟩⟩⟩⟩
theorem lw_p16 : lw_okq (⟨"SignRootsModel", "saves", "()V"⟩, 13) := ⟨⟨by decide +kernel, by decide +kernel⟩, List.mem_of_getElem? (i := 560) (by decide +kernel), List.mem_of_getElem? (i := 627) (by decide +kernel), List.mem_of_getElem? (i := 628) (by decide +kernel)⟩
theorem lw_p17 : lw_okq (⟨"SignRootsModel", "degree", "(I)I"⟩, 13) := ⟨⟨by decide +kernel, by decide +kernel⟩, List.mem_of_getElem? (i := 560) (by decide +kernel), List.mem_of_getElem? (i := 631) (by decide +kernel), List.mem_of_getElem? (i := 632) (by decide +kernel)⟩
theorem lw_p18 : lw_okq (⟨"SignRootsModel", "signAt", "(II)I"⟩, 13) := ⟨⟨by decide +kernel, by decide +kernel⟩, List.mem_of_getElem? (i := 560) (by decide +kernel), List.mem_of_getElem? (i := 635) (by decide +kernel), List.mem_of_getElem? (i := 636) (by decide +kernel)⟩
theorem lw_p19 : lw_okq (⟨"SignRootsModel", "refuses", "(I)I"⟩, 13) := ⟨⟨by decide +kernel, by decide +kernel⟩, List.mem_of_getElem? (i := 560) (by decide +kernel), List.mem_of_getElem? (i := 639) (by decide +kernel), List.mem_of_getElem? (i := 640) (by decide +kernel)⟩
theorem lw_p20 : lw_okq (⟨"SignRootsModel", "divides", "(II)I"⟩, 13) := ⟨⟨by decide +kernel, by decide +kernel⟩, List.mem_of_getElem? (i := 560) (by decide +kernel), List.mem_of_getElem? (i := 651) (by decide +kernel), List.mem_of_getElem? (i := 652) (by decide +kernel)⟩
theorem lw_p21 : lw_okq (⟨"SignRootsModel", "laysRow", "(II)V"⟩, 13) := ⟨⟨by decide +kernel, by decide +kernel⟩, List.mem_of_getElem? (i := 560) (by decide +kernel), List.mem_of_getElem? (i := 655) (by decide +kernel), List.mem_of_getElem? (i := 656) (by decide +kernel)⟩
theorem lw_p22 : lw_okq (⟨"SignRootsModel", "isQuotient", "(III)Z"⟩, 13) := ⟨⟨by decide +kernel, by decide +kernel⟩, List.mem_of_getElem? (i := 560) (by decide +kernel), List.mem_of_getElem? (i := 659) (by decide +kernel), List.mem_of_getElem? (i := 660) (by decide +kernel)⟩
theorem lw_p23 : lw_okq (⟨"SignRootsModel", "notes", "(II)V"⟩, 13) := ⟨⟨by decide +kernel, by decide +kernel⟩, List.mem_of_getElem? (i := 560) (by decide +kernel), List.mem_of_getElem? (i := 666) (by decide +kernel), List.mem_of_getElem? (i := 667) (by decide +kernel)⟩
theorem lw_p24 : lw_okq (⟨"SignRootsModel", "multiplies", "()V"⟩, 13) := ⟨⟨by decide +kernel, by decide +kernel⟩, List.mem_of_getElem? (i := 560) (by decide +kernel), List.mem_of_getElem? (i := 685) (by decide +kernel), List.mem_of_getElem? (i := 686) (by decide +kernel)⟩
theorem lw_p25 : lw_okq (⟨"SignRootsModel", "error", "()I"⟩, 13) := ⟨⟨by decide +kernel, by decide +kernel⟩, List.mem_of_getElem? (i := 560) (by decide +kernel), List.mem_of_getElem? (i := 701) (by decide +kernel), List.mem_of_getElem? (i := 702) (by decide +kernel)⟩
theorem lw_p26 : lw_okq (⟨"SignRootsModel", "degrees", "()I"⟩, 13) := ⟨⟨by decide +kernel, by decide +kernel⟩, List.mem_of_getElem? (i := 560) (by decide +kernel), List.mem_of_getElem? (i := 713) (by decide +kernel), List.mem_of_getElem? (i := 714) (by decide +kernel)⟩
theorem lw_p27 : lw_okq (⟨"SignRootsModel", "tells", "(II)I"⟩, 13) := ⟨⟨by decide +kernel, by decide +kernel⟩, List.mem_of_getElem? (i := 560) (by decide +kernel), List.mem_of_getElem? (i := 733) (by decide +kernel), List.mem_of_getElem? (i := 734) (by decide +kernel)⟩
theorem lw_p28 : lw_okq (⟨"SignRootsModel", "often", "(II)I"⟩, 13) := ⟨⟨by decide +kernel, by decide +kernel⟩, List.mem_of_getElem? (i := 560) (by decide +kernel), List.mem_of_getElem? (i := 737) (by decide +kernel), List.mem_of_getElem? (i := 738) (by decide +kernel)⟩
theorem lw_p29 : lw_okq (⟨"SignRootsModel", "has", "(II)Z"⟩, 13) := ⟨⟨by decide +kernel, by decide +kernel⟩, List.mem_of_getElem? (i := 560) (by decide +kernel), List.mem_of_getElem? (i := 748) (by decide +kernel), List.mem_of_getElem? (i := 749) (by decide +kernel)⟩
theorem lw_p30 : lw_okq (⟨"SignRootsModel", "bestForm", "(II)I"⟩, 13) := ⟨⟨by decide +kernel, by decide +kernel⟩, List.mem_of_getElem? (i := 560) (by decide +kernel), List.mem_of_getElem? (i := 764) (by decide +kernel), List.mem_of_getElem? (i := 765) (by decide +kernel)⟩
theorem lw_p31 : lw_okq (⟨"SignRootsModel", "rows", "(III)I"⟩, 13) := ⟨⟨by decide +kernel, by decide +kernel⟩, List.mem_of_getElem? (i := 560) (by decide +kernel), List.mem_of_getElem? (i := 772) (by decide +kernel), List.mem_of_getElem? (i := 773) (by decide +kernel)⟩
def lw_privs_2 : List (MethodName × Nat) := [(⟨"SignRootsModel", "saves", "()V"⟩, 13), (⟨"SignRootsModel", "degree", "(I)I"⟩, 13), (⟨"SignRootsModel", "signAt", "(II)I"⟩, 13), (⟨"SignRootsModel", "refuses", "(I)I"⟩, 13), (⟨"SignRootsModel", "divides", "(II)I"⟩, 13), (⟨"SignRootsModel", "laysRow", "(II)V"⟩, 13), (⟨"SignRootsModel", "isQuotient", "(III)Z"⟩, 13), (⟨"SignRootsModel", "notes", "(II)V"⟩, 13), (⟨"SignRootsModel", "multiplies", "()V"⟩, 13), (⟨"SignRootsModel", "error", "()I"⟩, 13), (⟨"SignRootsModel", "degrees", "()I"⟩, 13), (⟨"SignRootsModel", "tells", "(II)I"⟩, 13), (⟨"SignRootsModel", "often", "(II)I"⟩, 13), (⟨"SignRootsModel", "has", "(II)Z"⟩, 13), (⟨"SignRootsModel", "bestForm", "(II)I"⟩, 13), (⟨"SignRootsModel", "rows", "(III)I"⟩, 13)]
theorem lw_r2 : ∀ q ∈ lw_privs_2, lw_okq q := List.forall_mem_cons.mpr ⟨lw_p16, List.forall_mem_cons.mpr ⟨lw_p17, List.forall_mem_cons.mpr ⟨lw_p18, List.forall_mem_cons.mpr ⟨lw_p19, List.forall_mem_cons.mpr ⟨lw_p20, List.forall_mem_cons.mpr ⟨lw_p21, List.forall_mem_cons.mpr ⟨lw_p22, List.forall_mem_cons.mpr ⟨lw_p23, List.forall_mem_cons.mpr ⟨lw_p24, List.forall_mem_cons.mpr ⟨lw_p25, List.forall_mem_cons.mpr ⟨lw_p26, List.forall_mem_cons.mpr ⟨lw_p27, List.forall_mem_cons.mpr ⟨lw_p28, List.forall_mem_cons.mpr ⟨lw_p29, List.forall_mem_cons.mpr ⟨lw_p30, List.forall_mem_cons.mpr ⟨lw_p31, fun _ h => absurd h List.not_mem_nil⟩⟩⟩⟩⟩⟩⟩⟩⟩⟩⟩⟩⟩⟩⟩⟩
theorem lw_p32 : lw_okq (⟨"SignRootsModel", "isTooHigh", "(III)Z"⟩, 13) := ⟨⟨by decide +kernel, by decide +kernel⟩, List.mem_of_getElem? (i := 560) (by decide +kernel), List.mem_of_getElem? (i := 776) (by decide +kernel), List.mem_of_getElem? (i := 777) (by decide +kernel)⟩
theorem lw_p33 : lw_okq (⟨"SignRootsModel", "isThree", "(IIII)Z"⟩, 13) := ⟨⟨by decide +kernel, by decide +kernel⟩, List.mem_of_getElem? (i := 560) (by decide +kernel), List.mem_of_getElem? (i := 780) (by decide +kernel), List.mem_of_getElem? (i := 781) (by decide +kernel)⟩
theorem lw_p34 : lw_okq (⟨"SignRootsModel", "hasProduct", "(IIII)Z"⟩, 13) := ⟨⟨by decide +kernel, by decide +kernel⟩, List.mem_of_getElem? (i := 560) (by decide +kernel), List.mem_of_getElem? (i := 784) (by decide +kernel), List.mem_of_getElem? (i := 785) (by decide +kernel)⟩
theorem lw_p35 : lw_okq (⟨"SignRootsModel", "isAmong", "(IIII)Z"⟩, 13) := ⟨⟨by decide +kernel, by decide +kernel⟩, List.mem_of_getElem? (i := 560) (by decide +kernel), List.mem_of_getElem? (i := 792) (by decide +kernel), List.mem_of_getElem? (i := 793) (by decide +kernel)⟩
theorem lw_p36 : lw_okq (⟨"SignRootsModel", "only", "(IIII)I"⟩, 13) := ⟨⟨by decide +kernel, by decide +kernel⟩, List.mem_of_getElem? (i := 560) (by decide +kernel), List.mem_of_getElem? (i := 796) (by decide +kernel), List.mem_of_getElem? (i := 797) (by decide +kernel)⟩
theorem lw_p37 : lw_okq (⟨"SignRootsModel", "tellsCount", "(I)I"⟩, 13) := ⟨⟨by decide +kernel, by decide +kernel⟩, List.mem_of_getElem? (i := 560) (by decide +kernel), List.mem_of_getElem? (i := 808) (by decide +kernel), List.mem_of_getElem? (i := 809) (by decide +kernel)⟩
theorem lw_p38 : lw_okq (⟨"SignRootsModel", "rootsOf", "(I)I"⟩, 13) := ⟨⟨by decide +kernel, by decide +kernel⟩, List.mem_of_getElem? (i := 560) (by decide +kernel), List.mem_of_getElem? (i := 812) (by decide +kernel), List.mem_of_getElem? (i := 813) (by decide +kernel)⟩
theorem lw_p39 : lw_okq (⟨"SignRootsModel", "share", "(I)D"⟩, 13) := ⟨⟨by decide +kernel, by decide +kernel⟩, List.mem_of_getElem? (i := 560) (by decide +kernel), List.mem_of_getElem? (i := 820) (by decide +kernel), List.mem_of_getElem? (i := 821) (by decide +kernel)⟩
theorem lw_p40 : lw_okq (⟨"SignRootsModel", "hashes", "(J)V"⟩, 13) := ⟨⟨by decide +kernel, by decide +kernel⟩, List.mem_of_getElem? (i := 560) (by decide +kernel), List.mem_of_getElem? (i := 829) (by decide +kernel), List.mem_of_getElem? (i := 830) (by decide +kernel)⟩
theorem lw_p41 : lw_okq (⟨"SignRootsModel", "hashesPoly", "(I)V"⟩, 13) := ⟨⟨by decide +kernel, by decide +kernel⟩, List.mem_of_getElem? (i := 560) (by decide +kernel), List.mem_of_getElem? (i := 834) (by decide +kernel), List.mem_of_getElem? (i := 835) (by decide +kernel)⟩
def lw_privs_3 : List (MethodName × Nat) := [(⟨"SignRootsModel", "isTooHigh", "(III)Z"⟩, 13), (⟨"SignRootsModel", "isThree", "(IIII)Z"⟩, 13), (⟨"SignRootsModel", "hasProduct", "(IIII)Z"⟩, 13), (⟨"SignRootsModel", "isAmong", "(IIII)Z"⟩, 13), (⟨"SignRootsModel", "only", "(IIII)I"⟩, 13), (⟨"SignRootsModel", "tellsCount", "(I)I"⟩, 13), (⟨"SignRootsModel", "rootsOf", "(I)I"⟩, 13), (⟨"SignRootsModel", "share", "(I)D"⟩, 13), (⟨"SignRootsModel", "hashes", "(J)V"⟩, 13), (⟨"SignRootsModel", "hashesPoly", "(I)V"⟩, 13)]
theorem lw_r3 : ∀ q ∈ lw_privs_3, lw_okq q := List.forall_mem_cons.mpr ⟨lw_p32, List.forall_mem_cons.mpr ⟨lw_p33, List.forall_mem_cons.mpr ⟨lw_p34, List.forall_mem_cons.mpr ⟨lw_p35, List.forall_mem_cons.mpr ⟨lw_p36, List.forall_mem_cons.mpr ⟨lw_p37, List.forall_mem_cons.mpr ⟨lw_p38, List.forall_mem_cons.mpr ⟨lw_p39, List.forall_mem_cons.mpr ⟨lw_p40, List.forall_mem_cons.mpr ⟨lw_p41, fun _ h => absurd h List.not_mem_nil⟩⟩⟩⟩⟩⟩⟩⟩⟩⟩
def lw_privs : List (MethodName × Nat) := lw_privs_1 ++ (lw_privs_2 ++ (lw_privs_3))
def lw_tbl : List Cond := k2_sels lw_privs ++ tables_1
theorem lw_privs_ok : ∀ q ∈ lw_privs, lw_okq q := by
  show ∀ q ∈ lw_privs_1 ++ (lw_privs_2 ++ (lw_privs_3)), lw_okq q
  exact List.forall_mem_append.mpr ⟨lw_r1, List.forall_mem_append.mpr ⟨lw_r2, lw_r3⟩⟩
/-- the streams that the claim lets the run draw from -/
abbrev lw_cs : List Choice := [Jvm.Choice.named "NaN.bits"]
theorem lw_bits : nanBits ∈ lw_cs := by first | decide | exact List.mem_cons_self | simp [lw_cs, nanBits]
end
section
/-! ===== BEGIN words of one list among another's, by their places ===== -/
theorem goodIn_r {big : List Cond} (ws : List Cond) (ps : List Nat) (hp : ws = ps.filterMap (fun i => big[i]?)) (h : ws.all goodWord = true) : GoodIn big ws := by
  intro w hw
  have h1 := List.all_eq_true.mp h w hw
  rw [hp] at hw
  obtain ⟨i, -, hi⟩ := List.mem_filterMap.mp hw
  have hm : w ∈ big := by first | exact List.mem_of_getElem? hi | exact List.getElem?_mem hi
  exact ⟨hm, good_of_word h1⟩
theorem goodIn_app {big a b : List Cond} (ha : GoodIn big a) (hb : GoodIn big b) : GoodIn big (a ++ b) := fun w h => (List.mem_append.mp h).elim (ha w) (hb w)
theorem goodIn_ca {big a b : List Cond} {c : Cond} (ha : GoodIn big (c :: a)) (hb : GoodIn big b) : GoodIn big (c :: (a ++ b)) := fun w h => (List.mem_cons.mp h).elim (fun e => ha w (List.mem_cons.mpr (Or.inl e))) (fun h => (List.mem_append.mp h).elim (fun h => ha w (List.mem_cons.mpr (Or.inr h))) (hb w))
theorem goodIn_sub {big ws : List Cond} (hm : ∀ w ∈ ws, w ∈ big) (h : ws.all goodWord = true) : GoodIn big ws := fun w hw => ⟨hm w hw, good_of_word (List.all_eq_true.mp h w hw)⟩
/-! ===== END ===== -/

/-! ===== BEGIN new T[n][m]: the outer array a place, the inner ones among the pooled ===== -/
/-- f, but v at every address of l -/
def vr_up {α : Type} (f : Nat → α) (l : List Nat) (v : α) : Nat → α := fun a => if a ∈ l then v else f a
theorem vr_up_in {α : Type} {f : Nat → α} {l : List Nat} {v : α} {a : Nat} (h : a ∈ l) : vr_up f l v a = v := if_pos h
theorem vr_up_ne {α : Type} {f : Nat → α} {l : List Nat} {v : α} {a : Nat} (h : a ∉ l) : vr_up f l v a = f a := if_neg h
theorem vr_rows {L l : List Nat} {f : Nat → va_E} {e : va_E} (h : ∀ a, a ∈ l → a ∉ L) : va_pl L f ++ l.map (fun a => (a, e)) = va_pl (L ++ l) (vr_up f l e) := by
  unfold va_pl
  rw [List.map_append]
  congr 1
  · apply List.map_congr_left
    intro a ha
    rw [vr_up_ne (fun q => h a q ha)]
  · apply List.map_congr_left
    intro a ha
    rw [vr_up_in ha]
theorem vr_lay {X rows : va_W} {x : Nat × va_E} {pl : va_W} {D : va_G} {cl : List vw_C} {H : Heap} (hP : va_P D cl (((X ++ pl) ++ [x]) ++ rows) H) : va_P D cl ((X ++ [x]) ++ (pl ++ rows)) H := by
  rw [List.append_assoc (X ++ pl)] at hP
  have h := va_P.swap hP
  rw [← List.append_assoc X] at h
  have h2 := va_P.swap h
  rw [List.append_assoc (X ++ [x])] at h2
  exact h2
theorem vr_layD {X rows : va_W} {x : Nat × va_E} {pl : va_W} {A : Nat → Prop} (hD : va_D A (((X ++ pl) ++ [x]) ++ rows)) : va_D A ((X ++ [x]) ++ (pl ++ rows)) := by
  rw [List.append_assoc (X ++ pl)] at hD
  have h := va_D.swap hD
  rw [← List.append_assoc X] at h
  have h2 := va_D.swap h
  rw [List.append_assoc (X ++ [x])] at h2
  exact h2
theorem vr_outer (c : ClassId) (N h0 : Nat) : ∀ i : Nat, Jvm.Free.Multi.outerC c N h0 i = arrV c N (fun j => va_rf (if j < i then some (h0 + 1 + j) else none))
  | 0 => by
    show ({ cls := c, slots := Array.replicate N .null, vm := .none } : Cell) = _
    rw [arrV_new]
    refine congrArg (arrV c N) (funext fun j => ?_)
    simp [va_rf]
  | i + 1 => by
    show (Jvm.Free.Multi.outerC c N h0 i).setSlot i (.ref (h0 + 1 + i)) = _
    rw [vr_outer c N h0 i, arrV_store]
    refine congrArg (arrV c N) (funext fun j => ?_)
    by_cases e : j = i
    · subst e
      simp [updV, va_rf]
    · by_cases h : j < i
      · simp [updV, e, h, Nat.lt_succ_of_lt h]
      · simp [updV, e, h, show ¬ j < i + 1 by omega]
def va_AOA (ty : FieldType) (U : State) : Prop := (Cond.arrayOver (.array ty)).before #[] U = true
theorem va_AOA.use {ty : FieldType} {A : Array Value} {U : State} (h : va_AOA ty U) : (Cond.arrayOver (.array ty)).before A U = true := h
section VGM
variable {p : Program} {l : Launch} {e : Env} {R : Room} {s : State} {m : MethodId} {args : Array Value} {below : List Frame} {meth : Method} {c : Code} {H : Heap} {locs : List Loc} {cells slots : Nat} {Q : State → Prop}
variable {cc : ByteArray} {pc : Nat} {ls : Array Slot} {rest : List Value} {D : va_G} {cl : List vw_C} {A : Nat → Prop} {a : Nat} {tys : List (ClassId × FieldType)} {ws : va_W} {H0 : Heap}
theorem va_mna {X : va_W} {L : List Nat} {f : Nat → va_E} {cc : ByteArray} (hexec : p.tables.exec = Jvm.exec) (hb : c.code = cc) {own : String} {index : Nat} {ty : FieldType} {cy : ClassId} (hown : s.vm.findClass own = some m.cls) (hclink : (Cond.classLink own index ("[" ++ (FieldType.array ty).toString)).before args s = true) (hover : va_AOA ty s) (harr : (Cond.arrayClass ty).before args s = true) (hcy : s.vm.findClass (FieldType.array ty).toString = some cy)
    (hK : va_K D cl tys s) (hP : va_P D cl (X ++ va_pl L f) H) (hD : va_D A (X ++ va_pl L f)) (hS : va_S A H0 H locs) (hA : ∀ q, H0.size ≤ q → A q) {n k : Int32} {N' K' : Nat} {z : vp_A} (hn : ¬ n < 0) (hk : ¬ k < 0) (hN : n.toNatClampNeg = N') (hM : k.toNatClampNeg = K')
    (hb1 : N' * 4 ≤ 536870912) (hb2 : K' * componentBytes ty ≤ 536870912) (hb3 : K' ≤ 536870912) (hdf : fits ty (defaultValue ty) = true) (hdd : (defaultValue ty).isDefault = true) (hcells : cells + (1 + N') ≤ R.cells) (hslots : slots + (N' + N' * K') ≤ R.slots) (hz : ∀ c : ClassId, Jvm.Free.Multi.innerC c K' (defaultValue ty) = vp_cell c z) (hdg : decode cc pc = .ok (.multianewarray index 2, 4))
    (kk : ∀ (q : Nat) (r : Nat → Nat) (cA : ClassId) (H1 : Heap), (∀ i j : Nat, i < N' → j < N' → r i = r j → i = j) → (∀ i : Nat, i < N' → r i ∉ L) → va_K D cl (tys ++ [(cA, .array ty)]) s →
      va_P D cl ((X ++ [(q, .inl (cA, N', .inr (.inr (.inr (.inr (fun i => if i < N' then some (r i) else none))))))]) ++ va_pl (L ++ (List.range N').map r) (vr_up f ((List.range N').map r) (.inl (cy, z)))) H1 → va_D A ((X ++ [(q, .inl (cA, N', .inr (.inr (.inr (.inr (fun i => if i < N' then some (r i) else none))))))]) ++ va_pl (L ++ (List.range N').map r) (vr_up f ((List.range N').map r) (.inl (cy, z)))) → va_S A H0 H1 locs →
      W p l e R s m args below meth c H1 locs (cells + 1 + N') (slots + N' + N' * K') Q (F0 m (pc + 4) ls (.ref q :: rest))) : W p l e R s m args below meth c H locs cells slots Q (F0 m pc ls (.int k :: .int n :: rest)) := by
  subst hN
  subst hM
  intro T hT Xs
  obtain ⟨vm₁, cA, comp, -, fA, fC, hO, -, X', step⟩ := Xs.multianewarray2F hexec hown hclink (va_AOA.use hover) harr (g := F0 m pc ls (.int k :: .int n :: rest)) rfl (by rw [hb]; exact hdg) rfl hn hk hb1 hb2 hb3 hdf hdd hcells hslots
  have ec : some cy = some comp := hcy.symm.trans fC
  cases ec
  generalize hF : Jvm.Free.Multi.fill (T.setVm vm₁) cA cy n.toNatClampNeg k.toNatClampNeg (defaultValue ty) n.toNatClampNeg = F at X' step
  have hTh : (T.setVm vm₁).heap = H := hT
  obtain ⟨f1, f2, -, -⟩ := Jvm.Free.Multi.fill_facts (T.setVm vm₁) cA cy n.toNatClampNeg k.toNatClampNeg (defaultValue ty) n.toNatClampNeg
  rw [hF, hTh] at f1 f2
  have hold : ∀ x : Nat, x < H.size → F.heap[x]? = H[x]? := fun x hx => by
    have := Jvm.Free.Multi.fill_old (T.setVm vm₁) cA cy n.toNatClampNeg k.toNatClampNeg (defaultValue ty) (a := x) (by rw [hTh]; exact hx) n.toNatClampNeg
    rw [hF, hTh] at this
    exact this
  have hrow : ∀ j : Nat, j < n.toNatClampNeg → F.heap[H.size + 1 + j]? = some (vp_cell cy z) := fun j hj => by
    have := Jvm.Free.Multi.fill_inner (T.setVm vm₁) cA cy n.toNatClampNeg k.toNatClampNeg (defaultValue ty) n.toNatClampNeg j hj
    rw [hF, hTh, hz] at this
    exact this
  have hout : Jvm.Free.Multi.outerC cA n.toNatClampNeg H.size n.toNatClampNeg = vp_cell cA (n.toNatClampNeg, .inr (.inr (.inr (.inr (fun i => if i < n.toNatClampNeg then some (H.size + 1 + i) else none))))) := by
    rw [vp_cell_q]
    exact vr_outer cA n.toNatClampNeg H.size n.toNatClampNeg
  rw [hout] at f2
  have hlt : ∀ a, a ∈ L → a < H.size := fun a ha => by
    obtain ⟨k9, hk9⟩ := va_pl_get (X := X) (f := f) ha
    exact (hP k9 _ hk9).lt
  have hnl : ∀ i : Nat, i < n.toNatClampNeg → H.size + 1 + i ∉ L := fun i _ h => by
    have := hlt _ h
    omega
  have hnm : ∀ a, a ∈ (List.range n.toNatClampNeg).map (fun i => H.size + 1 + i) → a ∉ L := fun a ha h => by
    obtain ⟨i, -, rfl⟩ := List.mem_map.mp ha
    have := hlt _ h
    omega
  have hP0 : va_P D cl (X ++ va_pl L f) F.heap := hP.kept (fun k9 x hx => hold x.1 ((hP k9 x hx).lt))
  have hP1 : va_P D cl ((X ++ va_pl L f) ++ [(H.size, .inl (cA, n.toNatClampNeg, .inr (.inr (.inr (.inr (fun i => if i < n.toNatClampNeg then some (H.size + 1 + i) else none))))))]) F.heap := hP0.app (fun k9 x hx => by
    have h0 : k9 < 1 := (List.getElem?_eq_some_iff.mp hx).1
    rw [show k9 = 0 by omega] at hx
    cases hx
    exact f2)
  have hP2 : va_P D cl (((X ++ va_pl L f) ++ [(H.size, .inl (cA, n.toNatClampNeg, .inr (.inr (.inr (.inr (fun i => if i < n.toNatClampNeg then some (H.size + 1 + i) else none))))))]) ++ ((List.range n.toNatClampNeg).map (fun i => H.size + 1 + i)).map (fun a => (a, .inl (cy, z)))) F.heap := hP1.app (fun k9 x hx => by
    obtain ⟨a, ha, rfl⟩ := List.mem_map.mp (List.mem_of_getElem? hx)
    obtain ⟨i, hi, rfl⟩ := List.mem_map.mp ha
    exact hrow i (List.mem_range.mp hi))
  have hD2 : va_D A (((X ++ va_pl L f) ++ [(H.size, .inl (cA, n.toNatClampNeg, .inr (.inr (.inr (.inr (fun i => if i < n.toNatClampNeg then some (H.size + 1 + i) else none))))))]) ++ ((List.range n.toNatClampNeg).map (fun i => H.size + 1 + i)).map (fun a => (a, .inl (cy, z)))) := by
    have hD1 := hD.push (e := .inl (cA, n.toNatClampNeg, .inr (.inr (.inr (.inr (fun i => if i < n.toNatClampNeg then some (H.size + 1 + i) else none)))))) hP rfl (hA _ hS.1)
    generalize hW1 : (X ++ va_pl L f) ++ [(H.size, .inl (cA, n.toNatClampNeg, .inr (.inr (.inr (.inr (fun i => if i < n.toNatClampNeg then some (H.size + 1 + i) else none))))))] = W1 at hD1 hP1 ⊢
    have hle : ∀ (k9 : Nat) (x : Nat × va_E), W1[k9]? = some x → x.1 ≤ H.size := fun k9 x hx => by
      rw [← hW1] at hx
      by_cases hl : k9 < (X ++ va_pl L f).length
      · rw [List.getElem?_append_left hl] at hx
        exact Nat.le_of_lt ((hP k9 x hx).lt)
      · rw [List.getElem?_append_right (by omega)] at hx
        have h0 : k9 - (X ++ va_pl L f).length < 1 := (List.getElem?_eq_some_iff.mp hx).1
        rw [show k9 - (X ++ va_pl L f).length = 0 by omega] at hx
        cases hx
        exact Nat.le_refl _
    have hr : ∀ (k9 : Nat) (x : Nat × va_E), (((List.range n.toNatClampNeg).map (fun i => H.size + 1 + i)).map (fun a => ((a, .inl (cy, z)) : Nat × va_E)))[k9]? = some x → x.1 = H.size + 1 + k9 := fun k9 x hx => by
      rw [List.getElem?_map, List.getElem?_map] at hx
      by_cases h9 : k9 < n.toNatClampNeg
      · rw [List.getElem?_range h9] at hx
        cases hx
        rfl
      · have hn0 : (List.range n.toNatClampNeg)[k9]? = none := List.getElem?_eq_none (by rw [List.length_range]; omega)
        rw [hn0] at hx
        cases hx
    refine ⟨fun i j x y hi hj hxy => ?_, fun k9 x hx => ?_⟩
    · by_cases h1 : i < W1.length <;> by_cases h2 : j < W1.length
      · rw [List.getElem?_append_left h1] at hi
        rw [List.getElem?_append_left h2] at hj
        exact hD1.1 i j x y hi hj hxy
      · rw [List.getElem?_append_left h1] at hi
        rw [List.getElem?_append_right (by omega)] at hj
        have := hle _ _ hi
        have := hr _ _ hj
        omega
      · rw [List.getElem?_append_right (by omega)] at hi
        rw [List.getElem?_append_left h2] at hj
        have := hle _ _ hj
        have := hr _ _ hi
        omega
      · rw [List.getElem?_append_right (by omega)] at hi hj
        have := hr _ _ hi
        have := hr _ _ hj
        omega
    · by_cases h1 : k9 < W1.length
      · rw [List.getElem?_append_left h1] at hx
        exact hD1.2 k9 x hx
      · rw [List.getElem?_append_right (by omega)] at hx
        have := hr _ _ hx
        exact hA _ (by have := hS.1; omega)
  have hAr : ArrOfT s cA (.array ty) := fun N9 z9 => by
    obtain ⟨-, k9, hk9, cm9, hkk9⟩ := (hO 0 0 0).1
    exact ⟨(fun q hq => by cases hq), k9, hk9, cm9, hkk9⟩
  have hK2 : va_K D cl (tys ++ [(cA, .array ty)]) s := ⟨hK.1, fun k9 x hx => by
    by_cases hl : k9 < tys.length
    · rw [List.getElem?_append_left hl] at hx
      exact hK.2 k9 x hx
    · rw [List.getElem?_append_right (by omega)] at hx
      have h0 : k9 - tys.length < 1 := (List.getElem?_eq_some_iff.mp hx).1
      rw [show k9 - tys.length = 0 by omega] at hx
      cases hx
      exact ⟨hAr, fA⟩⟩
  obtain ⟨t, a1, b1⟩ := kk H.size (fun i => H.size + 1 + i) cA F.heap (fun i j _ _ h => by have h9 : H.size + 1 + i = H.size + 1 + j := h; omega) hnl hK2 (by rw [← vr_rows hnm]; exact vr_lay hP2) (by rw [← vr_rows hnm]; exact vr_layD hD2) ⟨by rw [f1]; have := hS.1; omega, fun x h1 h2 => (hold x (Nat.lt_of_lt_of_le h1 hS.1)).trans (hS.2.1 x h1 h2), hS.2.2⟩ F rfl X'
  refine ⟨t, step t ?_, b1⟩
  have e : T.heap.size = H.size := by rw [hT]
  rw [e]
  exact a1
end VGM
/-! ===== END ===== -/

/-! ===== BEGIN exceptions that leave a method, and their catching by the caller (launches without stack traces) ===== -/
section VXA
/-! The laws vx_back, vx_callV, vx_callS, vx_callSW, vx_throw0, vx_throwS follow proofs of the library, with one case more: JvmDerived/Free/Laws.lean (Back.of_free), Shelf42/LK1.lean (callV, callS), Shelf/KitTraced.lean (throwNew0V, throwNewS). -/
/-- where a method has thrown q: the class by its name, the cell, what was written, the world -/
def vx_T (XC : String → State → State → Prop) (st : State) (q : Addr) (t : State) (mc ms : Nat) (free : Addr → Prop) : Prop :=
  ∃ (E : String) (ce : Cell) (L : List Loc), XC E st t ∧ t.heap[q]? = some ce ∧ ce.vm = .none ∧ st.vm.findClass E = some ce.cls ∧ st.WarmedH t.vm ∧ st.sameButNew ({ t with vm := st.vm } : State) L mc ms ∧ ∀ z ∈ L, free z.base
def vx_Q (Qc : Array Value → State → Outcome → State → Prop) (XC : String → State → State → Prop) (mc ms : Nat) (free : Addr → Prop) : Array Value → State → Outcome → State → Prop := fun a st o t =>
  (Qc a st o t ∧ ∃ L, FrameEnd st o t L mc ms ∧ ∀ q ∈ L, free q.base) ∨ ∃ q, o = .threw q ∧ vx_T XC st q t mc ms free
/-- a callee that returns or throws -/
def vx_Met (l : Launch) (y : MethodName) (ws : List Cond) (rm : Room) (Pc : Array Value → State → Prop) (Qc : Array Value → State → Outcome → State → Prop) (XC : String → State → State → Prop) (mc ms : Nat) (free : Addr → Prop) : Prop :=
  MetFree l y (headSpec ws rm) Pc (fun _ _ _ _ _ => True) (vx_Q Qc XC mc ms free)
def vx_Post (XC : String → State → State → Prop) (mc ms : Nat) (free : Addr → Prop) : Pt → Array Value → Addr → Pt → Prop := fun A a q B =>
  ∃ (g : JFrame) (mk : MethodId) (t : State) (L : List Loc) (E : String) (ce : Cell), B.U.heap = t.heap ∧ B.U.vm = t.vm ∧ XC E (A.U.calling g mk a) t ∧ t.heap[q]? = some ce ∧ ce.vm = .none ∧ A.U.vm.findClass E = some ce.cls ∧ B.locs = A.locs ++ L ∧ (∀ z ∈ L, free z.base) ∧ B.cells = A.cells + mc ∧ B.slots = A.slots + ms
def vx_Back (l : Launch) (R : Room) (p : Program) (e : Env) (below : List Frame) (s : State) (sargs : Array Value) (y : MethodName) (len W9 : Nat)
    (Pre : Pt → Array Value → Prop) (Post : Pt → Array Value → Option Value → Pt → Prop) (PostX : Pt → Array Value → Addr → Pt → Prop) : Prop :=
  ∀ (m : MethodId) (meth : Method) (c : Code) (A : Pt) (g : JFrame) (ig : Instr) (mk : MethodId) (a : Array Value),
    Stand p l e R s m sargs below meth c A.U A.locs A.cells A.slots → g.method = m → g.locals.size = c.maxLocals → decode c.code g.pc = .ok (ig, len) →
    2 * g.monitorRoom + (g.stack.map fun v => v.category).sum ≤ W9 → A.U.methodNamed? y = some mk → Pre A a →
    (∃ (v : Option Value) (B : Pt), Stand p l e R s m sargs below meth c B.U B.locs B.cells B.slots ∧ Post A a v B ∧
      Steps p.tables e below (doInvoke e (A.U.setTop g) [] mk a).1 (B.U.setTop { g with pc := g.pc + len, stack := v.toList ++ g.stack })) ∨
    (∃ (q : Addr) (B : Pt), Stand p l e R s m sargs below meth c B.U B.locs B.cells B.slots ∧ PostX A a q B ∧
      Steps p.tables e below (doInvoke e (A.U.setTop g) [] mk a).1 ((B.U.setTop g).pushFrame (.throwing q)))
section Payer
variable {l : Launch} {R : Room} {p : Program} {e : Env} {below : List Frame} {s : State} {sargs : Array Value} {y : MethodName} {len W9 : Nat}
theorem vx_back {ws : List Cond} {rm : Room} {Pc : Array Value → State → Prop} {Qc : Array Value → State → Outcome → State → Prop} {XC : String → State → State → Prop} {mc ms : Nat} {free : Addr → Prop} {bytes : ByteArray} {maxL : Nat} {ret : Option FieldType}
    (hM : vx_Met l y ws rm Pc Qc XC mc ms free) (hblind : FrameBlind Pc) (hrc : rm.cells = mc) (hrs : rm.slots = ms)
    (hframes : rm.frames + 1 ≤ R.frames) (hlocals : W9 + (maxL + 11) + rm.locals ≤ R.locals)
    (hws : ∀ w ∈ ws, ∀ a' U, s.WarmedH U.vm → w.before a' U = true) (hcode : Cond.code y bytes maxL ret ∈ ws) (hinit : ∀ a' U, s.WarmedH U.vm → (Cond.initialized y.cls).before a' U = true) :
    vx_Back l R p e below s sargs y len W9 (PreOf R mc ms Pc) (PostOf Qc mc ms free) (vx_Post XC mc ms free) := by
  intro m meth c A g ig mk a X hg hsize hdg hW hn hp
  have h1 : (headSpec ws rm).pre.before a A.U = true := atoms_intro fun w hw => hws w hw _ _ X.warmed
  have h2 : (Cond.code y bytes maxL ret).before a A.U = true := hws _ hcode _ _ X.warmed
  have h3 : (Cond.initialized y.cls).before a A.U = true := hinit _ _ X.warmed
  have h4 : A.cells + (headSpec ws rm).room.cells ≤ R.cells := by rw [show (headSpec ws rm).room.cells = mc from hrc]; exact hp.1
  have h5 : A.slots + (headSpec ws rm).room.slots ≤ R.slots := by rw [show (headSpec ws rm).room.slots = ms from hrs]; exact hp.2.1
  have hPc : Pc a (A.U.calling g mk a) := hblind _ _ _ _ hp.2.2
  obtain ⟨U, Ls, c0, s0⟩ := A
  dsimp only [Pt.U, Pt.locs, Pt.cells, Pt.slots] at h1 h2 h3 h4 h5 X hn hPc ⊢
  obtain ⟨methY, cY, hmY, hcY, -, hlY, -, -, -, -⟩ := Cond.code_spec hn h2
  obtain ⟨kY, hkY, -⟩ := className_of_methodNamed hn
  have hinitY : kY.init = .initialized := Cond.initialized_spec (findClass_of_methodNamed hn) hkY h3
  have h : At U g.method c below := by rw [hg]; exact X.here
  have hlocals9 : W9 + (maxL + 11) + (headSpec ws rm).room.locals ≤ R.locals := hlocals
  have happ : (headSpec ws rm).appliesLoose y e.platform (U.calling g mk a) = true :=
    Spec.appliesLoose_calling (g := g) h hdg hn hkY hinitY
      (X.room_calling (g := g) (R' := (headSpec ws rm).room) hsize hmY hcY hframes (by rw [hlY]; omega) h4 h5) h1
  obtain ⟨mid, hmid⟩ := h.above
  have hfr : (U.setTop g).frames = (.java g :: mid) ++ below := by rw [State.frames_setTop' g h.top, hmid]; rfl
  obtain ⟨o, s₂, hsteps, -, hend, hq⟩ := Steps.callFree hM p X.admits X.cas X.clock (acts := []) hfr happ hPc trivial
  have hq' : vx_Q Qc XC mc ms free a (U.calling g mk a) o s₂ := hq
  rw [State.frames_setTop' g h.top] at hend
  obtain ⟨g₀, hg0⟩ := Option.isSome_iff_exists.mp h.top
  obtain ⟨r, hr⟩ := State.topJava?_eq_some.mp hg0
  have hr' : (({ U with heap := s₂.heap, slotsUsed := s₂.slotsUsed } : State).setVm s₂.vm).frames = .java g₀ :: r := hr
  rcases hq' with ⟨hqc, L, hfe, hL⟩ | ⟨q, rfl, E, ce, L, hx, hce, hcv, hcl, hW₂, hsm, hL⟩
  · obtain ⟨⟨v, rfl⟩, hW₂, e2, q2, q3, q4, q5, q6⟩ := id hfe
    have e3 : s₂ = ({ (U.calling g mk a).setFrames s₂.frames with heap := s₂.heap, slotsUsed := s₂.slotsUsed } : State).setVm s₂.vm := by
      have : s₂ = ({ s₂ with vm := (U.calling g mk a).vm } : State).setVm s₂.vm := rfl
      rw [e2] at this
      exact this
    obtain ⟨c₂, i₂, len₂, hc₂, hd₂, hf₂⟩ := hend
    have hW' : U.WarmedH s₂.vm := hW₂
    have hcc : c₂ = c := by
      have h1 : s₂.code? g.method = U.code? g.method := by
        rw [State.code?_eq, State.code?_eq, hW'.alike.method?]
      exact Option.some.inj (hc₂.symm.trans (h1.trans h.code))
    subst hcc
    have hlen : len₂ = len := by rw [hdg] at hd₂; cases hd₂; rfl
    subst hlen
    have hs₂ : s₂ = (({ U with heap := s₂.heap, slotsUsed := s₂.slotsUsed } : State).setVm s₂.vm).setTop { g with pc := g.pc + len₂, stack := v.toList ++ g.stack } := by
      refine e3.trans ?_
      rw [hf₂, State.calling_eq h.top, State.setFrames_setFrames, State.setTop_of_frames _ hr', hr]
      rfl
    have hsame : U.sameButNew ({ U with heap := s₂.heap, slotsUsed := s₂.slotsUsed } : State) L mc ms := by
      refine ⟨?_, q2, q3, q4, q5, q6⟩
      obtain ⟨t, ht, -⟩ := State.frames_cons hr
      show ({ U with heap := s₂.heap, slotsUsed := s₂.slotsUsed } : State) = { U.setFrames U.frames with heap := s₂.heap, slotsUsed := s₂.slotsUsed }
      rw [State.setFrames_self ht]
    subst hg
    refine Or.inl ⟨v, ⟨(({ U with heap := s₂.heap, slotsUsed := s₂.slotsUsed } : State).setVm s₂.vm), Ls ++ L, c0 + mc, s0 + ms⟩,
      ⟨X.admits, X.cas, X.clock, X.frames, X.room, X.hears, X.method, X.code, (X.here.setHeapUsed s₂.heap s₂.slotsUsed).setVm hW'.alike, X.tail, State.WarmedH.trans X.warmed hW', X.limits, X.bytes, X.same.trans (hsame.setVm s.vm)⟩,
      ⟨g, mk, s₂, L, rfl, rfl, hqc, rfl, hL, rfl, rfl⟩, ?_⟩
    show Steps p.tables e below _ ((({ U with heap := s₂.heap, slotsUsed := s₂.slotsUsed } : State).setVm s₂.vm).setTop { g with pc := g.pc + len₂, stack := v.toList ++ g.stack })
    rw [← hs₂]
    exact hsteps
  · obtain ⟨e2, q2, q3, q4, q5, q6⟩ := id hsm
    have e3 : s₂ = ({ (U.calling g mk a).setFrames s₂.frames with heap := s₂.heap, slotsUsed := s₂.slotsUsed } : State).setVm s₂.vm := by
      have : s₂ = ({ s₂ with vm := (U.calling g mk a).vm } : State).setVm s₂.vm := rfl
      rw [e2] at this
      exact this
    have hf₂ : s₂.frames = .throwing q :: .java g :: U.frames.tail := hend
    have hW' : U.WarmedH s₂.vm := hW₂
    have hs₂ : s₂ = ((({ U with heap := s₂.heap, slotsUsed := s₂.slotsUsed } : State).setVm s₂.vm).setTop g).pushFrame (.throwing q) := by
      refine e3.trans ?_
      rw [hf₂, State.calling_eq h.top, State.setFrames_setFrames, State.pushFrame, State.frames_setTop _ hr', State.setTop_of_frames _ hr', State.setFrames_setFrames, hr]
      rfl
    have hsame : U.sameButNew ({ U with heap := s₂.heap, slotsUsed := s₂.slotsUsed } : State) L mc ms := by
      refine ⟨?_, q2, q3, q4, q5, q6⟩
      obtain ⟨t, ht, -⟩ := State.frames_cons hr
      show ({ U with heap := s₂.heap, slotsUsed := s₂.slotsUsed } : State) = { U.setFrames U.frames with heap := s₂.heap, slotsUsed := s₂.slotsUsed }
      rw [State.setFrames_self ht]
    subst hg
    refine Or.inr ⟨q, ⟨(({ U with heap := s₂.heap, slotsUsed := s₂.slotsUsed } : State).setVm s₂.vm), Ls ++ L, c0 + mc, s0 + ms⟩,
      ⟨X.admits, X.cas, X.clock, X.frames, X.room, X.hears, X.method, X.code, (X.here.setHeapUsed s₂.heap s₂.slotsUsed).setVm hW'.alike, X.tail, State.WarmedH.trans X.warmed hW', X.limits, X.bytes, X.same.trans (hsame.setVm s.vm)⟩,
      ⟨g, mk, s₂, L, E, ce, rfl, rfl, hx, hce, hcv, hcl, rfl, hL, rfl, rfl⟩, ?_⟩
    show Steps p.tables e below _ (((({ U with heap := s₂.heap, slotsUsed := s₂.slotsUsed } : State).setVm s₂.vm).setTop g).pushFrame (.throwing q))
    rw [← hs₂]
    exact hsteps
end Payer
section Calls
variable {p : Program} {l : Launch} {e : Env} {R : Room} {s : State} {m : MethodId} {args : Array Value} {below : List Frame} {meth : Method} {c : Code} {T : State} {locs : List Loc} {cells slots : Nat}
theorem vx_callV (X : Stand p l e R s m args below meth c T locs cells slots) (hexec : p.tables.exec = Jvm.exec) {own C : String} {index : Nat} {y : MethodName} {bytes : ByteArray} {maxL : Nat} {ret : Option FieldType}
    (hown : s.vm.findClass own = some m.cls) (hlink : (Cond.methodLink own index y).before args s = true) (hinst : (Cond.instanceMethod y).before args s = true) (hsel : (Cond.selects C y y).before args s = true)
    (hcode : (Cond.code y bytes maxL ret).before args s = true) (hy : y.cls ≠ "java/lang/invoke/MethodHandle" ∧ y.cls ≠ "java/lang/invoke/VarHandle")
    {W9 : Nat} {Pre : Pt → Array Value → Prop} {Post : Pt → Array Value → Option Value → Pt → Prop} {PostX : Pt → Array Value → Addr → Pt → Prop} (hK : vx_Back l R p e below s args y 3 W9 Pre Post PostX)
    {b : Addr} {cellB : Cell} (hcell : T.heap[b]? = some cellB) (hobj : cellB.vm.isStatics = false) (hcls : s.vm.findClass C = some cellB.cls)
    {g : JFrame} (hg : g.method = m) (hsize : g.locals.size = c.maxLocals) {argsL rest : List Value} (hlen : ∀ sig, parseMethodDescriptor y.desc = some sig → argsL.length = sig.parameters.length)
    (hstack : g.stack = argsL.reverse ++ .ref b :: rest) (hW : 2 * g.monitorRoom + (rest.map fun v => v.category).sum ≤ W9) (hdg : decode c.code g.pc = .ok (.invokevirtual index, 3))
    (hpre : ∀ vm₁, s.WarmedH vm₁ → Pre ⟨T.setVm vm₁, locs, cells, slots⟩ (Value.ref b :: argsL).toArray) :
    (∃ (v : Option Value) (vm₁ : Vm) (B : Pt), s.WarmedH vm₁ ∧ Stand p l e R s m args below meth c B.U B.locs B.cells B.slots ∧ Post ⟨T.setVm vm₁, locs, cells, slots⟩ (Value.ref b :: argsL).toArray v B ∧
      ∀ target, Steps p.tables e below (B.U.setTop { g with pc := g.pc + 3, stack := v.toList ++ rest }) target → Steps p.tables e below (T.setTop g) target) ∨
    (∃ (q : Addr) (vm₁ : Vm) (B : Pt), s.WarmedH vm₁ ∧ Stand p l e R s m args below meth c B.U B.locs B.cells B.slots ∧ PostX ⟨T.setVm vm₁, locs, cells, slots⟩ (Value.ref b :: argsL).toArray q B ∧
      Steps p.tables e below (T.setTop g) ((B.U.setTop { g with stack := rest }).pushFrame (.throwing q))) := by
  obtain ⟨mk, methM, hnamed, hmethM, hstM, habM⟩ := Cond.instanceMethod_spec hinst
  obtain ⟨methM', cM, hmethM', -, -, -, -, -, -, hsigM⟩ := Cond.code_spec hnamed hcode
  cases hmethM.symm.trans hmethM'
  obtain ⟨c2, r2, m2, q1, q2, q3, q4, kP, hkP, hkPi⟩ := Cond.selects_spec hsel
  cases hcls.symm.trans q1
  cases (State.methodFound?_of_named hnamed hy).symm.trans q2
  cases hnamed.symm.trans q3
  have hselP : selectMethod e.platform s.vm cellB.cls mk = .method mk := by rw [Launch.admits_selectMethod X.admits]; exact q4
  obtain ⟨vm₁, X₁, hstep₁⟩ := X.invokevirtual hexec hown hlink hnamed hmethM hstM hkP hkPi hy (a := b) (cell := cellB) hcell
    (fun z h => by rw [h] at hobj; cases hobj) hselP hmethM habM hkP hkPi (g := g) hg (argsL := argsL) (rest := rest) (hlen _ hsigM) hstack hdg
  rcases hK m meth c ⟨T.setVm vm₁, locs, cells, slots⟩ { g with stack := rest } (.invokevirtual index) mk (Value.ref b :: argsL).toArray X₁ hg hsize hdg hW (X₁.named hnamed) (hpre vm₁ X₁.warmed) with ⟨v, B, X', hpost, hsteps⟩ | ⟨q, B, X', hpost, hsteps⟩
  · exact Or.inl ⟨v, vm₁, B, X₁.warmed, X', hpost, fun target h => hstep₁ _ fun acts => by rw [doInvoke_state]; exact hsteps.trans h⟩
  · exact Or.inr ⟨q, vm₁, B, X₁.warmed, X', hpost, hstep₁ _ fun acts => by rw [doInvoke_state]; exact hsteps⟩
theorem vx_callS (X : Stand p l e R s m args below meth c T locs cells slots) (hexec : p.tables.exec = Jvm.exec) {own : String} {index : Nat} {y : MethodName} {bytes : ByteArray} {maxL : Nat} {ret : Option FieldType}
    (hown : s.vm.findClass own = some m.cls) (hlink : (Cond.methodLink own index y).before args s = true) (hstat : (Cond.static y).before args s = true) (hinit : (Cond.initialized y.cls).before args s = true)
    (hcode : (Cond.code y bytes maxL ret).before args s = true) (hy : y.cls ≠ "java/lang/invoke/MethodHandle" ∧ y.cls ≠ "java/lang/invoke/VarHandle")
    {W9 : Nat} {Pre : Pt → Array Value → Prop} {Post : Pt → Array Value → Option Value → Pt → Prop} {PostX : Pt → Array Value → Addr → Pt → Prop} (hK : vx_Back l R p e below s args y 3 W9 Pre Post PostX)
    {g : JFrame} (hg : g.method = m) (hsize : g.locals.size = c.maxLocals) {argsL rest : List Value} (hlen : ∀ sig, parseMethodDescriptor y.desc = some sig → argsL.length = sig.parameters.length)
    (hstack : g.stack = argsL.reverse ++ rest) (hW : 2 * g.monitorRoom + (rest.map fun v => v.category).sum ≤ W9) (hdg : decode c.code g.pc = .ok (.invokestatic index, 3))
    (hpre : ∀ vm₁, s.WarmedH vm₁ → Pre ⟨T.setVm vm₁, locs, cells, slots⟩ argsL.toArray) :
    (∃ (v : Option Value) (vm₁ : Vm) (B : Pt), s.WarmedH vm₁ ∧ Stand p l e R s m args below meth c B.U B.locs B.cells B.slots ∧ Post ⟨T.setVm vm₁, locs, cells, slots⟩ argsL.toArray v B ∧
      ∀ target, Steps p.tables e below (B.U.setTop { g with pc := g.pc + 3, stack := v.toList ++ rest }) target → Steps p.tables e below (T.setTop g) target) ∨
    (∃ (q : Addr) (vm₁ : Vm) (B : Pt), s.WarmedH vm₁ ∧ Stand p l e R s m args below meth c B.U B.locs B.cells B.slots ∧ PostX ⟨T.setVm vm₁, locs, cells, slots⟩ argsL.toArray q B ∧
      Steps p.tables e below (T.setTop g) ((B.U.setTop { g with stack := rest }).pushFrame (.throwing q))) := by
  obtain ⟨mk, hnamed⟩ := Cond.code_named hcode
  obtain ⟨methM, cM, hmethM, -, -, -, -, -, -, hsigM⟩ := Cond.code_spec hnamed hcode
  have hstatic : methM.isStatic = true := Cond.static_spec hnamed hmethM hstat
  obtain ⟨kP, hkP, -⟩ := className_of_methodNamed hnamed
  have hinitP : kP.init = .initialized := Cond.initialized_spec (findClass_of_methodNamed hnamed) hkP hinit
  obtain ⟨vm₁, X₁, hstep₁⟩ := X.invokestatic hexec hown hlink hnamed hmethM hstatic hkP hinitP hy (g := g) hg (argsL := argsL) (rest := rest) (hlen _ hsigM) hstack hdg
  rcases hK m meth c ⟨T.setVm vm₁, locs, cells, slots⟩ { g with stack := rest } (.invokestatic index) mk argsL.toArray X₁ hg hsize hdg hW (X₁.named hnamed) (hpre vm₁ X₁.warmed) with ⟨v, B, X', hpost, hsteps⟩ | ⟨q, B, X', hpost, hsteps⟩
  · exact Or.inl ⟨v, vm₁, B, X₁.warmed, X', hpost, fun target h => hstep₁ _ fun acts => by rw [doInvoke_state]; exact hsteps.trans h⟩
  · exact Or.inr ⟨q, vm₁, B, X₁.warmed, X', hpost, hstep₁ _ fun acts => by rw [doInvoke_state]; exact hsteps⟩
end Calls
theorem vx_cls {s : State} {T : State} {vm₁ : Vm} {E : String} {k : ClassId} (hW : s.WarmedH vm₁) (h : (T.setVm vm₁).vm.findClass E = some k) : s.vm.findClass E = some k := by
  have h1 : vm₁.findClass E = some k := h
  rw [hW.alike.findClass] at h1
  exact h1
/-- the method's frame g, with q thrown over it -/
def vx_W (p : Program) (l : Launch) (e : Env) (R : Room) (s : State) (m : MethodId) (args : Array Value) (below : List Frame) (meth : Method) (c : Code) (H : Heap) (locs : List Loc) (cells slots : Nat) (Q : State → Prop) (g : JFrame) (q : Addr) : Prop :=
  ∀ T : State, T.heap = H → Stand p l e R s m args below meth c T locs cells slots → ∃ t, Steps p.tables e below ((T.setTop g).pushFrame (.throwing q)) t ∧ Q t
def vx_Run (p : Program) (l : Launch) (e : Env) (R : Room) (s : State) (m : MethodId) (args : Array Value) (below : List Frame) (meth : Method) (c : Code) (H : Heap) (locs : List Loc) (cells slots mc ms : Nat) (g : JFrame) (rest : List Value) (Qa : State → Outcome → State → Prop) (XC : String → State → State → Prop) (free : Addr → Prop) : Prop :=
  ∀ T : State, T.heap = H → Stand p l e R s m args below meth c T locs cells slots →
    (∃ (v : Option Value) (st₀ t T' : State) (L : List Loc), st₀.heap = H ∧ Stand p l e R s m args below meth c T' (locs ++ L) (cells + mc) (slots + ms) ∧ (∀ q ∈ L, free q.base) ∧ T'.heap = t.heap ∧ T'.vm = t.vm ∧ Qa st₀ (.returned v) t ∧
      Goes p e below T g T' { g with pc := g.pc + 3, stack := v.toList ++ rest }) ∨
    (∃ (q : Addr) (st₀ t T' : State) (L : List Loc) (E : String) (ce : Cell), st₀.heap = H ∧ Stand p l e R s m args below meth c T' (locs ++ L) (cells + mc) (slots + ms) ∧ (∀ z ∈ L, free z.base) ∧ T'.heap = t.heap ∧ T'.vm = t.vm ∧ XC E st₀ t ∧ t.heap[q]? = some ce ∧ ce.vm = .none ∧ s.vm.findClass E = some ce.cls ∧
      Steps p.tables e below (T.setTop g) ((T'.setTop { g with stack := rest }).pushFrame (.throwing q)))
def vx_X {S : Type} (px : S → Prop) (B : String → S → State → Prop) (A : Nat → Prop) : String → State → State → Prop := fun E st t => ∃ u : S, px u ∧ B E u t ∧ va_F A st t
section Runs
variable {p : Program} {l : Launch} {e : Env} {R : Room} {s : State} {m : MethodId} {args : Array Value} {below : List Frame} {meth : Method} {c : Code} {H : Heap} {locs : List Loc} {cells slots : Nat}
variable {y : MethodName} {bytes cc : ByteArray} {maxL nL mc ms n index : Nat} {ret : Option FieldType} {ws : List Cond} {rm : Room} {Pc : Array Value → State → Prop} {Qc : Array Value → State → Outcome → State → Prop} {XC : String → State → State → Prop} {free : Addr → Prop} {Ts : List Cond} {own C : String} {b : Addr} {As rest : List Value} {g : JFrame}
theorem vx_callBack (cb : CallB R s args own index y bytes maxL ret ws rm mc ms n) (hM : vx_Met l y ws rm Pc Qc XC mc ms free) (hbl : FrameBlind Pc) : vx_Back l R p e below s args y 3 8 (PreOf R mc ms Pc) (PostOf Qc mc ms free) (vx_Post XC mc ms free) := by
  obtain ⟨hrc, hrs, hfr, hlo, hws, hcw, -, hini, -⟩ := cb
  exact vx_back (bytes := bytes) (maxL := maxL) (ret := ret) hM hbl hrc hrs hfr hlo hws hcw (fun a' U hW => word_at hW (Or.inl (by first | rfl | simp [Cond.onTables, Cond.keeps, Cond.steady])) hini)
theorem vx_runV (S : CallFix p m c cc nL s args Ts own) (hM : vx_Met l y ws rm Pc Qc XC mc ms free) (cw : CallW R s args own C index y bytes maxL ret ws rm mc ms n) (hp : PreV s H C b Pc As)
    (hg : g.method = m) (hn : As.length = n) (hsize : g.locals.size = nL) (hstack : g.stack = As.reverse ++ .ref b :: rest) (hW : 2 * g.monitorRoom + (rest.map fun v => v.category).sum ≤ 8) (hdg : decode cc g.pc = .ok (.invokevirtual index, 3)) (hf : cells + mc ≤ R.cells ∧ slots + ms ≤ R.slots) :
    vx_Run p l e R s m args below meth c H locs cells slots mc ms g rest (Qc (Value.ref b :: As).toArray) XC free := by
  have hK : vx_Back l R p e below s args y 3 8 (PreOf R mc ms Pc) (PostOf Qc mc ms free) (vx_Post XC mc ms free) := vx_callBack cw.1 hM hp.1
  obtain ⟨⟨-, -, -, -, -, -, hcode, -, hy, hlen, hl⟩, hin, hse⟩ := cw
  obtain ⟨hx, hb, hml, ho, -⟩ := S
  obtain ⟨-, ⟨cellB, hcB, hoB, hclB⟩, hPc⟩ := hp
  intro T hT X
  rcases vx_callV X hx (C := C) (bytes := bytes) (maxL := maxL) (ret := ret) ho hl hin hse hcode hy hK (by rw [hT]; exact hcB) hoB hclB hg (hsize.trans hml.symm) (argsL := As) (rest := rest) (fun sig h => hn.trans (hlen sig h)) hstack hW (by rw [hb]; exact hdg)
    (fun vm₁ hW₁ => ⟨hf.1, hf.2, hPc (T.setVm vm₁) hT hW₁⟩) with ⟨v, vm₁, ⟨U', l2, c2, s2⟩, hW₁, X', ⟨g', mk, t, L, e1, e2, hq, h1, hL, h2, h3⟩, st⟩ | ⟨q, vm₁, ⟨U', l2, c2, s2⟩, hW₁, X', ⟨g', mk, t, L, E, ce, e1, e2, hq, hce, hcv, hcl, h1, hL, h2, h3⟩, st⟩
  · dsimp only [Pt.U, Pt.locs, Pt.cells, Pt.slots] at X' e1 e2 h1 h2 h3 st
    subst h1; subst h2; subst h3
    exact Or.inl ⟨v, (T.setVm vm₁).calling g' mk (Value.ref b :: As).toArray, t, U', L, hT, X', hL, e1, e2, hq, st⟩
  · dsimp only [Pt.U, Pt.locs, Pt.cells, Pt.slots] at X' e1 e2 h1 h2 h3 st hcl
    subst h1; subst h2; subst h3
    exact Or.inr ⟨q, (T.setVm vm₁).calling g' mk (Value.ref b :: As).toArray, t, U', L, E, ce, hT, X', hL, e1, e2, hq, hce, hcv, vx_cls hW₁ hcl, st⟩
theorem vx_runS (S : CallFix p m c cc nL s args Ts own) (hM : vx_Met l y ws rm Pc Qc XC mc ms free) (cw : CallB R s args own index y bytes maxL ret ws rm mc ms n ∧ (Cond.static y).before args s = true) (hp : PreS s H Pc As)
    (hg : g.method = m) (hn : As.length = n) (hsize : g.locals.size = nL) (hstack : g.stack = As.reverse ++ rest) (hW : 2 * g.monitorRoom + (rest.map fun v => v.category).sum ≤ 8) (hdg : decode cc g.pc = .ok (.invokestatic index, 3)) (hf : cells + mc ≤ R.cells ∧ slots + ms ≤ R.slots) :
    vx_Run p l e R s m args below meth c H locs cells slots mc ms g rest (Qc As.toArray) XC free := by
  have hK : vx_Back l R p e below s args y 3 8 (PreOf R mc ms Pc) (PostOf Qc mc ms free) (vx_Post XC mc ms free) := vx_callBack cw.1 hM hp.1
  obtain ⟨⟨-, -, -, -, -, -, hcode, hini, hy, hlen, hl⟩, hstt⟩ := cw
  obtain ⟨hx, hb, hml, ho, -⟩ := S
  intro T hT X
  rcases vx_callS X hx (bytes := bytes) (maxL := maxL) (ret := ret) ho hl hstt hini hcode hy hK hg (hsize.trans hml.symm) (argsL := As) (rest := rest) (fun sig h => hn.trans (hlen sig h)) hstack hW (by rw [hb]; exact hdg)
    (fun vm₁ hW₁ => ⟨hf.1, hf.2, hp.2 (T.setVm vm₁) hT hW₁⟩) with ⟨v, vm₁, ⟨U', l2, c2, s2⟩, hW₁, X', ⟨g', mk, t, L, e1, e2, hq, h1, hL, h2, h3⟩, st⟩ | ⟨q, vm₁, ⟨U', l2, c2, s2⟩, hW₁, X', ⟨g', mk, t, L, E, ce, e1, e2, hq, hce, hcv, hcl, h1, hL, h2, h3⟩, st⟩
  · dsimp only [Pt.U, Pt.locs, Pt.cells, Pt.slots] at X' e1 e2 h1 h2 h3 st
    subst h1; subst h2; subst h3
    exact Or.inl ⟨v, (T.setVm vm₁).calling g' mk As.toArray, t, U', L, hT, X', hL, e1, e2, hq, st⟩
  · dsimp only [Pt.U, Pt.locs, Pt.cells, Pt.slots] at X' e1 e2 h1 h2 h3 st hcl
    subst h1; subst h2; subst h3
    exact Or.inr ⟨q, (T.setVm vm₁).calling g' mk As.toArray, t, U', L, E, ce, hT, X', hL, e1, e2, hq, hce, hcv, vx_cls hW₁ hcl, st⟩
end Runs
section Rows
variable {p : Program} {l : Launch} {e : Env} {R : Room} {s : State} {m : MethodId} {args : Array Value} {below : List Frame} {meth : Method} {c : Code} {H : Heap} {locs : List Loc} {cells slots : Nat} {Q : State → Prop}
variable {mc ms : Nat} {free : Addr → Prop} {A0 A1 : Nat → Prop} {H0 : Heap} {a : Array Value} {pc : Nat} {ls : Array Slot} {st0 rest : List Value}
theorem vx_keep {st₀ t T' : State} {L : List Loc} (h0 : st₀.heap = H) (e1 : T'.heap = t.heap) (hS : va_S A0 H0 H locs) (hA : ∀ q, q < H.size → A1 q → A0 q) (hf : ∀ q, free q → A0 q) (hL : ∀ q ∈ L, free q.base) (hF : va_F A1 st₀ t) :
    H.size ≤ T'.heap.size ∧ (∀ q : Nat, q < H.size → ¬ A1 q → T'.heap[q]? = H[q]?) ∧ va_S A0 H0 T'.heap (locs ++ L) := by
  obtain ⟨hz, hk⟩ := hF
  rw [h0] at hz hk
  exact ⟨by rw [e1]; exact hz, fun q h1 h2 => by rw [e1]; exact hk q h1 h2,
    ⟨Nat.le_trans hS.1 (by rw [e1]; exact hz), fun q h1 h2 => by rw [e1, hk q (Nat.lt_of_lt_of_le h1 hS.1) (fun z => h2 (hA q (Nat.lt_of_lt_of_le h1 hS.1) z))]; exact hS.2.1 q h1 h2, fun q hq => by
      rcases List.mem_append.mp hq with h | h
      · exact hS.2.2 q h
      · exact hf _ (hL q h)⟩⟩
theorem vx_calli {S SX : Type} {post : Int32 → S → Prop} {px : SX → Prop} {B : S → State → Prop} {BX : String → SX → State → Prop} {AX : Nat → Prop} (hr : vx_Run p l e R s m args below meth c H locs cells slots mc ms (F0 m pc ls st0) rest (va_Qi post B A1 a) (vx_X px BX AX) free) (hS : va_S A0 H0 H locs) (hA : ∀ q, q < H.size → A1 q → A0 q) (hf : ∀ q, free q → A0 q) (hAX : ∀ q, q < H.size → AX q → A0 q)
    (kx : ∀ (E : String) (ce : Cell) (q9 : Addr) (u : SX) (t : State) (H1 : Heap) (locs1 : List Loc), t.heap = H1 → s.vm.Alike t.vm → px u → BX E u t → H.size ≤ H1.size → (∀ q : Nat, q < H.size → ¬ AX q → H1[q]? = H[q]?) → va_S A0 H0 H1 locs1 → H1[q9]? = some ce → ce.vm = .none → s.vm.findClass E = some ce.cls → vx_W p l e R s m args below meth c H1 locs1 (cells + mc) (slots + ms) Q (F0 m pc ls rest) q9)
    (kk : ∀ (r : Int32) (u : S) (t : State) (H1 : Heap) (locs1 : List Loc), t.heap = H1 → s.vm.Alike t.vm → post r u → B u t → H.size ≤ H1.size → (∀ q : Nat, q < H.size → ¬ A1 q → H1[q]? = H[q]?) → va_S A0 H0 H1 locs1 → W p l e R s m args below meth c H1 locs1 (cells + mc) (slots + ms) Q (F0 m (pc + 3) ls (.int r :: rest))) : W p l e R s m args below meth c H locs cells slots Q (F0 m pc ls st0) := by
  intro T hT X
  rcases hr T hT X with ⟨v, st₀, t, T', L, h0, X', hL, e1, e2, ⟨⟨r, u, hv, hp, hb⟩, hF⟩, st⟩ | ⟨q, st₀, t, T', L, E, ce, h0, X', hL, e1, e2, ⟨u, hp, hb, hF⟩, hce, hcv, hcl, st⟩
  · cases hv
    obtain ⟨k1, k2, k3⟩ := vx_keep h0 e1 hS hA hf hL hF
    obtain ⟨t2, a1, b1⟩ := kk r u t T'.heap (locs ++ L) e1.symm (by rw [← e2]; exact X'.warmed.alike) hp hb k1 k2 k3 T' rfl X'
    exact ⟨t2, st t2 a1, b1⟩
  · obtain ⟨k1, k2, k3⟩ := vx_keep h0 e1 hS hAX hf hL hF
    obtain ⟨t2, a1, b1⟩ := kx E ce q u t T'.heap (locs ++ L) e1.symm (by rw [← e2]; exact X'.warmed.alike) hp hb k1 k2 k3 (by rw [e1]; exact hce) hcv hcl T' rfl X'
    exact ⟨t2, st.trans a1, b1⟩
theorem vx_calll {S SX : Type} {post : Int64 → S → Prop} {px : SX → Prop} {B : S → State → Prop} {BX : String → SX → State → Prop} {AX : Nat → Prop} (hr : vx_Run p l e R s m args below meth c H locs cells slots mc ms (F0 m pc ls st0) rest (va_Ql post B A1 a) (vx_X px BX AX) free) (hS : va_S A0 H0 H locs) (hA : ∀ q, q < H.size → A1 q → A0 q) (hf : ∀ q, free q → A0 q) (hAX : ∀ q, q < H.size → AX q → A0 q)
    (kx : ∀ (E : String) (ce : Cell) (q9 : Addr) (u : SX) (t : State) (H1 : Heap) (locs1 : List Loc), t.heap = H1 → s.vm.Alike t.vm → px u → BX E u t → H.size ≤ H1.size → (∀ q : Nat, q < H.size → ¬ AX q → H1[q]? = H[q]?) → va_S A0 H0 H1 locs1 → H1[q9]? = some ce → ce.vm = .none → s.vm.findClass E = some ce.cls → vx_W p l e R s m args below meth c H1 locs1 (cells + mc) (slots + ms) Q (F0 m pc ls rest) q9)
    (kk : ∀ (r : Int64) (u : S) (t : State) (H1 : Heap) (locs1 : List Loc), t.heap = H1 → s.vm.Alike t.vm → post r u → B u t → H.size ≤ H1.size → (∀ q : Nat, q < H.size → ¬ A1 q → H1[q]? = H[q]?) → va_S A0 H0 H1 locs1 → W p l e R s m args below meth c H1 locs1 (cells + mc) (slots + ms) Q (F0 m (pc + 3) ls (.long r :: rest))) : W p l e R s m args below meth c H locs cells slots Q (F0 m pc ls st0) := by
  intro T hT X
  rcases hr T hT X with ⟨v, st₀, t, T', L, h0, X', hL, e1, e2, ⟨⟨r, u, hv, hp, hb⟩, hF⟩, st⟩ | ⟨q, st₀, t, T', L, E, ce, h0, X', hL, e1, e2, ⟨u, hp, hb, hF⟩, hce, hcv, hcl, st⟩
  · cases hv
    obtain ⟨k1, k2, k3⟩ := vx_keep h0 e1 hS hA hf hL hF
    obtain ⟨t2, a1, b1⟩ := kk r u t T'.heap (locs ++ L) e1.symm (by rw [← e2]; exact X'.warmed.alike) hp hb k1 k2 k3 T' rfl X'
    exact ⟨t2, st t2 a1, b1⟩
  · obtain ⟨k1, k2, k3⟩ := vx_keep h0 e1 hS hAX hf hL hF
    obtain ⟨t2, a1, b1⟩ := kx E ce q u t T'.heap (locs ++ L) e1.symm (by rw [← e2]; exact X'.warmed.alike) hp hb k1 k2 k3 (by rw [e1]; exact hce) hcv hcl T' rfl X'
    exact ⟨t2, st.trans a1, b1⟩
theorem vx_callf {S SX : Type} {post : UInt32 → S → Prop} {px : SX → Prop} {B : S → State → Prop} {BX : String → SX → State → Prop} {AX : Nat → Prop} (hr : vx_Run p l e R s m args below meth c H locs cells slots mc ms (F0 m pc ls st0) rest (va_Qf post B A1 a) (vx_X px BX AX) free) (hS : va_S A0 H0 H locs) (hA : ∀ q, q < H.size → A1 q → A0 q) (hf : ∀ q, free q → A0 q) (hAX : ∀ q, q < H.size → AX q → A0 q)
    (kx : ∀ (E : String) (ce : Cell) (q9 : Addr) (u : SX) (t : State) (H1 : Heap) (locs1 : List Loc), t.heap = H1 → s.vm.Alike t.vm → px u → BX E u t → H.size ≤ H1.size → (∀ q : Nat, q < H.size → ¬ AX q → H1[q]? = H[q]?) → va_S A0 H0 H1 locs1 → H1[q9]? = some ce → ce.vm = .none → s.vm.findClass E = some ce.cls → vx_W p l e R s m args below meth c H1 locs1 (cells + mc) (slots + ms) Q (F0 m pc ls rest) q9)
    (kk : ∀ (r : UInt32) (u : S) (t : State) (H1 : Heap) (locs1 : List Loc), t.heap = H1 → s.vm.Alike t.vm → post r u → B u t → H.size ≤ H1.size → (∀ q : Nat, q < H.size → ¬ A1 q → H1[q]? = H[q]?) → va_S A0 H0 H1 locs1 → W p l e R s m args below meth c H1 locs1 (cells + mc) (slots + ms) Q (F0 m (pc + 3) ls (.float r :: rest))) : W p l e R s m args below meth c H locs cells slots Q (F0 m pc ls st0) := by
  intro T hT X
  rcases hr T hT X with ⟨v, st₀, t, T', L, h0, X', hL, e1, e2, ⟨⟨r, u, hv, hp, hb⟩, hF⟩, st⟩ | ⟨q, st₀, t, T', L, E, ce, h0, X', hL, e1, e2, ⟨u, hp, hb, hF⟩, hce, hcv, hcl, st⟩
  · cases hv
    obtain ⟨k1, k2, k3⟩ := vx_keep h0 e1 hS hA hf hL hF
    obtain ⟨t2, a1, b1⟩ := kk r u t T'.heap (locs ++ L) e1.symm (by rw [← e2]; exact X'.warmed.alike) hp hb k1 k2 k3 T' rfl X'
    exact ⟨t2, st t2 a1, b1⟩
  · obtain ⟨k1, k2, k3⟩ := vx_keep h0 e1 hS hAX hf hL hF
    obtain ⟨t2, a1, b1⟩ := kx E ce q u t T'.heap (locs ++ L) e1.symm (by rw [← e2]; exact X'.warmed.alike) hp hb k1 k2 k3 (by rw [e1]; exact hce) hcv hcl T' rfl X'
    exact ⟨t2, st.trans a1, b1⟩
theorem vx_calld {S SX : Type} {post : UInt64 → S → Prop} {px : SX → Prop} {B : S → State → Prop} {BX : String → SX → State → Prop} {AX : Nat → Prop} (hr : vx_Run p l e R s m args below meth c H locs cells slots mc ms (F0 m pc ls st0) rest (va_Qd post B A1 a) (vx_X px BX AX) free) (hS : va_S A0 H0 H locs) (hA : ∀ q, q < H.size → A1 q → A0 q) (hf : ∀ q, free q → A0 q) (hAX : ∀ q, q < H.size → AX q → A0 q)
    (kx : ∀ (E : String) (ce : Cell) (q9 : Addr) (u : SX) (t : State) (H1 : Heap) (locs1 : List Loc), t.heap = H1 → s.vm.Alike t.vm → px u → BX E u t → H.size ≤ H1.size → (∀ q : Nat, q < H.size → ¬ AX q → H1[q]? = H[q]?) → va_S A0 H0 H1 locs1 → H1[q9]? = some ce → ce.vm = .none → s.vm.findClass E = some ce.cls → vx_W p l e R s m args below meth c H1 locs1 (cells + mc) (slots + ms) Q (F0 m pc ls rest) q9)
    (kk : ∀ (r : UInt64) (u : S) (t : State) (H1 : Heap) (locs1 : List Loc), t.heap = H1 → s.vm.Alike t.vm → post r u → B u t → H.size ≤ H1.size → (∀ q : Nat, q < H.size → ¬ A1 q → H1[q]? = H[q]?) → va_S A0 H0 H1 locs1 → W p l e R s m args below meth c H1 locs1 (cells + mc) (slots + ms) Q (F0 m (pc + 3) ls (.double r :: rest))) : W p l e R s m args below meth c H locs cells slots Q (F0 m pc ls st0) := by
  intro T hT X
  rcases hr T hT X with ⟨v, st₀, t, T', L, h0, X', hL, e1, e2, ⟨⟨r, u, hv, hp, hb⟩, hF⟩, st⟩ | ⟨q, st₀, t, T', L, E, ce, h0, X', hL, e1, e2, ⟨u, hp, hb, hF⟩, hce, hcv, hcl, st⟩
  · cases hv
    obtain ⟨k1, k2, k3⟩ := vx_keep h0 e1 hS hA hf hL hF
    obtain ⟨t2, a1, b1⟩ := kk r u t T'.heap (locs ++ L) e1.symm (by rw [← e2]; exact X'.warmed.alike) hp hb k1 k2 k3 T' rfl X'
    exact ⟨t2, st t2 a1, b1⟩
  · obtain ⟨k1, k2, k3⟩ := vx_keep h0 e1 hS hAX hf hL hF
    obtain ⟨t2, a1, b1⟩ := kx E ce q u t T'.heap (locs ++ L) e1.symm (by rw [← e2]; exact X'.warmed.alike) hp hb k1 k2 k3 (by rw [e1]; exact hce) hcv hcl T' rfl X'
    exact ⟨t2, st.trans a1, b1⟩
theorem vx_callv {S SX : Type} {post : S → Prop} {px : SX → Prop} {B : S → State → Prop} {BX : String → SX → State → Prop} {AX : Nat → Prop} (hr : vx_Run p l e R s m args below meth c H locs cells slots mc ms (F0 m pc ls st0) rest (va_Qv post B A1 a) (vx_X px BX AX) free) (hS : va_S A0 H0 H locs) (hA : ∀ q, q < H.size → A1 q → A0 q) (hf : ∀ q, free q → A0 q) (hAX : ∀ q, q < H.size → AX q → A0 q)
    (kx : ∀ (E : String) (ce : Cell) (q9 : Addr) (u : SX) (t : State) (H1 : Heap) (locs1 : List Loc), t.heap = H1 → s.vm.Alike t.vm → px u → BX E u t → H.size ≤ H1.size → (∀ q : Nat, q < H.size → ¬ AX q → H1[q]? = H[q]?) → va_S A0 H0 H1 locs1 → H1[q9]? = some ce → ce.vm = .none → s.vm.findClass E = some ce.cls → vx_W p l e R s m args below meth c H1 locs1 (cells + mc) (slots + ms) Q (F0 m pc ls rest) q9)
    (kk : ∀ (u : S) (t : State) (H1 : Heap) (locs1 : List Loc), t.heap = H1 → s.vm.Alike t.vm → post u → B u t → H.size ≤ H1.size → (∀ q : Nat, q < H.size → ¬ A1 q → H1[q]? = H[q]?) → va_S A0 H0 H1 locs1 → W p l e R s m args below meth c H1 locs1 (cells + mc) (slots + ms) Q (F0 m (pc + 3) ls (rest))) : W p l e R s m args below meth c H locs cells slots Q (F0 m pc ls st0) := by
  intro T hT X
  rcases hr T hT X with ⟨v, st₀, t, T', L, h0, X', hL, e1, e2, ⟨⟨u, hv, hp, hb⟩, hF⟩, st⟩ | ⟨q, st₀, t, T', L, E, ce, h0, X', hL, e1, e2, ⟨u, hp, hb, hF⟩, hce, hcv, hcl, st⟩
  · cases hv
    obtain ⟨k1, k2, k3⟩ := vx_keep h0 e1 hS hA hf hL hF
    obtain ⟨t2, a1, b1⟩ := kk u t T'.heap (locs ++ L) e1.symm (by rw [← e2]; exact X'.warmed.alike) hp hb k1 k2 k3 T' rfl X'
    exact ⟨t2, st t2 a1, b1⟩
  · obtain ⟨k1, k2, k3⟩ := vx_keep h0 e1 hS hAX hf hL hF
    obtain ⟨t2, a1, b1⟩ := kx E ce q u t T'.heap (locs ++ L) e1.symm (by rw [← e2]; exact X'.warmed.alike) hp hb k1 k2 k3 (by rw [e1]; exact hce) hcv hcl T' rfl X'
    exact ⟨t2, st.trans a1, b1⟩
/-- caught by the row x of this method's table; the rows ahead don't take it -/
theorem vx_catch {own name : String} {E : String} {ce : Cell} {q : Addr} (hown : s.vm.findClass own = some m.cls) (pre : List ExceptionTableEntry) (x : ExceptionTableEntry) (suf : List ExceptionTableEntry) (hsplit : c.exceptionTable.toList = pre ++ x :: suf)
    (hpass : ∀ z ∈ pre, covers z pc = false ∨ (z.catchType ≠ 0 ∧ ∃ nm : String, (Cond.classLink own z.catchType nm).before args s = true ∧ va_Nc E nm s)) (hx : covers x pc = true) (h0 : x.catchType ≠ 0)
    (hlink : (Cond.classLink own x.catchType name).before args s = true) (hcast : (Cond.castable E name).before args s = true) (hcell : H[q]? = some ce) (hv : ce.vm = .none) (hcl : s.vm.findClass E = some ce.cls)
    (kk : W p l e R s m args below meth c H locs cells slots Q (F0 m x.handlerPc ls [.ref q])) : vx_W p l e R s m args below meth c H locs cells slots Q (F0 m pc ls rest) q := by
  intro T hT X
  have hpl : e.platform.magicAccessors = ({} : Platform).magicAccessors := by rw [X.admits.platform]
  obtain ⟨c3, c4, hc3, hc4, hasg⟩ := Cond.castable_spec hcast
  cases Option.some.inj (hc3.symm.trans hcl)
  obtain ⟨c5, hc5, hcl5⟩ := Cond.classLink_spec hown hlink e.platform hpl
  cases Option.some.inj (hc4.symm.trans hc5)
  obtain ⟨vm', X', st⟩ := X.thenCaughtThrough q (g := F0 m pc ls rest) rfl (Steps.refl _) (by rw [hT]; exact hcell) (by rw [hv]; rfl) (by obtain ⟨k9, h9, -⟩ := Vm.findClass_spec hcl; exact ⟨k9, h9⟩) pre x suf hsplit
    (fun z hz => by
      rcases hpass z hz with h | ⟨hz0, nm, hl1, hn1⟩
      · exact Or.inl h
      · obtain ⟨c6, hc6, hcl6⟩ := Cond.classLink_spec hown hl1 e.platform hpl
        obtain ⟨a8, b8, h1, h2, h3⟩ := hn1
        cases Option.some.inj (h1.symm.trans hcl)
        cases Option.some.inj (h2.symm.trans hc6)
        exact Or.inr ⟨hz0, _, hcl6, h3⟩) hx (Or.inr ⟨h0, c4, hcl5, hasg⟩)
  obtain ⟨t, a1, b1⟩ := kk (T.setVm vm') hT X'
  exact ⟨t, st.trans a1, b1⟩
end Rows
section Ends
variable {p : Program} {l : Launch} {e : Env} {R : Room} {s : State} {m : MethodId} {args : Array Value} {below : List Frame} {meth : Method} {c : Code} {H : Heap} {locs : List Loc} {cells slots : Nat} {Q : State → Prop}
variable {mc ms : Nat} {free : Addr → Prop} {A0 A1 : Nat → Prop} {H0 : Heap} {a : Array Value} {ls : Array Slot} {st0 rest : List Value}
variable {Qc : Array Value → State → Outcome → State → Prop} {XC : String → State → State → Prop}
/-- what a body that may throw owes at its end -/
def vx_MQ (below : List Frame) (Qc : Array Value → State → Outcome → State → Prop) (XC : String → State → State → Prop) (a : Array Value) (s : State) (mc ms : Nat) (free : Addr → Prop) : State → Prop := fun t =>
  ∃ o, t.status = .running ∧ Ended t below o ∧ vx_Q Qc XC mc ms free a s o t
theorem vx_ret {g : JFrame} {mc ms : Nat} (k : W p l e R s m args below meth c H locs cells slots (MQ below Qc args s mc ms free) g) : W p l e R s m args below meth c H locs cells slots (vx_MQ below Qc XC args s mc ms free) g := by
  intro T hT X
  obtain ⟨t, a1, o, b1, b2, b3, b4⟩ := k T hT X
  exact ⟨t, a1, o, b1, b2, Or.inl ⟨b3, b4⟩⟩
/-- not caught here: it goes on to the caller -/
theorem vx_widen {g : JFrame} {q : Addr} {k n : Nat} (h1 : cells ≤ k) (h2 : slots ≤ n) (kk : vx_W p l e R s m args below meth c H locs k n Q g q) : vx_W p l e R s m args below meth c H locs cells slots Q g q := fun T hT X => kk T hT (stand_widen X h1 h2)
theorem vx_out {pc : Nat} {E : String} {ce : Cell} {q : Addr} {mc ms : Nat} (hout : ∀ x ∈ c.exceptionTable.toList, covers x pc = false) (hlocks : meth.locks = false) (hcell : H[q]? = some ce) (hv : ce.vm = .none) (hcl : s.vm.findClass E = some ce.cls)
    (hx : ∀ t : State, t.heap = H → s.vm.Alike t.vm → XC E s t) (hf : ∀ z ∈ locs, free z.base) (hc : cells ≤ mc) (hs : slots ≤ ms) :
    vx_W p l e R s m args below meth c H locs cells slots (vx_MQ below Qc XC args s mc ms free) (F0 m pc ls rest) q := by
  intro T hT X
  obtain ⟨st1, hrun, hend, hW, hsm⟩ := X.leaveThrown q (g := F0 m pc ls rest) rfl rfl rfl hout hlocks
  have hcell9 : (T.setFrames (.throwing q :: below)).heap[q]? = some ce := by
    show T.heap[q]? = some ce
    rw [hT]; exact hcell
  exact ⟨_, st1, .threw q, hrun, hend, Or.inr ⟨q, rfl, E, ce, locs, hx _ hT hW.alike, hcell9, hv, hcl, hW, hsm.mono hc hs, hf⟩⟩
theorem vx_frame {U : State} {k n : Nat} (h : s.sameButNew ({ U with vm := s.vm } : State) locs k n) : s.heap.size ≤ U.heap.size ∧ ∀ q : Nat, q < s.heap.size → (∀ z ∈ locs, z.base ≠ q) → U.heap[q]? = s.heap[q]? := by
  obtain ⟨-, h2, -, -, -, h6⟩ := h
  refine ⟨h2, fun q hq hz => ?_⟩
  obtain ⟨c9, e1, e2, e3, e4⟩ := h6 q _ (Array.getElem?_eq_getElem hq)
  have hs : c9.slots = (s.heap[q]).slots := Array.ext_getElem? fun i => e4 i fun hm => hz _ hm rfl
  have h9 : c9 = s.heap[q] := by
    rw [hs] at e2
    exact e2
  have e5 : U.heap[q]? = some c9 := e1
  rw [e5, h9, Array.getElem?_eq_getElem hq]
/-- the words of a throw but the four that speak of the heap -/
def vx_no (w : Cond) : Bool := decide (w ≠ .isRef (.static Bundle.tN "UNASSIGNED_STACK" Bundle.steD)) && decide (w ≠ .isRef (.static Bundle.tN "SUPPRESSED_SENTINEL" Bundle.listD)) && decide (w ≠ .laysStatic Bundle.tN "UNASSIGNED_STACK" Bundle.steD) && decide (w ≠ .laysStatic Bundle.tN "SUPPRESSED_SENTINEL" Bundle.listD)
def vx_at0 (own : String) (ic : Nat) (X : String) (names : List String) : List Cond := (Bundle.ownAtoms0 own ic X names).filter vx_no
def vx_atS (own : String) (ic : Nat) (X : String) (names : List String) : List Cond := (Bundle.ownAtoms own ic X names).filter vx_no
/-- a word that the tables alone decide, or a good one -/
def vx_ot (w : Cond) : Bool := w.onTables || goodWord w
theorem vx_ot_at {args a' : Array Value} {s U : State} {w : Cond} (hW : s.WarmedH U.vm) (hvm : s.vm = U.vm) (hg : vx_ot w = true) (h : w.before args s = true) : w.before a' U = true := by
  simp only [vx_ot, Bool.or_eq_true] at hg
  rcases hg with hg | hg
  · exact va_tabs hg hvm h
  · exact word_at hW (good_of_word hg) h
/-- a list's words: the good ones out of the method's own list, the others by premises of their own -/
theorem vx_hat {args : Array Value} {s : State} {L B : List Cond} (h1 : ∀ w ∈ L.filter goodWord, w.before args s = true) (h2 : ∀ w ∈ L.filter (fun w => !goodWord w), w ∈ B) (h3 : ∀ w ∈ B, w.before args s = true) : ∀ w ∈ L, w.before args s = true := by
  intro w hw
  by_cases g : goodWord w = true
  · exact h1 w (List.mem_filter.mpr ⟨hw, g⟩)
  · refine h3 w (h2 w (List.mem_filter.mpr ⟨hw, ?_⟩))
    show (!goodWord w) = true
    cases hgw : goodWord w
    · rfl
    · exact absurd hgw g
theorem vx_c {args : Array Value} {s : State} {w : Cond} {B : List Cond} (h : w.before args s = true) (t : ∀ w ∈ B, w.before args s = true) : ∀ w' ∈ w :: B, w'.before args s = true := fun w' h' => (List.mem_cons.mp h').elim (fun e => by rw [e]; exact h) (t w')
theorem vx_n {args : Array Value} {s : State} : ∀ w ∈ ([] : List Cond), w.before args s = true := fun _ h => nomatch h
theorem vx_own {args : Array Value} {s : State} {L : List Cond} (h1 : ∀ w ∈ L.filter vx_no, w.before args s = true)
    (hU : (Cond.isRef (.static Bundle.tN "UNASSIGNED_STACK" Bundle.steD)).before args s = true) (hN : (Cond.isRef (.static Bundle.tN "SUPPRESSED_SENTINEL" Bundle.listD)).before args s = true)
    (lU : (Cond.laysStatic Bundle.tN "UNASSIGNED_STACK" Bundle.steD).before args s = true) (lN : (Cond.laysStatic Bundle.tN "SUPPRESSED_SENTINEL" Bundle.listD).before args s = true) : ∀ w ∈ L, w.before args s = true := by
  intro w hw
  by_cases e1 : w = .isRef (.static Bundle.tN "UNASSIGNED_STACK" Bundle.steD)
  · rw [e1]; exact hU
  · by_cases e2 : w = .isRef (.static Bundle.tN "SUPPRESSED_SENTINEL" Bundle.listD)
    · rw [e2]; exact hN
    · by_cases e3 : w = .laysStatic Bundle.tN "UNASSIGNED_STACK" Bundle.steD
      · rw [e3]; exact lU
      · by_cases e4 : w = .laysStatic Bundle.tN "SUPPRESSED_SENTINEL" Bundle.listD
        · rw [e4]; exact lN
        · exact h1 w (List.mem_filter.mpr ⟨hw, by unfold vx_no; rw [decide_eq_true e1, decide_eq_true e2, decide_eq_true e3, decide_eq_true e4]; rfl⟩)
/-- where a static field lies, its class's statics cell in H -/
def vx_L (C n d : String) (A : Nat → Prop) (U : State) (H : Heap) : Prop := ∃ (c : ClassId) (k : Class) (i : Nat) (f : Field) (a : Nat) (cell : Cell), U.vm.findClass C = some c ∧ U.fieldFound? C n d = some (c, k, i, f) ∧ f.isStatic = true ∧ k.statics = some a ∧ H[a]? = some cell ∧ cell.vm.isStatics = true ∧ cell.cls = c ∧ f.slot < cell.slots.size ∧ k.staticTypes[f.slot]? = some f.type ∧ ¬ A a
theorem vx_L.moved {C n d : String} {A : Nat → Prop} {u U : State} {H : Heap} (hvm : u.vm.Alike U.vm) (h : vx_L C n d A u H) : vx_L C n d A U H := by
  obtain ⟨c, k, i, f, a, cell, h1, h2, h3, h4, h5, h6, h7, h8, h9, h10⟩ := h
  obtain ⟨k', hi', he⟩ := State.fieldFound?_setVm hvm h2
  exact ⟨c, k', i, f, a, cell, by rw [hvm.findClass]; exact h1, hi', h3, by rw [he]; exact h4, h5, h6, h7, h8, by rw [he]; exact h9, h10⟩
theorem vx_L.kept {C n d : String} {A : Nat → Prop} {U : State} {H H1 : Heap} (h : vx_L C n d A U H) (hq : ∀ a : Nat, a < H.size → ¬ A a → H1[a]? = H[a]?) : vx_L C n d A U H1 := by
  obtain ⟨c, k, i, f, a, cell, h1, h2, h3, h4, h5, h6, h7, h8, h9, h10⟩ := h
  exact ⟨c, k, i, f, a, cell, h1, h2, h3, h4, by rw [hq a (Array.getElem?_eq_some_iff.mp h5).1 h10]; exact h5, h6, h7, h8, h9, h10⟩
theorem vx_L.narrow {C n d : String} {A B : Nat → Prop} {U : State} {H : Heap} (h : vx_L C n d A U H) (hAB : ∀ q, B q → A q) : vx_L C n d B U H := by
  obtain ⟨c, k, i, f, a, cell, h1, h2, h3, h4, h5, h6, h7, h8, h9, h10⟩ := h
  exact ⟨c, k, i, f, a, cell, h1, h2, h3, h4, h5, h6, h7, h8, h9, fun z => h10 (hAB _ z)⟩
theorem vx_L.word {C n d : String} {A : Nat → Prop} {s : State} {args : Array Value} (h : vx_L C n d A s s.heap) : (Cond.laysStatic C n d).before args s = true := by
  obtain ⟨c, k, i, f, a, cell, h1, h2, h3, h4, h5, h6, h7, h8, h9, -⟩ := h
  show (Cond.laysStatic C n d).holds args s none s [] = true
  exact Cond.laysStatic_of h1 h2 h3 h4 h5 h6 h7 h8 h9
/-- .. and what it holds: null or some reference -/
def vx_Zq (C n d : String) (A : Nat → Prop) (U : State) (H : Heap) : Prop := va_Zq C n d A U H ∧ vx_L C n d A U H
theorem vx_Zq.moved {C n d : String} {A : Nat → Prop} {u U : State} {H : Heap} (hvm : u.vm.Alike U.vm) (h : vx_Zq C n d A u H) : vx_Zq C n d A U H := ⟨va_Zq.moved hvm h.1, vx_L.moved hvm h.2⟩
theorem vx_Zq.kept {C n d : String} {A : Nat → Prop} {U : State} {H H1 : Heap} (h : vx_Zq C n d A U H) (hq : ∀ a : Nat, a < H.size → ¬ A a → H1[a]? = H[a]?) : vx_Zq C n d A U H1 := ⟨va_Zq.kept h.1 hq, vx_L.kept h.2 hq⟩
theorem vx_Zq.narrow {C n d : String} {A B : Nat → Prop} {U : State} {H : Heap} (h : vx_Zq C n d A U H) (hAB : ∀ q, B q → A q) : vx_Zq C n d B U H := ⟨va_Zq.narrow h.1 hAB, vx_L.narrow h.2 hAB⟩
theorem vx_Zqof {args : Array Value} {s : State} {C n d : String} {A : Nat → Prop} (hl : (Cond.laysStatic C n d).before args s = true) (hini : (Cond.initialized C).before args s = true) (h : (Cond.isRef (.static C n d)).before args s = true) (hA : ∀ a : Nat, a < s.heap.size → ¬ A a) : vx_Zq C n d A s s.heap := by
  refine ⟨va_Zqof hl hini h hA, ?_⟩
  obtain ⟨c, k, i, f, a, cell, h1, h2, h3, h4, h5, h6, h7, h8, h9⟩ := Cond.laysStatic_spec hl
  exact ⟨c, k, i, f, a, cell, h1, h2, h3, h4, h5, h6, h7, h8, h9, hA a (Array.getElem?_eq_some_iff.mp h5).1⟩
theorem vx_isRef {C n d : String} {v : Value} {A : Nat → Prop} {s : State} {args : Array Value} (h : va_Z C n d v A s s.heap) (hv : v.isRef = true) : (Cond.isRef (.static C n d)).before args s = true := by
  obtain ⟨cf, kf, fi, f, a, cell, h1, h2, h3, h4, h5, h6, h7, -⟩ := h
  have he : (Term.static C n d).eval args s none [] s = some v := by
    simp [Term.eval, State.fieldNamed?, h1, h2, h4, h5, h6, h7]
  simp only [Cond.before, Cond.holds, Cond.value, he]
  cases v <;> simp_all [Value.isRef]
theorem vx_isRefq {C n d : String} {A : Nat → Prop} {s : State} {args : Array Value} (h : va_Zq C n d A s s.heap) : (Cond.isRef (.static C n d)).before args s = true := by
  rcases h with h | ⟨t, h⟩
  · exact vx_isRef h rfl
  · exact vx_isRef h rfl
/-- the same frame, seen from here: as if the method were called anew in this heap -/
theorem vx_rebase {T : State} (X : Stand p l e R s m args below meth c T locs cells slots) {R' : Room} (hf : R'.frames ≤ R.frames) (hl : R'.locals ≤ R.locals) (hc : cells + R'.cells ≤ R.cells) (hs : slots + R'.slots ≤ R.slots) :
    Stand p l e R' ((T.setVm s.vm).setFrames (.invoking m args :: below)) m args below meth c T [] 0 0 := by
  have htop : (T.setVm s.vm).topJava?.isSome := X.here.top
  have hF : ((T.setVm s.vm).setFrames (.invoking m args :: below)).frames = .invoking m args :: below := State.frames_setFrames _ (State.cur_lt_of_top htop)
  obtain ⟨g₀, hg0⟩ := Option.isSome_iff_exists.mp htop
  obtain ⟨r, hr⟩ := State.topJava?_eq_some.mp hg0
  have hl9 : e.platform.stackLimits (T.setVm s.vm).me = e.platform.stackLimits s.me := X.limits
  have hb9 : (T.setVm s.vm).me.stackBytes = s.me.stackBytes := X.bytes
  refine ⟨X.admits, X.cas, X.clock, hF, ?_, X.hears, X.method, X.code, X.here, X.tail, X.warmed, ?_, ?_, ?_⟩
  · have h := X.room
    have hU : ((T.setVm s.vm).setFrames (.invoking m args :: below)).localsInUse = s.localsInUse := by
      rw [State.localsInUse_invoking hF (meth := meth) (c := c) X.method X.code, State.localsInUse_invoking X.frames X.method X.code]
    simp only [State.hasRoom, Bool.and_eq_true, decide_eq_true_eq] at h ⊢
    obtain ⟨⟨⟨⟨h1, h2, h3, h4, h5, h6⟩, h7⟩, h8⟩, h9⟩ := h
    rw [X.frames, List.length_cons] at h2 h3
    have q1 := X.heapSize
    have q2 := X.used
    simp only [hF, hU, List.length_cons, State.stackLimits_setFrames, State.stackBytes_setFrames, hl9, hb9]
    refine ⟨⟨⟨⟨by omega, by omega, by omega, by omega, by omega, h6⟩, ?_⟩, ?_⟩, X.book⟩
    · show T.heap.size + R'.cells ≤ e.platform.maxCells
      omega
    · show T.slotsUsed + R'.slots ≤ e.platform.maxSlots
      omega
  · rw [State.stackLimits_setFrames]; rfl
  · rw [State.stackBytes_setFrames]; rfl
  · refine ⟨?_, Nat.le_refl _, Nat.le_refl _, ?_, ?_, fun a c9 h9 => ⟨c9, h9, rfl, rfl, fun _ _ => rfl⟩⟩
    · obtain ⟨t, ht, -⟩ := State.frames_cons hr
      show T.setVm s.vm = { ((T.setVm s.vm).setFrames (.invoking m args :: below)).setFrames (T.setVm s.vm).frames with heap := T.heap, slotsUsed := T.slotsUsed }
      rw [State.setFrames_setFrames, State.setFrames_self ht]
      rfl
    · show T.slotsUsed = T.slotsUsed + ((T.heap.toList.drop T.heap.size).map (·.slots.size)).sum
      rw [List.drop_eq_nil_of_le (Nat.le_of_eq Array.length_toList)]
      rfl
    · show ((T.heap.toList.drop T.heap.size).map (·.slots.size)).sum ≤ 0
      rw [List.drop_eq_nil_of_le (Nat.le_of_eq Array.length_toList)]
      exact Nat.le_refl _
/-- 'throw new E()': new; dup; invokespecial; athrow -/
theorem vx_throw0 {cc : ByteArray} {pc : Nat} (hexec : p.tables.exec = Jvm.exec) (hb : c.code = cc) (hl : l.stackTraces = false) {own cls : String} {names : List String} {ik ic mc ms : Nat} {A : Nat → Prop}
    (hown : s.vm.findClass own = some m.cls) (hcls : Bundle.fit cls = true) (hnames : ∀ n ∈ names, Bundle.fit n = true)
    (hk : (Cond.classLink own ik cls).before args s = true) (hini : (Cond.initialized cls).before args s = true) (hat : ∀ w ∈ vx_at0 own ic cls names, w.before args s = true)
    (hgood : ∀ w ∈ Cond.classLink own ik cls :: Cond.initialized cls :: vx_at0 own ic cls names, vx_ot w = true)
    (hU : vx_Zq Bundle.tN "UNASSIGNED_STACK" Bundle.steD A s s.heap) (hN : vx_Zq Bundle.tN "SUPPRESSED_SENTINEL" Bundle.listD A s s.heap) (hS : va_S A s.heap H locs) (hsize : ls.size = c.maxLocals)
    (d0 : decode cc pc = .ok (.new ik, 3)) (d3 : decode cc (pc + 3) = .ok (.dup, 1)) (d4 : decode cc (pc + 4) = .ok (.invokespecial ic, 3)) (d7 : decode cc (pc + 7) = .ok (.athrow, 1))
    (hout : ∀ x ∈ c.exceptionTable.toList, covers x (pc + 7) = false)
    (hRframes : names.length + 3 < R.frames) (hRlocals : (rest.map fun v => v.category).sum + (13 * (names.length + 1) + 42) ≤ R.locals) (hRcells : cells + 1 ≤ R.cells) (hRslots : slots + 6 ≤ R.slots) (hlocks : meth.locks = false)
    (hx : ∀ t : State, s.vm.Alike t.vm → H.size ≤ t.heap.size → (∀ q : Nat, q < H.size → t.heap[q]? = H[q]?) → XC cls s t)
    (hf : ∀ z ∈ locs, free z.base) (hc : cells + 1 ≤ mc) (hs : slots + 6 ≤ ms) :
    W p l e R s m args below meth c H locs cells slots (vx_MQ below Qc XC args s mc ms free) (F0 m pc ls rest) := by
  intro T hT X
  have htr : e.platform.stackTraces = false := (show e.platform.stackTraces = l.stackTraces by rw [X.admits.platform]).trans hl
  have Y := vx_rebase X (R' := { frames := R.frames, locals := R.locals, cells := 1, slots := 6 }) (Nat.le_refl _) (Nat.le_refl _) hRcells hRslots
  obtain ⟨s', hA⟩ : ∃ z, z = (T.setVm s.vm).setFrames (.invoking m args :: below) := ⟨_, rfl⟩
  rw [← hA] at Y
  have hvm : s'.vm = s.vm := by rw [hA]; rfl
  have hhp : s'.heap = H := by rw [hA]; exact hT
  have hW0 : s.WarmedH s'.vm := by rw [hvm]; exact State.WarmedH.refl s
  have hat' : ∀ w ∈ vx_at0 own ic cls names, w.before args s' = true := fun w hw => vx_ot_at hW0 hvm.symm (hgood w (List.mem_cons_of_mem _ (List.mem_cons_of_mem _ hw))) (hat w hw)
  have hk' : (Cond.classLink own ik cls).before args s' = true := vx_ot_at hW0 hvm.symm (hgood _ List.mem_cons_self) hk
  have hini' : (Cond.initialized cls).before args s' = true := vx_ot_at hW0 hvm.symm (hgood _ (List.mem_cons_of_mem _ List.mem_cons_self)) hini
  have hU' : vx_Zq Bundle.tN "UNASSIGNED_STACK" Bundle.steD A s' s'.heap := by rw [hhp]; exact vx_Zq.moved hW0.alike (hU.kept hS.2.1)
  have hN' : vx_Zq Bundle.tN "SUPPRESSED_SENTINEL" Bundle.listD A s' s'.heap := by rw [hhp]; exact vx_Zq.moved hW0.alike (hN.kept hS.2.1)
  have h : ∀ w ∈ Bundle.ownAtoms0 own ic cls names, w.before args s' = true := vx_own hat' (vx_isRefq hU'.1) (vx_isRefq hN'.1) hU'.2.word hN'.2.word
  have hown' : s'.vm.findClass own = some m.cls := by rw [hvm]; exact hown
  have hins : (Cond.instantiable cls 6).before args s' = true := h _ (by simp [Bundle.ownAtoms0])
  obtain ⟨vm₁, cX, kX, hfX, hkX, -, -, X₁, st1⟩ := Y.newCold hexec (own := own) (C := cls) (index := ik) (n := 6) hown' hk' hins hini'
    (g := F0 m pc ls rest) rfl (by rw [hb]; exact d0) (Nat.le_refl _) (Nat.le_refl _)
  generalize hT1 : (T.setVm vm₁).pushCell { cls := cX, slots := kX.instanceTypes.map defaultValue, vm := .none } = T1 at X₁ st1
  have hcat : (Value.ref T.heap.size).category = 1 := rfl
  have hcellA : T1.heap[T.heap.size]? = some (freshCell cX kX) := by rw [← hT1]; exact State.heap_pushCell_size _ _
  have d3' : decode c.code (pc + 3) = .ok (.dup, 1) := by rw [hb]; exact d3
  obtain ⟨U, hsteps, hrun, hend, hW, hsame, ce, hce, hO⟩ := X₁.ctorThrow0 hexec htr (own := own) (cls := cls) (names := names) (ic := ic) hown' hcls hnames h (fun x hx => nomatch hx) hfX hkX hcellA (by rw [hhp, hT]; exact Nat.le_refl _)
    (g := { method := m, pc := pc + 4, locals := ls, stack := .ref T.heap.size :: .ref T.heap.size :: rest, locked := none }) rfl hsize rfl rfl (rest := rest) rfl
    (by rw [hb]; exact d4) (by rw [hb]; exact d7) hout hRframes (by simp only [List.map_cons, List.sum_cons, hcat]; omega) hlocks
  obtain ⟨f1, f2⟩ := vx_frame hsame
  rw [hhp] at f1 f2
  have hWs : s.WarmedH U.vm := State.WarmedH.trans hW0 hW
  have hcl : s.vm.findClass cls = some ce.cls := by
    have h9 := hO.cls
    rw [hvm] at h9
    exact h9
  have hall : s.sameButNew ({ U with vm := s.vm } : State) locs mc ms := by
    subst hA
    obtain ⟨e1, e2⟩ := hsame
    rw [State.setFrames_setFrames] at e1
    have h2 : (T.setVm s.vm).sameButNew ({ U with vm := s.vm } : State) [] (0 + 1) (0 + 6) := ⟨e1, e2⟩
    have h3 := X.same.trans h2
    rw [List.append_nil] at h3
    exact h3.mono hc hs
  refine ⟨U, ?_, .threw T.heap.size, hrun, hend, Or.inr ⟨T.heap.size, rfl, cls, ce, locs, hx U hWs.alike f1 (fun q hq => f2 q hq (fun z hz => nomatch hz)), hce, hO.vm, hcl, hWs, hall, hf⟩⟩
  refine st1 _ ?_
  show Steps p.tables e below (T1.setTop { method := m, pc := pc + 3, locals := ls, stack := .ref T.heap.size :: rest, locked := none }) _
  jvm_step X₁.here [X₁.here.top, hexec, d3', Value.category]
  exact hsteps
/-- 'throw new E("text")': new; dup; ldc; invokespecial; athrow -/
theorem vx_throwS {cc : ByteArray} {pc : Nat} (hexec : p.tables.exec = Jvm.exec) (hb : c.code = cc) (hl : l.stackTraces = false) {own cls text : String} {names : List String} {ik is ic mc ms sa : Nat} {A : Nat → Prop}
    (hown : s.vm.findClass own = some m.cls) (hcls : Bundle.fit cls = true) (hnames : ∀ n ∈ names, Bundle.fit n = true)
    (hk : (Cond.classLink own ik cls).before args s = true) (hini : (Cond.initialized cls).before args s = true) (hstr : vk_R own is text sa s) (hat : ∀ w ∈ vx_atS own ic cls names, w.before args s = true)
    (hgood : ∀ w ∈ Cond.classLink own ik cls :: Cond.initialized cls :: vx_atS own ic cls names, vx_ot w = true)
    (hU : vx_Zq Bundle.tN "UNASSIGNED_STACK" Bundle.steD A s s.heap) (hN : vx_Zq Bundle.tN "SUPPRESSED_SENTINEL" Bundle.listD A s s.heap) (hS : va_S A s.heap H locs) (hsize : ls.size = c.maxLocals)
    (d0 : decode cc pc = .ok (.new ik, 3)) (d3 : decode cc (pc + 3) = .ok (.dup, 1)) (d4 : decode cc (pc + 4) = .ok (.ldc is, 2)) (d6 : decode cc (pc + 6) = .ok (.invokespecial ic, 3)) (d9 : decode cc (pc + 9) = .ok (.athrow, 1))
    (hout : ∀ x ∈ c.exceptionTable.toList, covers x (pc + 9) = false)
    (hRframes : names.length + 3 < R.frames) (hRlocals : (rest.map fun v => v.category).sum + (13 * (names.length + 1) + 43) ≤ R.locals) (hRcells : cells + 1 ≤ R.cells) (hRslots : slots + 6 ≤ R.slots) (hlocks : meth.locks = false)
    (hx : ∀ t : State, s.vm.Alike t.vm → H.size ≤ t.heap.size → (∀ q : Nat, q < H.size → t.heap[q]? = H[q]?) → XC cls s t)
    (hf : ∀ z ∈ locs, free z.base) (hc : cells + 1 ≤ mc) (hs : slots + 6 ≤ ms) :
    W p l e R s m args below meth c H locs cells slots (vx_MQ below Qc XC args s mc ms free) (F0 m pc ls rest) := by
  intro T hT X
  have htr : e.platform.stackTraces = false := (show e.platform.stackTraces = l.stackTraces by rw [X.admits.platform]).trans hl
  have Y := vx_rebase X (R' := { frames := R.frames, locals := R.locals, cells := 1, slots := 6 }) (Nat.le_refl _) (Nat.le_refl _) hRcells hRslots
  obtain ⟨s', hA⟩ : ∃ z, z = (T.setVm s.vm).setFrames (.invoking m args :: below) := ⟨_, rfl⟩
  rw [← hA] at Y
  have hvm : s'.vm = s.vm := by rw [hA]; rfl
  have hhp : s'.heap = H := by rw [hA]; exact hT
  have hW0 : s.WarmedH s'.vm := by rw [hvm]; exact State.WarmedH.refl s
  have hat' : ∀ w ∈ vx_atS own ic cls names, w.before args s' = true := fun w hw => vx_ot_at hW0 hvm.symm (hgood w (List.mem_cons_of_mem _ (List.mem_cons_of_mem _ hw))) (hat w hw)
  have hk' : (Cond.classLink own ik cls).before args s' = true := vx_ot_at hW0 hvm.symm (hgood _ List.mem_cons_self) hk
  have hini' : (Cond.initialized cls).before args s' = true := vx_ot_at hW0 hvm.symm (hgood _ (List.mem_cons_of_mem _ List.mem_cons_self)) hini
  have hU' : vx_Zq Bundle.tN "UNASSIGNED_STACK" Bundle.steD A s' s'.heap := by rw [hhp]; exact vx_Zq.moved hW0.alike (hU.kept hS.2.1)
  have hN' : vx_Zq Bundle.tN "SUPPRESSED_SENTINEL" Bundle.listD A s' s'.heap := by rw [hhp]; exact vx_Zq.moved hW0.alike (hN.kept hS.2.1)
  have h : ∀ w ∈ Bundle.ownAtoms own ic cls names, w.before args s' = true := vx_own hat' (vx_isRefq hU'.1) (vx_isRefq hN'.1) hU'.2.word hN'.2.word
  have hown' : s'.vm.findClass own = some m.cls := by rw [hvm]; exact hown
  have hins : (Cond.instantiable cls 6).before args s' = true := h _ (by simp [Bundle.ownAtoms])
  obtain ⟨vm₁, cX, kX, hfX, hkX, -, -, X₁, st1⟩ := Y.newCold hexec (own := own) (C := cls) (index := ik) (n := 6) hown' hk' hins hini'
    (g := F0 m pc ls rest) rfl (by rw [hb]; exact d0) (Nat.le_refl _) (Nat.le_refl _)
  generalize hT1 : (T.setVm vm₁).pushCell { cls := cX, slots := kX.instanceTypes.map defaultValue, vm := .none } = T1 at X₁ st1
  have hcat : (Value.ref T.heap.size).category = 1 := rfl
  have hcellA : T1.heap[T.heap.size]? = some (freshCell cX kX) := by rw [← hT1]; exact State.heap_pushCell_size _ _
  have d3' : decode c.code (pc + 3) = .ok (.dup, 1) := by rw [hb]; exact d3
  have d4' : decode c.code (pc + 4) = .ok (.ldc is, 2) := by rw [hb]; exact d4
  have hstr' : vk_R own is text sa s' := vk_R.warm hW0 hstr
  obtain ⟨U, hsteps, hrun, hend, hW, hsame, ce, hce, hO⟩ := X₁.ctorThrowS hexec htr (own := own) (cls := cls) (names := names) (ic := ic) hown' hcls hnames h (fun x hx => nomatch hx) hfX hkX hcellA (by rw [hhp, hT]; exact Nat.le_refl _) (msg := .ref sa) rfl
    (g := { method := m, pc := pc + 6, locals := ls, stack := .ref sa :: .ref T.heap.size :: .ref T.heap.size :: rest, locked := none }) rfl hsize rfl rfl (rest := rest) rfl
    (by rw [hb]; exact d6) (by rw [hb]; exact d9) hout hRframes (by simp only [List.map_cons, List.sum_cons, hcat]; omega) hlocks
  obtain ⟨f1, f2⟩ := vx_frame hsame
  rw [hhp] at f1 f2
  have hWs : s.WarmedH U.vm := State.WarmedH.trans hW0 hW
  have hcl : s.vm.findClass cls = some ce.cls := by
    have h9 := hO.cls
    rw [hvm] at h9
    exact h9
  have hall : s.sameButNew ({ U with vm := s.vm } : State) locs mc ms := by
    subst hA
    obtain ⟨e1, e2⟩ := hsame
    rw [State.setFrames_setFrames] at e1
    have h2 : (T.setVm s.vm).sameButNew ({ U with vm := s.vm } : State) [] (0 + 1) (0 + 6) := ⟨e1, e2⟩
    have h3 := X.same.trans h2
    rw [List.append_nil] at h3
    exact h3.mono hc hs
  refine ⟨U, ?_, .threw T.heap.size, hrun, hend, Or.inr ⟨T.heap.size, rfl, cls, ce, locs, hx U hWs.alike f1 (fun q hq => f2 q hq (fun z hz => nomatch hz)), hce, hO.vm, hcl, hWs, hall, hf⟩⟩
  refine st1 _ ?_
  show Steps p.tables e below (T1.setTop { method := m, pc := pc + 3, locals := ls, stack := .ref T.heap.size :: rest, locked := none }) _
  jvm_step X₁.here [X₁.here.top, hexec, d3', Value.category]
  exact X₁.ldcString hexec (own := own) (text := text) (index := is) (a := sa) hown' hstr'.1 hstr'.2
    (g := { method := m, pc := pc + 4, locals := ls, stack := .ref T.heap.size :: .ref T.heap.size :: rest, locked := none }) rfl d4' _ hsteps
/-- 'throw new E("text")', the text by a wide index -/
theorem vx_throwSW {cc : ByteArray} {pc : Nat} (hexec : p.tables.exec = Jvm.exec) (hb : c.code = cc) (hl : l.stackTraces = false) {own cls text : String} {names : List String} {ik is ic mc ms sa : Nat} {A : Nat → Prop}
    (hown : s.vm.findClass own = some m.cls) (hcls : Bundle.fit cls = true) (hnames : ∀ n ∈ names, Bundle.fit n = true)
    (hk : (Cond.classLink own ik cls).before args s = true) (hini : (Cond.initialized cls).before args s = true) (hstr : vk_R own is text sa s) (hat : ∀ w ∈ vx_atS own ic cls names, w.before args s = true)
    (hgood : ∀ w ∈ Cond.classLink own ik cls :: Cond.initialized cls :: vx_atS own ic cls names, vx_ot w = true)
    (hU : vx_Zq Bundle.tN "UNASSIGNED_STACK" Bundle.steD A s s.heap) (hN : vx_Zq Bundle.tN "SUPPRESSED_SENTINEL" Bundle.listD A s s.heap) (hS : va_S A s.heap H locs) (hsize : ls.size = c.maxLocals)
    (d0 : decode cc pc = .ok (.new ik, 3)) (d3 : decode cc (pc + 3) = .ok (.dup, 1)) (d4 : decode cc (pc + 4) = .ok (.ldc_w is, 3)) (d7 : decode cc (pc + 7) = .ok (.invokespecial ic, 3)) (d10 : decode cc (pc + 10) = .ok (.athrow, 1))
    (hout : ∀ x ∈ c.exceptionTable.toList, covers x (pc + 10) = false)
    (hRframes : names.length + 3 < R.frames) (hRlocals : (rest.map fun v => v.category).sum + (13 * (names.length + 1) + 43) ≤ R.locals) (hRcells : cells + 1 ≤ R.cells) (hRslots : slots + 6 ≤ R.slots) (hlocks : meth.locks = false)
    (hx : ∀ t : State, s.vm.Alike t.vm → H.size ≤ t.heap.size → (∀ q : Nat, q < H.size → t.heap[q]? = H[q]?) → XC cls s t)
    (hf : ∀ z ∈ locs, free z.base) (hc : cells + 1 ≤ mc) (hs : slots + 6 ≤ ms) :
    W p l e R s m args below meth c H locs cells slots (vx_MQ below Qc XC args s mc ms free) (F0 m pc ls rest) := by
  intro T hT X
  have htr : e.platform.stackTraces = false := (show e.platform.stackTraces = l.stackTraces by rw [X.admits.platform]).trans hl
  have Y := vx_rebase X (R' := { frames := R.frames, locals := R.locals, cells := 1, slots := 6 }) (Nat.le_refl _) (Nat.le_refl _) hRcells hRslots
  obtain ⟨s', hA⟩ : ∃ z, z = (T.setVm s.vm).setFrames (.invoking m args :: below) := ⟨_, rfl⟩
  rw [← hA] at Y
  have hvm : s'.vm = s.vm := by rw [hA]; rfl
  have hhp : s'.heap = H := by rw [hA]; exact hT
  have hW0 : s.WarmedH s'.vm := by rw [hvm]; exact State.WarmedH.refl s
  have hat' : ∀ w ∈ vx_atS own ic cls names, w.before args s' = true := fun w hw => vx_ot_at hW0 hvm.symm (hgood w (List.mem_cons_of_mem _ (List.mem_cons_of_mem _ hw))) (hat w hw)
  have hk' : (Cond.classLink own ik cls).before args s' = true := vx_ot_at hW0 hvm.symm (hgood _ List.mem_cons_self) hk
  have hini' : (Cond.initialized cls).before args s' = true := vx_ot_at hW0 hvm.symm (hgood _ (List.mem_cons_of_mem _ List.mem_cons_self)) hini
  have hU' : vx_Zq Bundle.tN "UNASSIGNED_STACK" Bundle.steD A s' s'.heap := by rw [hhp]; exact vx_Zq.moved hW0.alike (hU.kept hS.2.1)
  have hN' : vx_Zq Bundle.tN "SUPPRESSED_SENTINEL" Bundle.listD A s' s'.heap := by rw [hhp]; exact vx_Zq.moved hW0.alike (hN.kept hS.2.1)
  have h : ∀ w ∈ Bundle.ownAtoms own ic cls names, w.before args s' = true := vx_own hat' (vx_isRefq hU'.1) (vx_isRefq hN'.1) hU'.2.word hN'.2.word
  have hown' : s'.vm.findClass own = some m.cls := by rw [hvm]; exact hown
  have hins : (Cond.instantiable cls 6).before args s' = true := h _ (by simp [Bundle.ownAtoms])
  obtain ⟨vm₁, cX, kX, hfX, hkX, -, -, X₁, st1⟩ := Y.newCold hexec (own := own) (C := cls) (index := ik) (n := 6) hown' hk' hins hini'
    (g := F0 m pc ls rest) rfl (by rw [hb]; exact d0) (Nat.le_refl _) (Nat.le_refl _)
  generalize hT1 : (T.setVm vm₁).pushCell { cls := cX, slots := kX.instanceTypes.map defaultValue, vm := .none } = T1 at X₁ st1
  have hcat : (Value.ref T.heap.size).category = 1 := rfl
  have hcellA : T1.heap[T.heap.size]? = some (freshCell cX kX) := by rw [← hT1]; exact State.heap_pushCell_size _ _
  have d3' : decode c.code (pc + 3) = .ok (.dup, 1) := by rw [hb]; exact d3
  have d4' : decode c.code (pc + 4) = .ok (.ldc_w is, 3) := by rw [hb]; exact d4
  have hstr' : vk_R own is text sa s' := vk_R.warm hW0 hstr
  obtain ⟨U, hsteps, hrun, hend, hW, hsame, ce, hce, hO⟩ := X₁.ctorThrowS hexec htr (own := own) (cls := cls) (names := names) (ic := ic) hown' hcls hnames h (fun x hx => nomatch hx) hfX hkX hcellA (by rw [hhp, hT]; exact Nat.le_refl _) (msg := .ref sa) rfl
    (g := { method := m, pc := pc + 7, locals := ls, stack := .ref sa :: .ref T.heap.size :: .ref T.heap.size :: rest, locked := none }) rfl hsize rfl rfl (rest := rest) rfl
    (by rw [hb]; exact d7) (by rw [hb]; exact d10) hout hRframes (by simp only [List.map_cons, List.sum_cons, hcat]; omega) hlocks
  obtain ⟨f1, f2⟩ := vx_frame hsame
  rw [hhp] at f1 f2
  have hWs : s.WarmedH U.vm := State.WarmedH.trans hW0 hW
  have hcl : s.vm.findClass cls = some ce.cls := by
    have h9 := hO.cls
    rw [hvm] at h9
    exact h9
  have hall : s.sameButNew ({ U with vm := s.vm } : State) locs mc ms := by
    subst hA
    obtain ⟨e1, e2⟩ := hsame
    rw [State.setFrames_setFrames] at e1
    have h2 : (T.setVm s.vm).sameButNew ({ U with vm := s.vm } : State) [] (0 + 1) (0 + 6) := ⟨e1, e2⟩
    have h3 := X.same.trans h2
    rw [List.append_nil] at h3
    exact h3.mono hc hs
  refine ⟨U, ?_, .threw T.heap.size, hrun, hend, Or.inr ⟨T.heap.size, rfl, cls, ce, locs, hx U hWs.alike f1 (fun q hq => f2 q hq (fun z hz => nomatch hz)), hce, hO.vm, hcl, hWs, hall, hf⟩⟩
  refine st1 _ ?_
  show Steps p.tables e below (T1.setTop { method := m, pc := pc + 3, locals := ls, stack := .ref T.heap.size :: rest, locked := none }) _
  jvm_step X₁.here [X₁.here.top, hexec, d3', Value.category]
  exact X₁.ldcStringW hexec (own := own) (text := text) (index := is) (a := sa) hown' hstr'.1 hstr'.2
    (g := { method := m, pc := pc + 4, locals := ls, stack := .ref T.heap.size :: .ref T.heap.size :: rest, locked := none }) rfl d4' _ hsteps
end Ends
section Bodies
variable {l : Launch}
theorem vx_ofW {y : MethodName} {ws ws' : List Cond} {rm : Room} {Pc : Array Value → State → Prop} {Qc : Array Value → State → Outcome → State → Prop} {XC : String → State → State → Prop} {mc ms : Nat} {free : Addr → Prop} {cc : ByteArray} {maxL : Nat} {ret : Option FieldType}
    (hy : plainName y.cls = true) (hw : ws = Cond.code y cc maxL ret :: ws')
    (body : ∀ p e s m args below meth c s₁, BodyLoose p l y (headSpec ws rm) cc maxL ret e s m args below meth c s₁ → c.maxLocals = maxL → (∀ x ∈ c.exceptionTable.toList, False) → Pc args s →
      W p l e (headSpec ws rm).room s m args below meth c s.heap [] 0 0 (vx_MQ below Qc XC args s mc ms free) (entryFrame m args maxL)) : vx_Met l y ws rm Pc Qc XC mc ms free := by
  refine MetFree.of_bodyS (code := cc) (maxLocals := maxL) (ret := ret) hy ?_ ?_
  · intro args s m h hn
    obtain ⟨meth, c, h1, h2, h3, h4, h5, h6, -, -⟩ := Cond.code_spec hn (atoms_spec (ws := ws) h _ (by rw [hw]; exact List.mem_cons_self))
    exact ⟨meth, c, h1, h2, h3, h4, h5, h6⟩
  · intro p e s m args below meth c s₁ B hml hP _
    have hh0 : s₁.heap = s.heap := by rw [B.state]; rfl
    have ht : ∀ x ∈ c.exceptionTable.toList, False := by
      obtain ⟨meth9, c9, h1, h2, -, -, -, -, h7, -⟩ := Cond.code_spec B.named (atoms_spec (ws := ws) B.pre _ (by rw [hw]; exact List.mem_cons_self))
      cases Option.some.inj (h1.symm.trans B.method)
      cases Option.some.inj (h2.symm.trans (Stand.of_body B).code)
      intro x hx
      rw [Array.isEmpty_iff.mp h7] at hx
      cases hx
    obtain ⟨t, a1, o, b1, b2, b3⟩ := body p e s m args below meth c s₁ B hml ht hP s₁ hh0 (Stand.of_body B)
    exact ⟨t, o, a1, b1, b2, b3⟩
/-- the table of a body with handlers -/
theorem vx_table {p : Program} {x y : MethodName} {S : Spec} {cc bytes : ByteArray} {maxL maxL' : Nat} {ret ret' : Option FieldType} {e : Env} {s s₁ : State} {m : MethodId} {args : Array Value} {below : List Frame} {meth : Method} {c : Code} {hh : List (Nat × Nat × Nat × Nat)}
    (B : BodyLoose p l y S cc maxL ret e s m args below meth c s₁) (h : (Cond.codeWith y bytes maxL' ret' hh).before args s = true) : c.exceptionTable.toList = tableOf hh := by
  obtain ⟨m9, meth9, c9, hn9, h1, h2, -, -, h6, -⟩ := Cond.codeWith_spec h
  cases Option.some.inj (hn9.symm.trans B.named)
  cases Option.some.inj (h1.symm.trans B.method)
  cases Option.some.inj (h2.symm.trans (Stand.of_body B).code)
  rw [← h6, table_eq]
end Bodies
end VXA
/-! ===== END ===== -/
/-! ===== BEGIN a static call of a method with an exception table ===== -/
section VXS
variable {p : Program} {l : Launch} {e : Env} {R : Room} {s : State} {m : MethodId} {args : Array Value} {below : List Frame} {meth : Method} {c : Code} {T : State} {H : Heap} {locs : List Loc} {cells slots : Nat}
abbrev vx_CSW (R : Room) (s : State) (args : Array Value) (own : String) (index : Nat) (y : MethodName) (bytes : ByteArray) (maxL : Nat) (ret : Option FieldType) (hh : List (Nat × Nat × Nat × Nat)) (ws : List Cond) (rm : Room) (mc ms n : Nat) : Prop :=
  (rm.cells = mc ∧ rm.slots = ms ∧ rm.frames + 1 ≤ R.frames ∧ 8 + (maxL + 11) + rm.locals ≤ R.locals ∧ (∀ w ∈ ws, ∀ (a' : Array Value) (U : State), s.WarmedH U.vm → w.before a' U = true) ∧ Cond.codeWith y bytes maxL ret hh ∈ ws) ∧
  (Cond.codeWith y bytes maxL ret hh).before args s = true ∧ (Cond.initialized y.cls).before args s = true ∧ (y.cls ≠ "java/lang/invoke/MethodHandle" ∧ y.cls ≠ "java/lang/invoke/VarHandle") ∧
  (∀ sig, parseMethodDescriptor y.desc = some sig → n = sig.parameters.length) ∧ (Cond.methodLink own index y).before args s = true ∧ (Cond.static y).before args s = true
theorem vx_cwSW {own : String} {index maxL mc ms : Nat} {y : MethodName} {bytes : ByteArray} {ret : Option FieldType} {hh : List (Nat × Nat × Nat × Nat)} {Ts ws ws' : List Cond} {rm : Room} (n : Nat) (ht : ∀ w ∈ Ts, w.before args s = true) (hT : GoodIn Ts (va_wsS own index y ws)) (hw : ws = Cond.codeWith y bytes maxL ret hh :: ws') (hrc : rm.cells = mc) (hrs : rm.slots = ms)
    (hd : y.cls ≠ "java/lang/invoke/MethodHandle" ∧ y.cls ≠ "java/lang/invoke/VarHandle" ∧ (parseMethodDescriptor y.desc).map (fun d => d.parameters.length) = some n) (hR : rm.frames + 1 ≤ R.frames ∧ 8 + (maxL + 11) + rm.locals ≤ R.locals) :
    vx_CSW R s args own index y bytes maxL ret hh ws rm mc ms n := by
  have ok : ∀ w ∈ va_wsS own index y ws, w.before args s = true := fun w h => ht w (hT w h).1
  have hG : GoodIn Ts ws := fun w h => hT w (by unfold va_wsS; exact List.mem_append_right _ h)
  have hc : Cond.codeWith y bytes maxL ret hh ∈ ws := by rw [hw]; exact List.mem_cons_self
  refine ⟨⟨hrc, hrs, hR.1, hR.2, pay_in ht hG, hc⟩, ht _ (hG _ hc).1, ok _ (by simp [va_wsS]), ⟨hd.1, hd.2.1⟩, fun sig h => ?_, ok _ (by simp [va_wsS]), ok _ (by simp [va_wsS])⟩
  have h2 := hd.2.2
  rw [h] at h2
  exact (Option.some.inj h2).symm
theorem vx_callSW (X : Stand p l e R s m args below meth c T locs cells slots) (hexec : p.tables.exec = Jvm.exec) {own : String} {index : Nat} {y : MethodName} {bytes : ByteArray} {maxL : Nat} {ret : Option FieldType} {hh : List (Nat × Nat × Nat × Nat)}
    (hown : s.vm.findClass own = some m.cls) (hlink : (Cond.methodLink own index y).before args s = true) (hstat : (Cond.static y).before args s = true) (hinit : (Cond.initialized y.cls).before args s = true)
    (hcode : (Cond.codeWith y bytes maxL ret hh).before args s = true) (hy : y.cls ≠ "java/lang/invoke/MethodHandle" ∧ y.cls ≠ "java/lang/invoke/VarHandle")
    {W9 : Nat} {Pre : Pt → Array Value → Prop} {Post : Pt → Array Value → Option Value → Pt → Prop} (hK : Back l R p e below s args y 3 W9 Pre Post)
    {g : JFrame} (hg : g.method = m) (hsize : g.locals.size = c.maxLocals) {argsL rest : List Value} (hlen : ∀ sig, parseMethodDescriptor y.desc = some sig → argsL.length = sig.parameters.length)
    (hstack : g.stack = argsL.reverse ++ rest) (hW : 2 * g.monitorRoom + (rest.map fun v => v.category).sum ≤ W9) (hdg : decode c.code g.pc = .ok (.invokestatic index, 3))
    (hpre : ∀ vm₁, s.WarmedH vm₁ → Pre ⟨T.setVm vm₁, locs, cells, slots⟩ argsL.toArray) :
    ∃ (v : Option Value) (vm₁ : Vm) (B : Pt), s.WarmedH vm₁ ∧ Stand p l e R s m args below meth c B.U B.locs B.cells B.slots ∧ Post ⟨T.setVm vm₁, locs, cells, slots⟩ argsL.toArray v B ∧
      ∀ target, Steps p.tables e below (B.U.setTop { g with pc := g.pc + 3, stack := v.toList ++ rest }) target → Steps p.tables e below (T.setTop g) target := by
  obtain ⟨mk, methM, cM, hnamed, hmethM, -, -, -, -, -, -, hsigM⟩ := Cond.codeWith_spec hcode
  have hstatic : methM.isStatic = true := Cond.static_spec hnamed hmethM hstat
  obtain ⟨kP, hkP, -⟩ := className_of_methodNamed hnamed
  have hinitP : kP.init = .initialized := Cond.initialized_spec (findClass_of_methodNamed hnamed) hkP hinit
  obtain ⟨vm₁, X₁, hstep₁⟩ := X.invokestatic hexec hown hlink hnamed hmethM hstatic hkP hinitP hy (g := g) hg (argsL := argsL) (rest := rest) (hlen _ hsigM) hstack hdg
  obtain ⟨v, B, X', hpost, hsteps⟩ := hK m meth c ⟨T.setVm vm₁, locs, cells, slots⟩ { g with stack := rest } (.invokestatic index) mk argsL.toArray X₁ hg hsize hdg hW (X₁.named hnamed) (hpre vm₁ X₁.warmed)
  exact ⟨v, vm₁, B, X₁.warmed, X', hpost, fun target h => hstep₁ _ fun acts => by rw [doInvoke_state]; exact hsteps.trans h⟩
theorem vx_runSW {y : MethodName} {bytes cc : ByteArray} {maxL nL mc ms n index : Nat} {ret : Option FieldType} {hh : List (Nat × Nat × Nat × Nat)} {ws : List Cond} {rm : Room} {Pc : Array Value → State → Prop} {Qc : Array Value → State → Outcome → State → Prop} {free : Addr → Prop} {Ts : List Cond} {own : String} {As rest : List Value} {g : JFrame}
    (S : CallFix p m c cc nL s args Ts own) (hM : Met l y ws rm Pc Qc mc ms free) (cw : vx_CSW R s args own index y bytes maxL ret hh ws rm mc ms n) (hp : PreS s H Pc As)
    (hg : g.method = m) (hn : As.length = n) (hsize : g.locals.size = nL) (hstack : g.stack = As.reverse ++ rest) (hW : 2 * g.monitorRoom + (rest.map fun v => v.category).sum ≤ 8) (hdg : decode cc g.pc = .ok (.invokestatic index, 3)) (hf : cells + mc ≤ R.cells ∧ slots + ms ≤ R.slots) :
    va_Run p l e R s m args below meth c H locs cells slots mc ms g rest (Qc As.toArray) (free) := by
  obtain ⟨⟨hrc, hrs, hfr, hlo, hws, hcw⟩, hcode, hini, hy, hlen, hl, hstt⟩ := cw
  have hK : Back l R p e below s args y 3 8 (PreOf R mc ms Pc) (PostOf Qc mc ms free) := va_backW (hh := hh) (bytes := bytes) (maxL := maxL) (ret := ret) hM hp.1 hrc hrs hfr hlo hws hcw (fun a' U hW => word_at hW (Or.inl (by first | rfl | simp [Cond.onTables, Cond.keeps, Cond.steady])) hini)
  obtain ⟨hx, hb, hml, ho, -⟩ := S
  intro T hT X
  obtain ⟨v, vm₁, ⟨U', l2, c2, s2⟩, hW₁, X', ⟨g', mk, t, L, e1, e2, hq, h1, hL, h2, h3⟩, st⟩ := vx_callSW X hx (hh := hh) (bytes := bytes) (maxL := maxL) (ret := ret) ho hl hstt hini hcode hy hK hg (hsize.trans hml.symm) (argsL := As) (rest := rest) (fun sig h => hn.trans (hlen sig h)) hstack hW (by rw [hb]; exact hdg)
    (fun vm₁ hW₁ => ⟨hf.1, hf.2, hp.2 (T.setVm vm₁) hT hW₁⟩)
  dsimp only [Pt.U, Pt.locs, Pt.cells, Pt.slots] at X' e1 e2 h1 h2 h3 st
  subst h1; subst h2; subst h3
  exact ⟨v, (T.setVm vm₁).calling g' mk As.toArray, t, U', L, hT, X', hL, e1, e2, hq, st⟩
/-- not caught here, past rows that name other classes: it goes on to the caller -/
theorem vx_outP {p : Program} {l : Launch} {e : Env} {R : Room} {s : State} {m : MethodId} {args : Array Value} {below : List Frame} {meth : Method} {c : Code} {H : Heap} {locs : List Loc} {cells slots : Nat} {free : Addr → Prop} {ls : Array Slot} {rest : List Value} {Qc : Array Value → State → Outcome → State → Prop} {XC : String → State → State → Prop}
    {pc : Nat} {own E : String} {ce : Cell} {q : Addr} {mc ms : Nat} (hown : s.vm.findClass own = some m.cls) (hlocks : meth.locks = false)
    (hpass : ∀ z ∈ c.exceptionTable.toList, covers z pc = false ∨ (z.catchType ≠ 0 ∧ ∃ nm : String, (Cond.classLink own z.catchType nm).before args s = true ∧ va_Nc E nm s)) (hcell : H[q]? = some ce) (hv : ce.vm = .none) (hcl : s.vm.findClass E = some ce.cls)
    (hx : ∀ t : State, t.heap = H → s.vm.Alike t.vm → XC E s t) (hf : ∀ z ∈ locs, free z.base) (hc : cells ≤ mc) (hs : slots ≤ ms) :
    vx_W p l e R s m args below meth c H locs cells slots (vx_MQ below Qc XC args s mc ms free) (F0 m pc ls rest) q := by
  intro T hT X
  have hpl : e.platform.magicAccessors = ({} : Platform).magicAccessors := by rw [X.admits.platform]
  obtain ⟨vm', hW', X', st⟩ := X.outThrough hlocks q (g := F0 m pc ls rest) rfl rfl rfl (cell := ce) (by rw [hT]; exact hcell) (by rw [hv]; rfl)
    (by obtain ⟨k9, h9, -⟩ := Vm.findClass_spec hcl; exact ⟨k9, h9⟩) (fun z hz => by
      rcases hpass z hz with h | ⟨hz0, nm, hl1, hn1⟩
      · exact Or.inl h
      · obtain ⟨c6, hc6, hcl6⟩ := Cond.classLink_spec hown hl1 e.platform hpl
        obtain ⟨a8, b8, h1, h2, h3⟩ := hn1
        cases Option.some.inj (h1.symm.trans hcl)
        cases Option.some.inj (h2.symm.trans hc6)
        exact Or.inr ⟨hz0, _, hcl6, h3⟩)
  obtain ⟨g₀, hfr⟩ := X'.frames_eq
  have hcell9 : ((T.setVm vm').setFrames (.throwing q :: below)).heap[q]? = some ce := by
    show T.heap[q]? = some ce
    rw [hT]; exact hcell
  have hend : Ended ((T.setVm vm').setFrames (.throwing q :: below)) below (.threw q) := State.frames_setFrames _ (State.cur_lt_of_frames hfr)
  refine ⟨(T.setVm vm').setFrames (.throwing q :: below), ?_, .threw q, X'.here.running, hend, Or.inr ⟨q, rfl, E, ce, locs, hx _ hT (X'.ends _).1.alike, hcell9, hv, hcl, (X'.ends _).1, (X'.ends _).2.mono hc hs, hf⟩⟩
  rw [X.pushThrowing_eq]
  exact st
/-- a thing of a world lies in the heap -/
theorem vx_lt {D : va_G} {cl : List vw_C} {ws : va_W} {H1 : Heap} (h : va_P D cl ws H1) {k : Nat} {q : Nat × va_E} (hk : ws[k]? = some q) : q.1 < H1.size := (h k q hk).lt
end VXS
/-! ===== END ===== -/
/-! ===== BEGIN methods with a table of their own: called by a name, returning or throwing ===== -/
section VXH
/-! vx_backW, vx_callVX, vx_callSX, vx_callVW, vx_runVW, vx_runVX, vx_runSX, vx_ofWH follow the same proofs as their sisters above (Free/Laws.lean, Shelf42/LK1.lean); vx_outP calls Shelf42/NT130.lean (outThrough). -/
section
variable {l : Launch} {R : Room} {p : Program} {e : Env} {below : List Frame} {s : State} {sargs : Array Value} {y : MethodName} {len W9 : Nat}
theorem vx_backW {ws : List Cond} {rm : Room} {Pc : Array Value → State → Prop} {Qc : Array Value → State → Outcome → State → Prop} {XC : String → State → State → Prop} {mc ms : Nat} {free : Addr → Prop} {bytes : ByteArray} {maxL : Nat} {ret : Option FieldType} {hh : List (Nat × Nat × Nat × Nat)}
    (hM : vx_Met l y ws rm Pc Qc XC mc ms free) (hblind : FrameBlind Pc) (hrc : rm.cells = mc) (hrs : rm.slots = ms)
    (hframes : rm.frames + 1 ≤ R.frames) (hlocals : W9 + (maxL + 11) + rm.locals ≤ R.locals)
    (hws : ∀ w ∈ ws, ∀ a' U, s.WarmedH U.vm → w.before a' U = true) (hcode : Cond.codeWith y bytes maxL ret hh ∈ ws) (hinit : ∀ a' U, s.WarmedH U.vm → (Cond.initialized y.cls).before a' U = true) :
    vx_Back l R p e below s sargs y len W9 (PreOf R mc ms Pc) (PostOf Qc mc ms free) (vx_Post XC mc ms free) := by
  intro m meth c A g ig mk a X hg hsize hdg hW hn hp
  have h1 : (headSpec ws rm).pre.before a A.U = true := atoms_intro fun w hw => hws w hw _ _ X.warmed
  have h2 : (Cond.codeWith y bytes maxL ret hh).before a A.U = true := hws _ hcode _ _ X.warmed
  have h3 : (Cond.initialized y.cls).before a A.U = true := hinit _ _ X.warmed
  have h4 : A.cells + (headSpec ws rm).room.cells ≤ R.cells := by rw [show (headSpec ws rm).room.cells = mc from hrc]; exact hp.1
  have h5 : A.slots + (headSpec ws rm).room.slots ≤ R.slots := by rw [show (headSpec ws rm).room.slots = ms from hrs]; exact hp.2.1
  have hPc : Pc a (A.U.calling g mk a) := hblind _ _ _ _ hp.2.2
  obtain ⟨U, Ls, c0, s0⟩ := A
  dsimp only [Pt.U, Pt.locs, Pt.cells, Pt.slots] at h1 h2 h3 h4 h5 X hn hPc ⊢
  obtain ⟨m9, methY, cY, hn9, hmY, hcY, -, hlY, -⟩ := Cond.codeWith_spec h2
  cases Option.some.inj (hn9.symm.trans hn)
  obtain ⟨kY, hkY, -⟩ := className_of_methodNamed hn
  have hinitY : kY.init = .initialized := Cond.initialized_spec (findClass_of_methodNamed hn) hkY h3
  have h : At U g.method c below := by rw [hg]; exact X.here
  have hlocals9 : W9 + (maxL + 11) + (headSpec ws rm).room.locals ≤ R.locals := hlocals
  have happ : (headSpec ws rm).appliesLoose y e.platform (U.calling g mk a) = true :=
    Spec.appliesLoose_calling (g := g) h hdg hn hkY hinitY
      (X.room_calling (g := g) (R' := (headSpec ws rm).room) hsize hmY hcY hframes (by rw [hlY]; omega) h4 h5) h1
  obtain ⟨mid, hmid⟩ := h.above
  have hfr : (U.setTop g).frames = (.java g :: mid) ++ below := by rw [State.frames_setTop' g h.top, hmid]; rfl
  obtain ⟨o, s₂, hsteps, -, hend, hq⟩ := Steps.callFree hM p X.admits X.cas X.clock (acts := []) hfr happ hPc trivial
  have hq' : vx_Q Qc XC mc ms free a (U.calling g mk a) o s₂ := hq
  rw [State.frames_setTop' g h.top] at hend
  obtain ⟨g₀, hg0⟩ := Option.isSome_iff_exists.mp h.top
  obtain ⟨r, hr⟩ := State.topJava?_eq_some.mp hg0
  have hr' : (({ U with heap := s₂.heap, slotsUsed := s₂.slotsUsed } : State).setVm s₂.vm).frames = .java g₀ :: r := hr
  rcases hq' with ⟨hqc, L, hfe, hL⟩ | ⟨q, rfl, E, ce, L, hx, hce, hcv, hcl, hW₂, hsm, hL⟩
  · obtain ⟨⟨v, rfl⟩, hW₂, e2, q2, q3, q4, q5, q6⟩ := id hfe
    have e3 : s₂ = ({ (U.calling g mk a).setFrames s₂.frames with heap := s₂.heap, slotsUsed := s₂.slotsUsed } : State).setVm s₂.vm := by
      have : s₂ = ({ s₂ with vm := (U.calling g mk a).vm } : State).setVm s₂.vm := rfl
      rw [e2] at this
      exact this
    obtain ⟨c₂, i₂, len₂, hc₂, hd₂, hf₂⟩ := hend
    have hW' : U.WarmedH s₂.vm := hW₂
    have hcc : c₂ = c := by
      have h1 : s₂.code? g.method = U.code? g.method := by
        rw [State.code?_eq, State.code?_eq, hW'.alike.method?]
      exact Option.some.inj (hc₂.symm.trans (h1.trans h.code))
    subst hcc
    have hlen : len₂ = len := by rw [hdg] at hd₂; cases hd₂; rfl
    subst hlen
    have hs₂ : s₂ = (({ U with heap := s₂.heap, slotsUsed := s₂.slotsUsed } : State).setVm s₂.vm).setTop { g with pc := g.pc + len₂, stack := v.toList ++ g.stack } := by
      refine e3.trans ?_
      rw [hf₂, State.calling_eq h.top, State.setFrames_setFrames, State.setTop_of_frames _ hr', hr]
      rfl
    have hsame : U.sameButNew ({ U with heap := s₂.heap, slotsUsed := s₂.slotsUsed } : State) L mc ms := by
      refine ⟨?_, q2, q3, q4, q5, q6⟩
      obtain ⟨t, ht, -⟩ := State.frames_cons hr
      show ({ U with heap := s₂.heap, slotsUsed := s₂.slotsUsed } : State) = { U.setFrames U.frames with heap := s₂.heap, slotsUsed := s₂.slotsUsed }
      rw [State.setFrames_self ht]
    subst hg
    refine Or.inl ⟨v, ⟨(({ U with heap := s₂.heap, slotsUsed := s₂.slotsUsed } : State).setVm s₂.vm), Ls ++ L, c0 + mc, s0 + ms⟩,
      ⟨X.admits, X.cas, X.clock, X.frames, X.room, X.hears, X.method, X.code, (X.here.setHeapUsed s₂.heap s₂.slotsUsed).setVm hW'.alike, X.tail, State.WarmedH.trans X.warmed hW', X.limits, X.bytes, X.same.trans (hsame.setVm s.vm)⟩,
      ⟨g, mk, s₂, L, rfl, rfl, hqc, rfl, hL, rfl, rfl⟩, ?_⟩
    show Steps p.tables e below _ ((({ U with heap := s₂.heap, slotsUsed := s₂.slotsUsed } : State).setVm s₂.vm).setTop { g with pc := g.pc + len₂, stack := v.toList ++ g.stack })
    rw [← hs₂]
    exact hsteps
  · obtain ⟨e2, q2, q3, q4, q5, q6⟩ := id hsm
    have e3 : s₂ = ({ (U.calling g mk a).setFrames s₂.frames with heap := s₂.heap, slotsUsed := s₂.slotsUsed } : State).setVm s₂.vm := by
      have : s₂ = ({ s₂ with vm := (U.calling g mk a).vm } : State).setVm s₂.vm := rfl
      rw [e2] at this
      exact this
    have hf₂ : s₂.frames = .throwing q :: .java g :: U.frames.tail := hend
    have hW' : U.WarmedH s₂.vm := hW₂
    have hs₂ : s₂ = ((({ U with heap := s₂.heap, slotsUsed := s₂.slotsUsed } : State).setVm s₂.vm).setTop g).pushFrame (.throwing q) := by
      refine e3.trans ?_
      rw [hf₂, State.calling_eq h.top, State.setFrames_setFrames, State.pushFrame, State.frames_setTop _ hr', State.setTop_of_frames _ hr', State.setFrames_setFrames, hr]
      rfl
    have hsame : U.sameButNew ({ U with heap := s₂.heap, slotsUsed := s₂.slotsUsed } : State) L mc ms := by
      refine ⟨?_, q2, q3, q4, q5, q6⟩
      obtain ⟨t, ht, -⟩ := State.frames_cons hr
      show ({ U with heap := s₂.heap, slotsUsed := s₂.slotsUsed } : State) = { U.setFrames U.frames with heap := s₂.heap, slotsUsed := s₂.slotsUsed }
      rw [State.setFrames_self ht]
    subst hg
    refine Or.inr ⟨q, ⟨(({ U with heap := s₂.heap, slotsUsed := s₂.slotsUsed } : State).setVm s₂.vm), Ls ++ L, c0 + mc, s0 + ms⟩,
      ⟨X.admits, X.cas, X.clock, X.frames, X.room, X.hears, X.method, X.code, (X.here.setHeapUsed s₂.heap s₂.slotsUsed).setVm hW'.alike, X.tail, State.WarmedH.trans X.warmed hW', X.limits, X.bytes, X.same.trans (hsame.setVm s.vm)⟩,
      ⟨g, mk, s₂, L, E, ce, rfl, rfl, hx, hce, hcv, hcl, rfl, hL, rfl, rfl⟩, ?_⟩
    show Steps p.tables e below _ (((({ U with heap := s₂.heap, slotsUsed := s₂.slotsUsed } : State).setVm s₂.vm).setTop g).pushFrame (.throwing q))
    rw [← hs₂]
    exact hsteps
end
variable {p : Program} {l : Launch} {e : Env} {R : Room} {s : State} {m : MethodId} {args : Array Value} {below : List Frame} {meth : Method} {c : Code} {T : State} {H : Heap} {locs : List Loc} {cells slots : Nat}
theorem vx_callVX (X : Stand p l e R s m args below meth c T locs cells slots) (hexec : p.tables.exec = Jvm.exec) {own C : String} {index : Nat} {y : MethodName} {bytes : ByteArray} {maxL : Nat} {ret : Option FieldType} {hh : List (Nat × Nat × Nat × Nat)}
    (hown : s.vm.findClass own = some m.cls) (hlink : (Cond.methodLink own index y).before args s = true) (hinst : (Cond.instanceMethod y).before args s = true) (hsel : (Cond.selects C y y).before args s = true)
    (hcode : (Cond.codeWith y bytes maxL ret hh).before args s = true) (hy : y.cls ≠ "java/lang/invoke/MethodHandle" ∧ y.cls ≠ "java/lang/invoke/VarHandle")
    {W9 : Nat} {Pre : Pt → Array Value → Prop} {Post : Pt → Array Value → Option Value → Pt → Prop} {PostX : Pt → Array Value → Addr → Pt → Prop} (hK : vx_Back l R p e below s args y 3 W9 Pre Post PostX)
    {b : Addr} {cellB : Cell} (hcell : T.heap[b]? = some cellB) (hobj : cellB.vm.isStatics = false) (hcls : s.vm.findClass C = some cellB.cls)
    {g : JFrame} (hg : g.method = m) (hsize : g.locals.size = c.maxLocals) {argsL rest : List Value} (hlen : ∀ sig, parseMethodDescriptor y.desc = some sig → argsL.length = sig.parameters.length)
    (hstack : g.stack = argsL.reverse ++ .ref b :: rest) (hW : 2 * g.monitorRoom + (rest.map fun v => v.category).sum ≤ W9) (hdg : decode c.code g.pc = .ok (.invokevirtual index, 3))
    (hpre : ∀ vm₁, s.WarmedH vm₁ → Pre ⟨T.setVm vm₁, locs, cells, slots⟩ (Value.ref b :: argsL).toArray) :
    (∃ (v : Option Value) (vm₁ : Vm) (B : Pt), s.WarmedH vm₁ ∧ Stand p l e R s m args below meth c B.U B.locs B.cells B.slots ∧ Post ⟨T.setVm vm₁, locs, cells, slots⟩ (Value.ref b :: argsL).toArray v B ∧
      ∀ target, Steps p.tables e below (B.U.setTop { g with pc := g.pc + 3, stack := v.toList ++ rest }) target → Steps p.tables e below (T.setTop g) target) ∨
    (∃ (q : Addr) (vm₁ : Vm) (B : Pt), s.WarmedH vm₁ ∧ Stand p l e R s m args below meth c B.U B.locs B.cells B.slots ∧ PostX ⟨T.setVm vm₁, locs, cells, slots⟩ (Value.ref b :: argsL).toArray q B ∧
      Steps p.tables e below (T.setTop g) ((B.U.setTop { g with stack := rest }).pushFrame (.throwing q))) := by
  obtain ⟨mk, methM, hnamed, hmethM, hstM, habM⟩ := Cond.instanceMethod_spec hinst
  obtain ⟨m8, methM', cM, hn8, hmethM', -, -, -, -, -, -, hsigM⟩ := Cond.codeWith_spec hcode
  cases Option.some.inj (hn8.symm.trans hnamed)
  cases hmethM.symm.trans hmethM'
  obtain ⟨c2, r2, m2, q1, q2, q3, q4, kP, hkP, hkPi⟩ := Cond.selects_spec hsel
  cases hcls.symm.trans q1
  cases (State.methodFound?_of_named hnamed hy).symm.trans q2
  cases hnamed.symm.trans q3
  have hselP : selectMethod e.platform s.vm cellB.cls mk = .method mk := by rw [Launch.admits_selectMethod X.admits]; exact q4
  obtain ⟨vm₁, X₁, hstep₁⟩ := X.invokevirtual hexec hown hlink hnamed hmethM hstM hkP hkPi hy (a := b) (cell := cellB) hcell
    (fun z h => by rw [h] at hobj; cases hobj) hselP hmethM habM hkP hkPi (g := g) hg (argsL := argsL) (rest := rest) (hlen _ hsigM) hstack hdg
  rcases hK m meth c ⟨T.setVm vm₁, locs, cells, slots⟩ { g with stack := rest } (.invokevirtual index) mk (Value.ref b :: argsL).toArray X₁ hg hsize hdg hW (X₁.named hnamed) (hpre vm₁ X₁.warmed) with ⟨v, B, X', hpost, hsteps⟩ | ⟨q, B, X', hpost, hsteps⟩
  · exact Or.inl ⟨v, vm₁, B, X₁.warmed, X', hpost, fun target h => hstep₁ _ fun acts => by rw [doInvoke_state]; exact hsteps.trans h⟩
  · exact Or.inr ⟨q, vm₁, B, X₁.warmed, X', hpost, hstep₁ _ fun acts => by rw [doInvoke_state]; exact hsteps⟩
theorem vx_callSX (X : Stand p l e R s m args below meth c T locs cells slots) (hexec : p.tables.exec = Jvm.exec) {own : String} {index : Nat} {y : MethodName} {bytes : ByteArray} {maxL : Nat} {ret : Option FieldType} {hh : List (Nat × Nat × Nat × Nat)}
    (hown : s.vm.findClass own = some m.cls) (hlink : (Cond.methodLink own index y).before args s = true) (hstat : (Cond.static y).before args s = true) (hinit : (Cond.initialized y.cls).before args s = true)
    (hcode : (Cond.codeWith y bytes maxL ret hh).before args s = true) (hy : y.cls ≠ "java/lang/invoke/MethodHandle" ∧ y.cls ≠ "java/lang/invoke/VarHandle")
    {W9 : Nat} {Pre : Pt → Array Value → Prop} {Post : Pt → Array Value → Option Value → Pt → Prop} {PostX : Pt → Array Value → Addr → Pt → Prop} (hK : vx_Back l R p e below s args y 3 W9 Pre Post PostX)
    {g : JFrame} (hg : g.method = m) (hsize : g.locals.size = c.maxLocals) {argsL rest : List Value} (hlen : ∀ sig, parseMethodDescriptor y.desc = some sig → argsL.length = sig.parameters.length)
    (hstack : g.stack = argsL.reverse ++ rest) (hW : 2 * g.monitorRoom + (rest.map fun v => v.category).sum ≤ W9) (hdg : decode c.code g.pc = .ok (.invokestatic index, 3))
    (hpre : ∀ vm₁, s.WarmedH vm₁ → Pre ⟨T.setVm vm₁, locs, cells, slots⟩ argsL.toArray) :
    (∃ (v : Option Value) (vm₁ : Vm) (B : Pt), s.WarmedH vm₁ ∧ Stand p l e R s m args below meth c B.U B.locs B.cells B.slots ∧ Post ⟨T.setVm vm₁, locs, cells, slots⟩ argsL.toArray v B ∧
      ∀ target, Steps p.tables e below (B.U.setTop { g with pc := g.pc + 3, stack := v.toList ++ rest }) target → Steps p.tables e below (T.setTop g) target) ∨
    (∃ (q : Addr) (vm₁ : Vm) (B : Pt), s.WarmedH vm₁ ∧ Stand p l e R s m args below meth c B.U B.locs B.cells B.slots ∧ PostX ⟨T.setVm vm₁, locs, cells, slots⟩ argsL.toArray q B ∧
      Steps p.tables e below (T.setTop g) ((B.U.setTop { g with stack := rest }).pushFrame (.throwing q))) := by
  obtain ⟨mk, methM, cM, hnamed, hmethM, -, -, -, -, -, -, hsigM⟩ := Cond.codeWith_spec hcode
  have hstatic : methM.isStatic = true := Cond.static_spec hnamed hmethM hstat
  obtain ⟨kP, hkP, -⟩ := className_of_methodNamed hnamed
  have hinitP : kP.init = .initialized := Cond.initialized_spec (findClass_of_methodNamed hnamed) hkP hinit
  obtain ⟨vm₁, X₁, hstep₁⟩ := X.invokestatic hexec hown hlink hnamed hmethM hstatic hkP hinitP hy (g := g) hg (argsL := argsL) (rest := rest) (hlen _ hsigM) hstack hdg
  rcases hK m meth c ⟨T.setVm vm₁, locs, cells, slots⟩ { g with stack := rest } (.invokestatic index) mk argsL.toArray X₁ hg hsize hdg hW (X₁.named hnamed) (hpre vm₁ X₁.warmed) with ⟨v, B, X', hpost, hsteps⟩ | ⟨q, B, X', hpost, hsteps⟩
  · exact Or.inl ⟨v, vm₁, B, X₁.warmed, X', hpost, fun target h => hstep₁ _ fun acts => by rw [doInvoke_state]; exact hsteps.trans h⟩
  · exact Or.inr ⟨q, vm₁, B, X₁.warmed, X', hpost, hstep₁ _ fun acts => by rw [doInvoke_state]; exact hsteps⟩
theorem vx_callVW (X : Stand p l e R s m args below meth c T locs cells slots) (hexec : p.tables.exec = Jvm.exec) {own C : String} {index : Nat} {y : MethodName} {bytes : ByteArray} {maxL : Nat} {ret : Option FieldType} {hh : List (Nat × Nat × Nat × Nat)}
    (hown : s.vm.findClass own = some m.cls) (hlink : (Cond.methodLink own index y).before args s = true) (hinst : (Cond.instanceMethod y).before args s = true) (hsel : (Cond.selects C y y).before args s = true)
    (hcode : (Cond.codeWith y bytes maxL ret hh).before args s = true) (hy : y.cls ≠ "java/lang/invoke/MethodHandle" ∧ y.cls ≠ "java/lang/invoke/VarHandle")
    {W9 : Nat} {Pre : Pt → Array Value → Prop} {Post : Pt → Array Value → Option Value → Pt → Prop} (hK : Back l R p e below s args y 3 W9 Pre Post)
    {b : Addr} {cellB : Cell} (hcell : T.heap[b]? = some cellB) (hobj : cellB.vm.isStatics = false) (hcls : s.vm.findClass C = some cellB.cls)
    {g : JFrame} (hg : g.method = m) (hsize : g.locals.size = c.maxLocals) {argsL rest : List Value} (hlen : ∀ sig, parseMethodDescriptor y.desc = some sig → argsL.length = sig.parameters.length)
    (hstack : g.stack = argsL.reverse ++ .ref b :: rest) (hW : 2 * g.monitorRoom + (rest.map fun v => v.category).sum ≤ W9) (hdg : decode c.code g.pc = .ok (.invokevirtual index, 3))
    (hpre : ∀ vm₁, s.WarmedH vm₁ → Pre ⟨T.setVm vm₁, locs, cells, slots⟩ (Value.ref b :: argsL).toArray) :
    ∃ (v : Option Value) (vm₁ : Vm) (B : Pt), s.WarmedH vm₁ ∧ Stand p l e R s m args below meth c B.U B.locs B.cells B.slots ∧ Post ⟨T.setVm vm₁, locs, cells, slots⟩ (Value.ref b :: argsL).toArray v B ∧
      ∀ target, Steps p.tables e below (B.U.setTop { g with pc := g.pc + 3, stack := v.toList ++ rest }) target → Steps p.tables e below (T.setTop g) target := by
  obtain ⟨mk, methM, hnamed, hmethM, hstM, habM⟩ := Cond.instanceMethod_spec hinst
  obtain ⟨m8, methM', cM, hn8, hmethM', -, -, -, -, -, -, hsigM⟩ := Cond.codeWith_spec hcode
  cases Option.some.inj (hn8.symm.trans hnamed)
  cases hmethM.symm.trans hmethM'
  obtain ⟨c2, r2, m2, q1, q2, q3, q4, kP, hkP, hkPi⟩ := Cond.selects_spec hsel
  cases hcls.symm.trans q1
  cases (State.methodFound?_of_named hnamed hy).symm.trans q2
  cases hnamed.symm.trans q3
  have hselP : selectMethod e.platform s.vm cellB.cls mk = .method mk := by rw [Launch.admits_selectMethod X.admits]; exact q4
  obtain ⟨vm₁, X₁, hstep₁⟩ := X.invokevirtual hexec hown hlink hnamed hmethM hstM hkP hkPi hy (a := b) (cell := cellB) hcell
    (fun z h => by rw [h] at hobj; cases hobj) hselP hmethM habM hkP hkPi (g := g) hg (argsL := argsL) (rest := rest) (hlen _ hsigM) hstack hdg
  obtain ⟨v, B, X', hpost, hsteps⟩ := hK m meth c ⟨T.setVm vm₁, locs, cells, slots⟩ { g with stack := rest } (.invokevirtual index) mk (Value.ref b :: argsL).toArray X₁ hg hsize hdg hW (X₁.named hnamed) (hpre vm₁ X₁.warmed)
  exact ⟨v, vm₁, B, X₁.warmed, X', hpost, fun target h => hstep₁ _ fun acts => by rw [doInvoke_state]; exact hsteps.trans h⟩
abbrev vx_CVW (R : Room) (s : State) (args : Array Value) (own C : String) (index : Nat) (y : MethodName) (bytes : ByteArray) (maxL : Nat) (ret : Option FieldType) (hh : List (Nat × Nat × Nat × Nat)) (ws : List Cond) (rm : Room) (mc ms n : Nat) : Prop :=
  (rm.cells = mc ∧ rm.slots = ms ∧ rm.frames + 1 ≤ R.frames ∧ 8 + (maxL + 11) + rm.locals ≤ R.locals ∧ (∀ w ∈ ws, ∀ (a' : Array Value) (U : State), s.WarmedH U.vm → w.before a' U = true) ∧ Cond.codeWith y bytes maxL ret hh ∈ ws) ∧
  (Cond.codeWith y bytes maxL ret hh).before args s = true ∧ (Cond.initialized y.cls).before args s = true ∧ (y.cls ≠ "java/lang/invoke/MethodHandle" ∧ y.cls ≠ "java/lang/invoke/VarHandle") ∧
  (∀ sig, parseMethodDescriptor y.desc = some sig → n = sig.parameters.length) ∧ (Cond.methodLink own index y).before args s = true ∧ (Cond.instanceMethod y).before args s = true ∧ (Cond.selects C y y).before args s = true
theorem vx_cwVW {own C : String} {index maxL mc ms : Nat} {y : MethodName} {bytes : ByteArray} {ret : Option FieldType} {hh : List (Nat × Nat × Nat × Nat)} {Ts ws ws' : List Cond} {rm : Room} (n : Nat) (ht : ∀ w ∈ Ts, w.before args s = true) (hT : GoodIn Ts (wsV own index C y ws)) (hw : ws = Cond.codeWith y bytes maxL ret hh :: ws') (hrc : rm.cells = mc) (hrs : rm.slots = ms)
    (hd : y.cls = C ∧ y.cls ≠ "java/lang/invoke/MethodHandle" ∧ y.cls ≠ "java/lang/invoke/VarHandle" ∧ (parseMethodDescriptor y.desc).map (fun d => d.parameters.length) = some n) (hR : rm.frames + 1 ≤ R.frames ∧ 8 + (maxL + 11) + rm.locals ≤ R.locals) :
    vx_CVW R s args own C index y bytes maxL ret hh ws rm mc ms n := by
  obtain ⟨hC, hd⟩ := hd
  subst hC
  have ok : ∀ w ∈ wsV own index y.cls y ws, w.before args s = true := fun w h => ht w (hT w h).1
  have hG : GoodIn Ts ws := fun w h => hT w (by unfold wsV; exact List.mem_append_right _ h)
  have hc : Cond.codeWith y bytes maxL ret hh ∈ ws := by rw [hw]; exact List.mem_cons_self
  refine ⟨⟨hrc, hrs, hR.1, hR.2, pay_in ht hG, hc⟩, ht _ (hG _ hc).1, ok _ (by simp [wsV]), ⟨hd.1, hd.2.1⟩, fun sig h => ?_, ok _ (by simp [wsV]), ok _ (by simp [wsV]), ok _ (by simp [wsV])⟩
  have h2 := hd.2.2
  rw [h] at h2
  exact (Option.some.inj h2).symm
theorem vx_runVW {y : MethodName} {bytes cc : ByteArray} {maxL nL mc ms n index : Nat} {ret : Option FieldType} {hh : List (Nat × Nat × Nat × Nat)} {ws : List Cond} {rm : Room} {Pc : Array Value → State → Prop} {Qc : Array Value → State → Outcome → State → Prop} {free : Addr → Prop} {Ts : List Cond} {own C : String} {b : Addr} {As rest : List Value} {g : JFrame}
    (S : CallFix p m c cc nL s args Ts own) (hM : Met l y ws rm Pc Qc mc ms free) (cw : vx_CVW R s args own C index y bytes maxL ret hh ws rm mc ms n) (hp : PreV s H C b Pc As)
    (hg : g.method = m) (hn : As.length = n) (hsize : g.locals.size = nL) (hstack : g.stack = As.reverse ++ .ref b :: rest) (hW : 2 * g.monitorRoom + (rest.map fun v => v.category).sum ≤ 8) (hdg : decode cc g.pc = .ok (.invokevirtual index, 3)) (hf : cells + mc ≤ R.cells ∧ slots + ms ≤ R.slots) :
    va_Run p l e R s m args below meth c H locs cells slots mc ms g rest (Qc (Value.ref b :: As).toArray) free := by
  obtain ⟨⟨hrc, hrs, hfr, hlo, hws, hcw⟩, hcode, hini, hy, hlen, hl, hin, hse⟩ := cw
  have hK : Back l R p e below s args y 3 8 (PreOf R mc ms Pc) (PostOf Qc mc ms free) := va_backW (hh := hh) (bytes := bytes) (maxL := maxL) (ret := ret) hM hp.1 hrc hrs hfr hlo hws hcw (fun a' U hW => word_at hW (Or.inl (by first | rfl | simp [Cond.onTables, Cond.keeps, Cond.steady])) hini)
  obtain ⟨hx, hb, hml, ho, -⟩ := S
  obtain ⟨-, ⟨cellB, hcB, hoB, hclB⟩, hPc⟩ := hp
  intro T hT X
  obtain ⟨v, vm₁, ⟨U', l2, c2, s2⟩, hW₁, X', ⟨g', mk, t, L, e1, e2, hq, h1, hL, h2, h3⟩, st⟩ := vx_callVW X hx (C := C) (hh := hh) (bytes := bytes) (maxL := maxL) (ret := ret) ho hl hin hse hcode hy hK (by rw [hT]; exact hcB) hoB hclB hg (hsize.trans hml.symm) (argsL := As) (rest := rest) (fun sig h => hn.trans (hlen sig h)) hstack hW (by rw [hb]; exact hdg)
    (fun vm₁ hW₁ => ⟨hf.1, hf.2, hPc (T.setVm vm₁) hT hW₁⟩)
  dsimp only [Pt.U, Pt.locs, Pt.cells, Pt.slots] at X' e1 e2 h1 h2 h3 st
  subst h1; subst h2; subst h3
  exact ⟨v, (T.setVm vm₁).calling g' mk (Value.ref b :: As).toArray, t, U', L, hT, X', hL, e1, e2, hq, st⟩
section
variable {y : MethodName} {bytes cc : ByteArray} {maxL nL mc ms n index : Nat} {ret : Option FieldType} {ws : List Cond} {rm : Room} {Pc : Array Value → State → Prop} {Qc : Array Value → State → Outcome → State → Prop} {XC : String → State → State → Prop} {free : Addr → Prop} {Ts : List Cond} {own C : String} {b : Addr} {As rest : List Value} {g : JFrame}
theorem vx_runVX {hh : List (Nat × Nat × Nat × Nat)} (S : CallFix p m c cc nL s args Ts own) (hM : vx_Met l y ws rm Pc Qc XC mc ms free) (cw : vx_CVW R s args own C index y bytes maxL ret hh ws rm mc ms n) (hp : PreV s H C b Pc As)
    (hg : g.method = m) (hn : As.length = n) (hsize : g.locals.size = nL) (hstack : g.stack = As.reverse ++ .ref b :: rest) (hW : 2 * g.monitorRoom + (rest.map fun v => v.category).sum ≤ 8) (hdg : decode cc g.pc = .ok (.invokevirtual index, 3)) (hf : cells + mc ≤ R.cells ∧ slots + ms ≤ R.slots) :
    vx_Run p l e R s m args below meth c H locs cells slots mc ms g rest (Qc (Value.ref b :: As).toArray) XC free := by
  obtain ⟨⟨hrc, hrs, hfr, hlo, hws, hcw⟩, hcode, hini, hy, hlen, hl, hin, hse⟩ := cw
  have hK : vx_Back l R p e below s args y 3 8 (PreOf R mc ms Pc) (PostOf Qc mc ms free) (vx_Post XC mc ms free) := vx_backW (hh := hh) (bytes := bytes) (maxL := maxL) (ret := ret) hM hp.1 hrc hrs hfr hlo hws hcw (fun a' U hW => word_at hW (Or.inl (by first | rfl | simp [Cond.onTables, Cond.keeps, Cond.steady])) hini)
  obtain ⟨hx, hb, hml, ho, -⟩ := S
  obtain ⟨-, ⟨cellB, hcB, hoB, hclB⟩, hPc⟩ := hp
  intro T hT X
  rcases vx_callVX X hx (C := C) (hh := hh) (bytes := bytes) (maxL := maxL) (ret := ret) ho hl hin hse hcode hy hK (by rw [hT]; exact hcB) hoB hclB hg (hsize.trans hml.symm) (argsL := As) (rest := rest) (fun sig h => hn.trans (hlen sig h)) hstack hW (by rw [hb]; exact hdg)
    (fun vm₁ hW₁ => ⟨hf.1, hf.2, hPc (T.setVm vm₁) hT hW₁⟩) with ⟨v, vm₁, ⟨U', l2, c2, s2⟩, hW₁, X', ⟨g', mk, t, L, e1, e2, hq, h1, hL, h2, h3⟩, st⟩ | ⟨q, vm₁, ⟨U', l2, c2, s2⟩, hW₁, X', ⟨g', mk, t, L, E, ce, e1, e2, hq, hce, hcv, hcl, h1, hL, h2, h3⟩, st⟩
  · dsimp only [Pt.U, Pt.locs, Pt.cells, Pt.slots] at X' e1 e2 h1 h2 h3 st
    subst h1; subst h2; subst h3
    exact Or.inl ⟨v, (T.setVm vm₁).calling g' mk (Value.ref b :: As).toArray, t, U', L, hT, X', hL, e1, e2, hq, st⟩
  · dsimp only [Pt.U, Pt.locs, Pt.cells, Pt.slots] at X' e1 e2 h1 h2 h3 st hcl
    subst h1; subst h2; subst h3
    exact Or.inr ⟨q, (T.setVm vm₁).calling g' mk (Value.ref b :: As).toArray, t, U', L, E, ce, hT, X', hL, e1, e2, hq, hce, hcv, vx_cls hW₁ hcl, st⟩
theorem vx_runSX {hh : List (Nat × Nat × Nat × Nat)} (S : CallFix p m c cc nL s args Ts own) (hM : vx_Met l y ws rm Pc Qc XC mc ms free) (cw : vx_CSW R s args own index y bytes maxL ret hh ws rm mc ms n) (hp : PreS s H Pc As)
    (hg : g.method = m) (hn : As.length = n) (hsize : g.locals.size = nL) (hstack : g.stack = As.reverse ++ rest) (hW : 2 * g.monitorRoom + (rest.map fun v => v.category).sum ≤ 8) (hdg : decode cc g.pc = .ok (.invokestatic index, 3)) (hf : cells + mc ≤ R.cells ∧ slots + ms ≤ R.slots) :
    vx_Run p l e R s m args below meth c H locs cells slots mc ms g rest (Qc As.toArray) XC free := by
  obtain ⟨⟨hrc, hrs, hfr, hlo, hws, hcw⟩, hcode, hini, hy, hlen, hl, hstt⟩ := cw
  have hK : vx_Back l R p e below s args y 3 8 (PreOf R mc ms Pc) (PostOf Qc mc ms free) (vx_Post XC mc ms free) := vx_backW (hh := hh) (bytes := bytes) (maxL := maxL) (ret := ret) hM hp.1 hrc hrs hfr hlo hws hcw (fun a' U hW => word_at hW (Or.inl (by first | rfl | simp [Cond.onTables, Cond.keeps, Cond.steady])) hini)
  obtain ⟨hx, hb, hml, ho, -⟩ := S
  intro T hT X
  rcases vx_callSX X hx (hh := hh) (bytes := bytes) (maxL := maxL) (ret := ret) ho hl hstt hini hcode hy hK hg (hsize.trans hml.symm) (argsL := As) (rest := rest) (fun sig h => hn.trans (hlen sig h)) hstack hW (by rw [hb]; exact hdg)
    (fun vm₁ hW₁ => ⟨hf.1, hf.2, hp.2 (T.setVm vm₁) hT hW₁⟩) with ⟨v, vm₁, ⟨U', l2, c2, s2⟩, hW₁, X', ⟨g', mk, t, L, e1, e2, hq, h1, hL, h2, h3⟩, st⟩ | ⟨q, vm₁, ⟨U', l2, c2, s2⟩, hW₁, X', ⟨g', mk, t, L, E, ce, e1, e2, hq, hce, hcv, hcl, h1, hL, h2, h3⟩, st⟩
  · dsimp only [Pt.U, Pt.locs, Pt.cells, Pt.slots] at X' e1 e2 h1 h2 h3 st
    subst h1; subst h2; subst h3
    exact Or.inl ⟨v, (T.setVm vm₁).calling g' mk As.toArray, t, U', L, hT, X', hL, e1, e2, hq, st⟩
  · dsimp only [Pt.U, Pt.locs, Pt.cells, Pt.slots] at X' e1 e2 h1 h2 h3 st hcl
    subst h1; subst h2; subst h3
    exact Or.inr ⟨q, (T.setVm vm₁).calling g' mk As.toArray, t, U', L, E, ce, hT, X', hL, e1, e2, hq, hce, hcv, vx_cls hW₁ hcl, st⟩
end
end VXH
theorem vx_ofWH {l : Launch} {y : MethodName} {ws ws' : List Cond} {rm : Room} {Pc : Array Value → State → Prop} {Qc : Array Value → State → Outcome → State → Prop} {XC : String → State → State → Prop} {mc ms : Nat} {free : Addr → Prop} {cc : ByteArray} {maxL : Nat} {ret : Option FieldType} {hh : List (Nat × Nat × Nat × Nat)}
    (hy : plainName y.cls = true) (hw : ws = Cond.codeWith y cc maxL ret hh :: ws')
    (body : ∀ p e s m args below meth c s₁, BodyLoose p l y (headSpec ws rm) cc maxL ret e s m args below meth c s₁ → c.maxLocals = maxL → Pc args s →
      W p l e (headSpec ws rm).room s m args below meth c s.heap [] 0 0 (vx_MQ below Qc XC args s mc ms free) (entryFrame m args maxL)) : vx_Met l y ws rm Pc Qc XC mc ms free := by
  refine MetFree.of_bodyS (code := cc) (maxLocals := maxL) (ret := ret) hy ?_ ?_
  · intro args s m h hn
    obtain ⟨m9, meth, c, hn9, h1, h2, h3, h4, -, h5, h6, -⟩ := Cond.codeWith_spec (atoms_spec (ws := ws) h _ (by rw [hw]; exact List.mem_cons_self))
    cases hn.symm.trans hn9
    exact ⟨meth, c, h1, h2, h3, h4, h5, h6⟩
  · intro p e s m args below meth c s₁ B hml hP _
    have hh0 : s₁.heap = s.heap := by rw [B.state]; rfl
    obtain ⟨t, a1, o, b1, b2, b3⟩ := body p e s m args below meth c s₁ B hml hP s₁ hh0 (Stand.of_body B)
    exact ⟨t, o, a1, b1, b2, b3⟩
/-! ===== END ===== -/
end
section
def RX0 : String := "SignRoots$Division"
def TX0 : u_T := fun k => match k with
  | 0 => ("SignRoots$Division", "dividend", "[I", true)
  | 1 => ("SignRoots$Division", "quotient", "[I", true)
  | 2 => ("SignRoots$Division", "bestRow", "[I", true)
  | 3 => ("SignRoots$Division", "root", "I", false)
  | 4 => ("SignRoots$Division", "highest", "I", false)
  | _ => ("SignRoots$Division", "place", "I", false)
def tyX0 : Nat → FieldType := fun k => match k with
  | 0 => .array .int
  | 1 => .array .int
  | 2 => .array .int
  | 3 => .int
  | 4 => .int
  | _ => .int
abbrev wsX00 : List Cond := u_ws RX0 TX0 6
theorem nmX0 : ∀ a, a < 6 → ∀ b, b < 6 → a ≠ b → (TX0 a).2.1 ≠ (TX0 b).2.1 := by decide +kernel
theorem tyX0_ok : ∀ k, k < 6 → parseFieldDescriptor (TX0 k).2.2.1 = some (tyX0 k) := by decide +kernel
abbrev cX0_init : ByteArray := prog_2_method_1_code
def yX0_init : MethodName := ⟨RX0, "<init>", "()V"⟩
abbrev cX0_start : ByteArray := prog_2_method_2_code
def yX0_start : MethodName := ⟨RX0, "start", "([II)V"⟩
abbrev cX0_advance : ByteArray := prog_2_method_3_code
def yX0_advance : MethodName := ⟨RX0, "advance", "()Z"⟩
abbrev cX0_rememberBest : ByteArray := prog_2_method_4_code
def yX0_rememberBest : MethodName := ⟨RX0, "rememberBest", "()V"⟩
abbrev cX0_fits : ByteArray := prog_2_method_5_code
def yX0_fits : MethodName := ⟨RX0, "fits", "(I)Z"⟩
def RX1 : String := "SignRoots$State"
def TX1 : u_T := fun k => match k with
  | 0 => ("SignRoots$State", "signs", "[[I", true)
  | 1 => ("SignRoots$State", "roots", "[I", true)
  | 2 => ("SignRoots$State", "rootCount", "I", false)
  | 3 => ("SignRoots$State", "taken", "I", false)
  | _ => ("SignRoots$State", "refused", "I", false)
def tyX1 : Nat → FieldType := fun k => match k with
  | 0 => .array (.array .int)
  | 1 => .array .int
  | 2 => .int
  | 3 => .int
  | _ => .int
abbrev wsX10 : List Cond := u_ws RX1 TX1 5
theorem nmX1 : ∀ a, a < 5 → ∀ b, b < 5 → a ≠ b → (TX1 a).2.1 ≠ (TX1 b).2.1 := by decide +kernel
theorem tyX1_ok : ∀ k, k < 5 → parseFieldDescriptor (TX1 k).2.2.1 = some (tyX1 k) := by decide +kernel
abbrev cX1_init : ByteArray := prog_3_method_1_code
def yX1_init : MethodName := ⟨RX1, "<init>", "()V"⟩
abbrev cX1_takeOver : ByteArray := prog_3_method_2_code
def yX1_takeOver : MethodName := ⟨RX1, "takeOver", "(LSignRoots$State;)V"⟩
def RX2 : String := "SignRoots"
def TX2 : u_T := fun k => match k with
  | 0 => ("SignRoots", "now", "LSignRoots$State;", true)
  | 1 => ("SignRoots", "saved", "[LSignRoots$State;", true)
  | 2 => ("SignRoots", "savedStates", "I", false)
  | 3 => ("SignRoots", "slots", "[LSignRoots$State;", true)
  | 4 => ("SignRoots", "kept", "[Z", true)
  | 5 => ("SignRoots", "buffer", "[I", true)
  | 6 => ("SignRoots", "bufferLength", "I", false)
  | 7 => ("SignRoots", "whole", "[J", true)
  | _ => ("SignRoots", "divisions", "[LSignRoots$Division;", true)
def tyX2 : Nat → FieldType := fun k => match k with
  | 0 => .object "SignRoots$State"
  | 1 => .array (.object "SignRoots$State")
  | 2 => .int
  | 3 => .array (.object "SignRoots$State")
  | 4 => .array .boolean
  | 5 => .array .int
  | 6 => .int
  | 7 => .array .long
  | _ => .array (.object "SignRoots$Division")
abbrev wsX20 : List Cond := u_ws RX2 TX2 9
theorem nmX2 : ∀ a, a < 9 → ∀ b, b < 9 → a ≠ b → (TX2 a).2.1 ≠ (TX2 b).2.1 := by decide +kernel
theorem tyX2_ok : ∀ k, k < 9 → parseFieldDescriptor (TX2 k).2.2.1 = some (tyX2 k) := by decide +kernel
abbrev cX2_init : ByteArray := prog_1_method_1_code
def yX2_init : MethodName := ⟨RX2, "<init>", "()V"⟩
abbrev cX2_put : ByteArray := prog_1_method_2_code
def yX2_put : MethodName := ⟨RX2, "put", "(III)I"⟩
abbrev cX2_copy : ByteArray := prog_1_method_3_code
def yX2_copy : MethodName := ⟨RX2, "copy", "(II)I"⟩
abbrev cX2_divide : ByteArray := prog_1_method_4_code
def yX2_divide : MethodName := ⟨RX2, "divide", "(II)I"⟩
abbrev cX2_root : ByteArray := prog_1_method_5_code
def yX2_root : MethodName := ⟨RX2, "root", "(I)I"⟩
abbrev cX2_unroot : ByteArray := prog_1_method_6_code
def yX2_unroot : MethodName := ⟨RX2, "unroot", "()I"⟩
abbrev cX2_lower : ByteArray := prog_1_method_7_code
def yX2_lower : MethodName := ⟨RX2, "lower", "(I)I"⟩
abbrev cX2_append : ByteArray := prog_1_method_8_code
def yX2_append : MethodName := ⟨RX2, "append", "(I)I"⟩
abbrev cX2_clearBuffer : ByteArray := prog_1_method_9_code
def yX2_clearBuffer : MethodName := ⟨RX2, "clearBuffer", "()I"⟩
abbrev cX2_firstError : ByteArray := prog_1_method_10_code
def yX2_firstError : MethodName := ⟨RX2, "firstError", "()I"⟩
abbrev cX2_load : ByteArray := prog_1_method_11_code
def yX2_load : MethodName := ⟨RX2, "load", "(I)I"⟩
abbrev cX2_keep : ByteArray := prog_1_method_12_code
def yX2_keep : MethodName := ⟨RX2, "keep", "(I)I"⟩
abbrev cX2_goBack : ByteArray := prog_1_method_13_code
def yX2_goBack : MethodName := ⟨RX2, "goBack", "(I)I"⟩
abbrev cX2_undo : ByteArray := prog_1_method_14_code
def yX2_undo : MethodName := ⟨RX2, "undo", "()I"⟩
abbrev cX2_sign : ByteArray := prog_1_method_15_code
def yX2_sign : MethodName := ⟨RX2, "sign", "(II)I"⟩
abbrev cX2_of : ByteArray := prog_1_method_16_code
def yX2_of : MethodName := ⟨RX2, "of", "(II)I"⟩
abbrev cX2_isRoot : ByteArray := prog_1_method_17_code
def yX2_isRoot : MethodName := ⟨RX2, "isRoot", "(II)I"⟩
abbrev cX2_times : ByteArray := prog_1_method_18_code
def yX2_times : MethodName := ⟨RX2, "times", "(III)I"⟩
abbrev cX2_quotients : ByteArray := prog_1_method_19_code
def yX2_quotients : MethodName := ⟨RX2, "quotients", "(II)I"⟩
abbrev cX2_best : ByteArray := prog_1_method_20_code
def yX2_best : MethodName := ⟨RX2, "best", "(II)I"⟩
abbrev cX2_many : ByteArray := prog_1_method_21_code
def yX2_many : MethodName := ⟨RX2, "many", "(III)I"⟩
abbrev cX2_isIn : ByteArray := prog_1_method_22_code
def yX2_isIn : MethodName := ⟨RX2, "isIn", "(IIII)I"⟩
abbrev cX2_coefficient : ByteArray := prog_1_method_23_code
def yX2_coefficient : MethodName := ⟨RX2, "coefficient", "(I)J"⟩
abbrev cX2_count : ByteArray := prog_1_method_24_code
def yX2_count : MethodName := ⟨RX2, "count", "(I)I"⟩
abbrev cX2_takenShare : ByteArray := prog_1_method_25_code
def yX2_takenShare : MethodName := ⟨RX2, "takenShare", "(I)D"⟩
abbrev cX2_digest : ByteArray := prog_1_method_26_code
def yX2_digest : MethodName := ⟨RX2, "digest", "()J"⟩
abbrev cX2_checkNumber : ByteArray := prog_1_method_27_code
def yX2_checkNumber : MethodName := ⟨RX2, "checkNumber", "(I)V"⟩
abbrev cX2_checkPower : ByteArray := prog_1_method_28_code
def yX2_checkPower : MethodName := ⟨RX2, "checkPower", "(I)V"⟩
abbrev cX2_checkSign : ByteArray := prog_1_method_29_code
def yX2_checkSign : MethodName := ⟨RX2, "checkSign", "(I)V"⟩
abbrev cX2_checkSlot : ByteArray := prog_1_method_30_code
def yX2_checkSlot : MethodName := ⟨RX2, "checkSlot", "(I)V"⟩
abbrev cX2_checkWhat : ByteArray := prog_1_method_31_code
def yX2_checkWhat : MethodName := ⟨RX2, "checkWhat", "(II)V"⟩
abbrev cX2_save : ByteArray := prog_1_method_32_code
def yX2_save : MethodName := ⟨RX2, "save", "()V"⟩
abbrev cX2_dropOldest : ByteArray := prog_1_method_33_code
def yX2_dropOldest : MethodName := ⟨RX2, "dropOldest", "()V"⟩
abbrev cX2_signOf : ByteArray := prog_1_method_34_code
def yX2_signOf : MethodName := ⟨RX2, "signOf", "(J)I"⟩
abbrev cX2_markOf : ByteArray := prog_1_method_35_code
def yX2_markOf : MethodName := ⟨RX2, "markOf", "(I)I"⟩
abbrev cX2_holds : ByteArray := prog_1_method_36_code
def yX2_holds : MethodName := ⟨RX2, "holds", "(II)Z"⟩
abbrev cX2_sumMarks : ByteArray := prog_1_method_37_code
def yX2_sumMarks : MethodName := ⟨RX2, "sumMarks", "([I[II)I"⟩
abbrev cX2_productMarks : ByteArray := prog_1_method_38_code
def yX2_productMarks : MethodName := ⟨RX2, "productMarks", "([I[II)I"⟩
abbrev cX2_marksAt : ByteArray := prog_1_method_39_code
def yX2_marksAt : MethodName := ⟨RX2, "marksAt", "([I[III)I"⟩
abbrev cX2_isTooHigh : ByteArray := prog_1_method_40_code
def yX2_isTooHigh : MethodName := ⟨RX2, "isTooHigh", "([I[II)Z"⟩
abbrev cX2_rowsOf : ByteArray := prog_1_method_41_code
def yX2_rowsOf : MethodName := ⟨RX2, "rowsOf", "([I[II)I"⟩
abbrev cX2_isAmong : ByteArray := prog_1_method_42_code
def yX2_isAmong : MethodName := ⟨RX2, "isAmong", "([I[I[II)Z"⟩
abbrev cX2_degreeOf : ByteArray := prog_1_method_43_code
def yX2_degreeOf : MethodName := ⟨RX2, "degreeOf", "([I)I"⟩
abbrev cX2_notZero : ByteArray := prog_1_method_44_code
def yX2_notZero : MethodName := ⟨RX2, "notZero", "([I)I"⟩
abbrev cX2_isAloneNotZero : ByteArray := prog_1_method_45_code
def yX2_isAloneNotZero : MethodName := ⟨RX2, "isAloneNotZero", "([II)Z"⟩
abbrev cX2_formOf : ByteArray := prog_1_method_46_code
def yX2_formOf : MethodName := ⟨RX2, "formOf", "([I)I"⟩
abbrev cX2_powerOf : ByteArray := prog_1_method_47_code
def yX2_powerOf : MethodName := ⟨RX2, "powerOf", "(II)I"⟩
abbrev cX2_hasRoot : ByteArray := prog_1_method_48_code
def yX2_hasRoot : MethodName := ⟨RX2, "hasRoot", "([II)Z"⟩
abbrev cX2_changesOf : ByteArray := prog_1_method_49_code
def yX2_changesOf : MethodName := ⟨RX2, "changesOf", "([II)I"⟩
abbrev cX2_zerosBelow : ByteArray := prog_1_method_50_code
def yX2_zerosBelow : MethodName := ⟨RX2, "zerosBelow", "([I)I"⟩
abbrev cX2_countedTimes : ByteArray := prog_1_method_51_code
def yX2_countedTimes : MethodName := ⟨RX2, "countedTimes", "([II)I"⟩
abbrev cX2_shareOf : ByteArray := prog_1_method_52_code
def yX2_shareOf : MethodName := ⟨RX2, "shareOf", "([I)D"⟩
abbrev cX2_quotientsOf : ByteArray := prog_1_method_53_code
def yX2_quotientsOf : MethodName := ⟨RX2, "quotientsOf", "([II)I"⟩
abbrev cX2_bestForm : ByteArray := prog_1_method_54_code
def yX2_bestForm : MethodName := ⟨RX2, "bestForm", "(I)I"⟩
abbrev cX2_tryQuotients : ByteArray := prog_1_method_55_code
def yX2_tryQuotients : MethodName := ⟨RX2, "tryQuotients", "([II[LSignRoots$Division;I)I"⟩
abbrev cX2_expandWhole : ByteArray := prog_1_method_56_code
def yX2_expandWhole : MethodName := ⟨RX2, "expandWhole", "()V"⟩
abbrev cX2_rootsOfSign : ByteArray := prog_1_method_57_code
def yX2_rootsOfSign : MethodName := ⟨RX2, "rootsOfSign", "(I)I"⟩
abbrev cX2_errorPlace : ByteArray := prog_1_method_58_code
def yX2_errorPlace : MethodName := ⟨RX2, "errorPlace", "()I"⟩
abbrev cX2_isSignCode : ByteArray := prog_1_method_59_code
def yX2_isSignCode : MethodName := ⟨RX2, "isSignCode", "(I)Z"⟩
abbrev cX2_signOfCode : ByteArray := prog_1_method_60_code
def yX2_signOfCode : MethodName := ⟨RX2, "signOfCode", "(I)I"⟩
abbrev cX2_degreesTogether : ByteArray := prog_1_method_61_code
def yX2_degreesTogether : MethodName := ⟨RX2, "degreesTogether", "()I"⟩
abbrev cX2_withRootOne : ByteArray := prog_1_method_62_code
def yX2_withRootOne : MethodName := ⟨RX2, "withRootOne", "()I"⟩
abbrev cX2_mixed : ByteArray := prog_1_method_63_code
def yX2_mixed : MethodName := ⟨RX2, "mixed", "(JJ)J"⟩
abbrev cX2_mixedPolynomial : ByteArray := prog_1_method_64_code
def yX2_mixedPolynomial : MethodName := ⟨RX2, "mixedPolynomial", "(J[I)J"⟩
abbrev cX2_mixedPairs : ByteArray := prog_1_method_65_code
def yX2_mixedPairs : MethodName := ⟨RX2, "mixedPairs", "(J)J"⟩
abbrev cX2_mixedWhole : ByteArray := prog_1_method_66_code
def yX2_mixedWhole : MethodName := ⟨RX2, "mixedWhole", "(J)J"⟩
abbrev cX2_mixedTexts : ByteArray := prog_1_method_67_code
def yX2_mixedTexts : MethodName := ⟨RX2, "mixedTexts", "(J)J"⟩
abbrev cX2_bitsOf : ByteArray := prog_1_method_68_code
def yX2_bitsOf : MethodName := ⟨RX2, "bitsOf", "(D)J"⟩
def RX3 : String := "SignRootsModel"
def TX3 : u_T := fun k => match k with
  | 0 => ("SignRootsModel", "thrown", "I", false)
  | 1 => ("SignRootsModel", "s", "[I", true)
  | 2 => ("SignRootsModel", "saved", "[I", true)
  | 3 => ("SignRootsModel", "savedMany", "I", false)
  | 4 => ("SignRootsModel", "slots", "[I", true)
  | 5 => ("SignRootsModel", "hasSlot", "[Z", true)
  | 6 => ("SignRootsModel", "buffer", "[I", true)
  | 7 => ("SignRootsModel", "length", "I", false)
  | 8 => ("SignRootsModel", "quotient", "[I", true)
  | 9 => ("SignRootsModel", "best", "[I", true)
  | 10 => ("SignRootsModel", "bestTimes", "I", false)
  | 11 => ("SignRootsModel", "whole", "[J", true)
  | _ => ("SignRootsModel", "hash", "J", false)
def tyX3 : Nat → FieldType := fun k => match k with
  | 0 => .int
  | 1 => .array .int
  | 2 => .array .int
  | 3 => .int
  | 4 => .array .int
  | 5 => .array .boolean
  | 6 => .array .int
  | 7 => .int
  | 8 => .array .int
  | 9 => .array .int
  | 10 => .int
  | 11 => .array .long
  | _ => .long
abbrev wsX30 : List Cond := u_ws RX3 TX3 13
theorem nmX3 : ∀ a, a < 13 → ∀ b, b < 13 → a ≠ b → (TX3 a).2.1 ≠ (TX3 b).2.1 := by decide +kernel
theorem tyX3_ok : ∀ k, k < 13 → parseFieldDescriptor (TX3 k).2.2.1 = some (tyX3 k) := by decide +kernel
abbrev cX3_init : ByteArray := prog_5_method_1_code
def yX3_init : MethodName := ⟨RX3, "<init>", "()V"⟩
abbrev cX3_thrown : ByteArray := prog_5_method_2_code
def yX3_thrown : MethodName := ⟨RX3, "thrown", "()I"⟩
abbrev cX3_in : ByteArray := prog_5_method_3_code
def yX3_in : MethodName := ⟨RX3, "in", "(III)Z"⟩
abbrev cX3_fails : ByteArray := prog_5_method_4_code
def yX3_fails : MethodName := ⟨RX3, "fails", "(I)I"⟩
abbrev cX3_isPoly : ByteArray := prog_5_method_5_code
def yX3_isPoly : MethodName := ⟨RX3, "isPoly", "(I)Z"⟩
abbrev cX3_isSign : ByteArray := prog_5_method_6_code
def yX3_isSign : MethodName := ⟨RX3, "isSign", "(I)Z"⟩
abbrev cX3_signAt : ByteArray := prog_5_method_7_code
def yX3_signAt : MethodName := ⟨RX3, "signAt", "(II)I"⟩
abbrev cX3_degree : ByteArray := prog_5_method_8_code
def yX3_degree : MethodName := ⟨RX3, "degree", "(I)I"⟩
abbrev cX3_saves : ByteArray := prog_5_method_9_code
def yX3_saves : MethodName := ⟨RX3, "saves", "()V"⟩
abbrev cX3_refuses : ByteArray := prog_5_method_10_code
def yX3_refuses : MethodName := ⟨RX3, "refuses", "(I)I"⟩
abbrev cX3_isInSum : ByteArray := prog_5_method_11_code
def yX3_isInSum : MethodName := ⟨RX3, "isInSum", "(III)Z"⟩
abbrev cX3_changes : ByteArray := prog_5_method_12_code
def yX3_changes : MethodName := ⟨RX3, "changes", "([III)I"⟩
abbrev cX3_often : ByteArray := prog_5_method_13_code
def yX3_often : MethodName := ⟨RX3, "often", "(II)I"⟩
abbrev cX3_laysRow : ByteArray := prog_5_method_14_code
def yX3_laysRow : MethodName := ⟨RX3, "laysRow", "(II)V"⟩
abbrev cX3_isQuotient : ByteArray := prog_5_method_15_code
def yX3_isQuotient : MethodName := ⟨RX3, "isQuotient", "(III)Z"⟩
abbrev cX3_divides : ByteArray := prog_5_method_16_code
def yX3_divides : MethodName := ⟨RX3, "divides", "(II)I"⟩
abbrev cX3_notes : ByteArray := prog_5_method_17_code
def yX3_notes : MethodName := ⟨RX3, "notes", "(II)V"⟩
abbrev cX3_form : ByteArray := prog_5_method_18_code
def yX3_form : MethodName := ⟨RX3, "form", "([I)I"⟩
abbrev cX3_put : ByteArray := prog_5_method_19_code
def yX3_put : MethodName := ⟨RX3, "put", "(III)I"⟩
abbrev cX3_copy : ByteArray := prog_5_method_20_code
def yX3_copy : MethodName := ⟨RX3, "copy", "(II)I"⟩
abbrev cX3_divide : ByteArray := prog_5_method_21_code
def yX3_divide : MethodName := ⟨RX3, "divide", "(II)I"⟩
abbrev cX3_root : ByteArray := prog_5_method_22_code
def yX3_root : MethodName := ⟨RX3, "root", "(I)I"⟩
abbrev cX3_unroot : ByteArray := prog_5_method_23_code
def yX3_unroot : MethodName := ⟨RX3, "unroot", "()I"⟩
abbrev cX3_multiplies : ByteArray := prog_5_method_24_code
def yX3_multiplies : MethodName := ⟨RX3, "multiplies", "()V"⟩
abbrev cX3_lower : ByteArray := prog_5_method_25_code
def yX3_lower : MethodName := ⟨RX3, "lower", "(I)I"⟩
abbrev cX3_append : ByteArray := prog_5_method_26_code
def yX3_append : MethodName := ⟨RX3, "append", "(I)I"⟩
abbrev cX3_clearBuffer : ByteArray := prog_5_method_27_code
def yX3_clearBuffer : MethodName := ⟨RX3, "clearBuffer", "()I"⟩
abbrev cX3_error : ByteArray := prog_5_method_28_code
def yX3_error : MethodName := ⟨RX3, "error", "()I"⟩
abbrev cX3_firstError : ByteArray := prog_5_method_29_code
def yX3_firstError : MethodName := ⟨RX3, "firstError", "()I"⟩
abbrev cX3_load : ByteArray := prog_5_method_30_code
def yX3_load : MethodName := ⟨RX3, "load", "(I)I"⟩
abbrev cX3_degrees : ByteArray := prog_5_method_31_code
def yX3_degrees : MethodName := ⟨RX3, "degrees", "()I"⟩
abbrev cX3_keep : ByteArray := prog_5_method_32_code
def yX3_keep : MethodName := ⟨RX3, "keep", "(I)I"⟩
abbrev cX3_goBack : ByteArray := prog_5_method_33_code
def yX3_goBack : MethodName := ⟨RX3, "goBack", "(I)I"⟩
abbrev cX3_undo : ByteArray := prog_5_method_34_code
def yX3_undo : MethodName := ⟨RX3, "undo", "()I"⟩
abbrev cX3_sign : ByteArray := prog_5_method_35_code
def yX3_sign : MethodName := ⟨RX3, "sign", "(II)I"⟩
abbrev cX3_tells : ByteArray := prog_5_method_36_code
def yX3_tells : MethodName := ⟨RX3, "tells", "(II)I"⟩
abbrev cX3_of : ByteArray := prog_5_method_37_code
def yX3_of : MethodName := ⟨RX3, "of", "(II)I"⟩
abbrev cX3_has : ByteArray := prog_5_method_38_code
def yX3_has : MethodName := ⟨RX3, "has", "(II)Z"⟩
abbrev cX3_isRoot : ByteArray := prog_5_method_39_code
def yX3_isRoot : MethodName := ⟨RX3, "isRoot", "(II)I"⟩
abbrev cX3_times : ByteArray := prog_5_method_40_code
def yX3_times : MethodName := ⟨RX3, "times", "(III)I"⟩
abbrev cX3_quotients : ByteArray := prog_5_method_41_code
def yX3_quotients : MethodName := ⟨RX3, "quotients", "(II)I"⟩
abbrev cX3_bestForm : ByteArray := prog_5_method_42_code
def yX3_bestForm : MethodName := ⟨RX3, "bestForm", "(II)I"⟩
abbrev cX3_best : ByteArray := prog_5_method_43_code
def yX3_best : MethodName := ⟨RX3, "best", "(II)I"⟩
abbrev cX3_hasProduct : ByteArray := prog_5_method_44_code
def yX3_hasProduct : MethodName := ⟨RX3, "hasProduct", "(IIII)Z"⟩
abbrev cX3_isThree : ByteArray := prog_5_method_45_code
def yX3_isThree : MethodName := ⟨RX3, "isThree", "(IIII)Z"⟩
abbrev cX3_only : ByteArray := prog_5_method_46_code
def yX3_only : MethodName := ⟨RX3, "only", "(IIII)I"⟩
abbrev cX3_isTooHigh : ByteArray := prog_5_method_47_code
def yX3_isTooHigh : MethodName := ⟨RX3, "isTooHigh", "(III)Z"⟩
abbrev cX3_rows : ByteArray := prog_5_method_48_code
def yX3_rows : MethodName := ⟨RX3, "rows", "(III)I"⟩
abbrev cX3_many : ByteArray := prog_5_method_49_code
def yX3_many : MethodName := ⟨RX3, "many", "(III)I"⟩
abbrev cX3_isAmong : ByteArray := prog_5_method_50_code
def yX3_isAmong : MethodName := ⟨RX3, "isAmong", "(IIII)Z"⟩
abbrev cX3_isIn : ByteArray := prog_5_method_51_code
def yX3_isIn : MethodName := ⟨RX3, "isIn", "(IIII)I"⟩
abbrev cX3_coefficient : ByteArray := prog_5_method_52_code
def yX3_coefficient : MethodName := ⟨RX3, "coefficient", "(I)J"⟩
abbrev cX3_rootsOf : ByteArray := prog_5_method_53_code
def yX3_rootsOf : MethodName := ⟨RX3, "rootsOf", "(I)I"⟩
abbrev cX3_tellsCount : ByteArray := prog_5_method_54_code
def yX3_tellsCount : MethodName := ⟨RX3, "tellsCount", "(I)I"⟩
abbrev cX3_count : ByteArray := prog_5_method_55_code
def yX3_count : MethodName := ⟨RX3, "count", "(I)I"⟩
abbrev cX3_share : ByteArray := prog_5_method_56_code
def yX3_share : MethodName := ⟨RX3, "share", "(I)D"⟩
abbrev cX3_takenShare : ByteArray := prog_5_method_57_code
def yX3_takenShare : MethodName := ⟨RX3, "takenShare", "(I)D"⟩
abbrev cX3_hashes : ByteArray := prog_5_method_58_code
def yX3_hashes : MethodName := ⟨RX3, "hashes", "(J)V"⟩
abbrev cX3_hashesPoly : ByteArray := prog_5_method_59_code
def yX3_hashesPoly : MethodName := ⟨RX3, "hashesPoly", "(I)V"⟩
abbrev cX3_digest : ByteArray := prog_5_method_60_code
def yX3_digest : MethodName := ⟨RX3, "digest", "()J"⟩
def RJxe99ae : String := "java/lang/Double"
def TJxe99ae : u_T := fun k => match k with
  | _ => ("", "", "", false)
def tyJxe99ae : Nat → FieldType := fun k => match k with
  | _ => .int
theorem nmJxe99ae : ∀ a, a < 0 → ∀ b, b < 0 → a ≠ b → (TJxe99ae a).2.1 ≠ (TJxe99ae b).2.1 := by decide +kernel
theorem tyJxe99ae_ok : ∀ k, k < 0 → parseFieldDescriptor (TJxe99ae k).2.2.1 = some (tyJxe99ae k) := by decide +kernel
abbrev cJxe99ae_isNaN_b9ae7 : ByteArray := prog_6_method_6_code
def yJxe99ae_isNaN_b9ae7 : MethodName := ⟨RJxe99ae, "isNaN", "(D)Z"⟩
abbrev cJxe99ae_doubleToLongBits_ccdee : ByteArray := prog_6_method_23_code
def yJxe99ae_doubleToLongBits_ccdee : MethodName := ⟨RJxe99ae, "doubleToLongBits", "(D)J"⟩
def RJ0 : String := "java/lang/String"
def TJ0 : u_T := fun k => match k with
  | _ => ("", "", "", false)
def tyJ0 : Nat → FieldType := fun k => match k with
  | _ => .int
theorem nmJ0 : ∀ a, a < 0 → ∀ b, b < 0 → a ≠ b → (TJ0 a).2.1 ≠ (TJ0 b).2.1 := by decide +kernel
theorem tyJ0_ok : ∀ k, k < 0 → parseFieldDescriptor (TJ0 k).2.2.1 = some (tyJ0 k) := by decide +kernel
def RJ10 : String := "java/lang/System"
def TJ10 : u_T := fun k => match k with
  | _ => ("", "", "", false)
def tyJ10 : Nat → FieldType := fun k => match k with
  | _ => .int
theorem nmJ10 : ∀ a, a < 0 → ∀ b, b < 0 → a ≠ b → (TJ10 a).2.1 ≠ (TJ10 b).2.1 := by decide +kernel
theorem tyJ10_ok : ∀ k, k < 0 → parseFieldDescriptor (TJ10 k).2.2.1 = some (tyJ10 k) := by decide +kernel
def RL : String := "SignRootsLaw"
abbrev cL_put : ByteArray := method_3_code
def yL_put : MethodName := ⟨RL, "put", "(LSignRoots;III[J)I"⟩
abbrev cL_copy : ByteArray := method_4_code
def yL_copy : MethodName := ⟨RL, "copy", "(LSignRoots;II[J)I"⟩
abbrev cL_divide : ByteArray := method_5_code
def yL_divide : MethodName := ⟨RL, "divide", "(LSignRoots;II[J)I"⟩
abbrev cL_root : ByteArray := method_6_code
def yL_root : MethodName := ⟨RL, "root", "(LSignRoots;I[J)I"⟩
abbrev cL_lower : ByteArray := method_7_code
def yL_lower : MethodName := ⟨RL, "lower", "(LSignRoots;I[J)I"⟩
abbrev cL_append : ByteArray := method_8_code
def yL_append : MethodName := ⟨RL, "append", "(LSignRoots;I[J)I"⟩
abbrev cL_load : ByteArray := method_9_code
def yL_load : MethodName := ⟨RL, "load", "(LSignRoots;I[J)I"⟩
abbrev cL_keep : ByteArray := method_10_code
def yL_keep : MethodName := ⟨RL, "keep", "(LSignRoots;I[J)I"⟩
abbrev cL_goBack : ByteArray := method_11_code
def yL_goBack : MethodName := ⟨RL, "goBack", "(LSignRoots;I[J)I"⟩
abbrev cL_undo : ByteArray := method_12_code
def yL_undo : MethodName := ⟨RL, "undo", "(LSignRoots;[J)I"⟩
abbrev cL_sign : ByteArray := method_13_code
def yL_sign : MethodName := ⟨RL, "sign", "(LSignRoots;II[J)I"⟩
abbrev cL_of : ByteArray := method_14_code
def yL_of : MethodName := ⟨RL, "of", "(LSignRoots;II[J)I"⟩
abbrev cL_isRoot : ByteArray := method_15_code
def yL_isRoot : MethodName := ⟨RL, "isRoot", "(LSignRoots;II[J)I"⟩
abbrev cL_times : ByteArray := method_16_code
def yL_times : MethodName := ⟨RL, "times", "(LSignRoots;III[J)I"⟩
abbrev cL_quotients : ByteArray := method_17_code
def yL_quotients : MethodName := ⟨RL, "quotients", "(LSignRoots;II[J)I"⟩
abbrev cL_best : ByteArray := method_18_code
def yL_best : MethodName := ⟨RL, "best", "(LSignRoots;II[J)I"⟩
abbrev cL_many : ByteArray := method_19_code
def yL_many : MethodName := ⟨RL, "many", "(LSignRoots;III[J)I"⟩
abbrev cL_isIn : ByteArray := method_20_code
def yL_isIn : MethodName := ⟨RL, "isIn", "(LSignRoots;IIII[J)I"⟩
abbrev cL_coefficient : ByteArray := method_21_code
def yL_coefficient : MethodName := ⟨RL, "coefficient", "(LSignRoots;I[J)I"⟩
abbrev cL_count : ByteArray := method_22_code
def yL_count : MethodName := ⟨RL, "count", "(LSignRoots;I[J)I"⟩
abbrev cL_takenShare : ByteArray := method_23_code
def yL_takenShare : MethodName := ⟨RL, "takenShare", "(LSignRoots;I[D)I"⟩
abbrev cL_law : ByteArray := code
def yL_law : MethodName := ⟨RL, "law", "([I)Z"⟩
abbrev vwCl : List vw_C := [(RX0, TX0, 6), (RX1, TX1, 5), (RX2, TX2, 9), (RX3, TX3, 13)]
end
section
set_option linter.unusedVariables false
set_option linter.unusedSimpArgs false
/-! ===== the memory: what a pure picture of all cells is, by logical ids ===== -/
abbrev Mem : Type := Nat × (Nat → Nat → Int32) × (Nat → Nat → Int64) × (Nat → Nat → Option Nat) × (Nat → Nat → UInt64)
def mI (M : Mem) : Nat → Nat → Int32 := M.2.1
def mJ (M : Mem) : Nat → Nat → Int64 := M.2.2.1
def mR (M : Mem) : Nat → Nat → Option Nat := M.2.2.2.1
def mD (M : Mem) : Nat → Nat → UInt64 := M.2.2.2.2
def up2 {α : Type} (f : Nat → Nat → α) (a k : Nat) (v : α) : Nat → Nat → α := fun b j => if b = a ∧ j = k then v else f b j
def sI (M : Mem) (a k : Nat) (v : Int32) : Mem := (M.1, up2 (mI M) a k v, mJ M, mR M, mD M)
def sJ (M : Mem) (a k : Nat) (v : Int64) : Mem := (M.1, mI M, up2 (mJ M) a k v, mR M, mD M)
def sR (M : Mem) (a k : Nat) (v : Option Nat) : Mem := (M.1, mI M, mJ M, up2 (mR M) a k v, mD M)
def sD (M : Mem) (a k : Nat) (v : UInt64) : Mem := (M.1, mI M, mJ M, mR M, up2 (mD M) a k v)
/-- kinds of the ids: 0 Division, 1 State, 2 SignRoots, 3 the model, 4 int[], 5 long[], 6 boolean[], 7 Division[], 8 State[], 9 int[][], 10 double[] -/
def kdState : List Nat := [1, 9, 4, 4, 4, 4, 4, 4]
def lnState : List Nat := [0, 5, 9, 9, 9, 9, 9, 8]
def kdDiv : List Nat := [0, 4, 4, 4]
def lnDiv : List Nat := [0, 9, 9, 9]
def kdL : List Nat := [2] ++ kdState ++ [8, 8, 6, 4, 5, 7] ++ (List.replicate 8 kdState).flatten ++ (List.replicate 9 kdDiv).flatten ++ [3, 4, 4, 4, 6, 4, 4, 4, 5, 5, 10]
def lnL : List Nat := [0] ++ lnState ++ [6, 2, 2, 60, 9, 9] ++ (List.replicate 8 lnState).flatten ++ (List.replicate 9 lnDiv).flatten ++ [0, 56, 336, 112, 2, 60, 9, 9, 9, 1, 1]
def kd (i : Nat) : Nat := kdL.getD i 99
def ln (i : Nat) : Nat := lnL.getD i 0
abbrev Geo : Type := va_G × (Nat → ClassId)
abbrev tysOf (G : Geo) : List (ClassId × FieldType) := [(G.2 0, .int), (G.2 1, .long), (G.2 2, .boolean), (G.2 3, .object RX0), (G.2 4, .object RX1), (G.2 5, .array .int), (G.2 6, .double)]
def phys (ad : Nat → Nat) : Value → Value
  | .ref i => .ref (ad i)
  | v => v
def re (ad : Nat → Nat) (r : Option Nat) : Value := va_rf (r.map ad)
theorem phys_rf (ad : Nat → Nat) (r : Option Nat) : phys ad (va_rf r) = re ad r := by cases r <;> rfl
def ent (G : Geo) (ad : Nat → Nat) (M : Mem) (i : Nat) : va_E :=
  if kd i = 0 then .inr (0, [re ad (mR M i 0), re ad (mR M i 1), re ad (mR M i 2), .int (mI M i 3), .int (mI M i 4), .int (mI M i 5)])
  else if kd i = 1 then .inr (1, [re ad (mR M i 0), re ad (mR M i 1), .int (mI M i 2), .int (mI M i 3), .int (mI M i 4)])
  else if kd i = 2 then .inr (2, [re ad (mR M i 0), re ad (mR M i 1), .int (mI M i 2), re ad (mR M i 3), re ad (mR M i 4), re ad (mR M i 5), .int (mI M i 6), re ad (mR M i 7), re ad (mR M i 8)])
  else if kd i = 3 then .inr (3, [.int (mI M i 0), re ad (mR M i 1), re ad (mR M i 2), .int (mI M i 3), re ad (mR M i 4), re ad (mR M i 5), re ad (mR M i 6), .int (mI M i 7), re ad (mR M i 8), re ad (mR M i 9), .int (mI M i 10), re ad (mR M i 11), .long (mJ M i 12)])
  else if kd i = 4 then .inl (G.2 0, ln i, .inl (mI M i))
  else if kd i = 5 then .inl (G.2 1, ln i, .inr (.inl (mJ M i)))
  else if kd i = 6 then .inl (G.2 2, ln i, .inl (mI M i))
  else if kd i = 7 then .inl (G.2 3, ln i, .inr (.inr (.inr (.inr (fun k => (mR M i k).map ad)))))
  else if kd i = 8 then .inl (G.2 4, ln i, .inr (.inr (.inr (.inr (fun k => (mR M i k).map ad)))))
  else if kd i = 9 then .inl (G.2 5, ln i, .inr (.inr (.inr (.inr (fun k => (mR M i k).map ad)))))
  else .inl (G.2 6, ln i, .inr (.inr (.inr (.inl (mD M i)))))
def pool (G : Geo) (ad : Nat → Nat) (M : Mem) : va_W := (List.range M.1).map (fun i => (ad i, ent G ad M i))
theorem pool_at {G : Geo} {ad : Nat → Nat} {M : Mem} {i : Nat} (h : i < M.1) : (pool G ad M)[i]? = some (ad i, ent G ad M i) := by
  simp [pool, h]
theorem pool_set {G : Geo} {ad : Nat → Nat} {M M2 : Mem} {i : Nat} {x : va_E} (hn : M2.1 = M.1) (h : i < M.1) (hx : ent G ad M2 i = x) (ho : ∀ j, j ≠ i → ent G ad M2 j = ent G ad M j) : (pool G ad M).set i (ad i, x) = pool G ad M2 := by
  apply List.ext_getElem?
  intro j
  by_cases hj : j = i
  · subst hj
    rw [List.getElem?_set_self (by simp [pool, h]), pool_at (by rw [hn]; exact h), hx]
  · rw [List.getElem?_set_ne (Ne.symm hj)]
    by_cases hl : j < M.1
    · rw [pool_at hl, pool_at (by rw [hn]; exact hl), ho j hj]
    · simp [pool, hl, hn]
theorem ent_sI_ne {G : Geo} {ad : Nat → Nat} {M : Mem} {a k : Nat} {v : Int32} {j : Nat} (h : j ≠ a) : ent G ad (sI M a k v) j = ent G ad M j := by
  have e : ∀ q, mI (sI M a k v) j q = mI M j q := fun q => by show up2 _ _ _ _ _ _ = _; simp [up2, h]
  have e2 : mI (sI M a k v) j = mI M j := funext e
  simp only [ent, e2, show mR (sI M a k v) = mR M from rfl, show mJ (sI M a k v) = mJ M from rfl, show mD (sI M a k v) = mD M from rfl]
theorem ent_sJ_ne {G : Geo} {ad : Nat → Nat} {M : Mem} {a k : Nat} {v : Int64} {j : Nat} (h : j ≠ a) : ent G ad (sJ M a k v) j = ent G ad M j := by
  have e2 : mJ (sJ M a k v) j = mJ M j := funext fun q => by show up2 _ _ _ _ _ _ = _; simp [up2, h]
  simp only [ent, e2, show mR (sJ M a k v) = mR M from rfl, show mI (sJ M a k v) = mI M from rfl, show mD (sJ M a k v) = mD M from rfl]
theorem ent_sR_ne {G : Geo} {ad : Nat → Nat} {M : Mem} {a k : Nat} {v : Option Nat} {j : Nat} (h : j ≠ a) : ent G ad (sR M a k v) j = ent G ad M j := by
  have e2 : mR (sR M a k v) j = mR M j := funext fun q => by show up2 _ _ _ _ _ _ = _; simp [up2, h]
  simp only [ent, e2, show mJ (sR M a k v) = mJ M from rfl, show mI (sR M a k v) = mI M from rfl, show mD (sR M a k v) = mD M from rfl]
theorem ent_sD_ne {G : Geo} {ad : Nat → Nat} {M : Mem} {a k : Nat} {v : UInt64} {j : Nat} (h : j ≠ a) : ent G ad (sD M a k v) j = ent G ad M j := by
  have e2 : mD (sD M a k v) j = mD M j := funext fun q => by show up2 _ _ _ _ _ _ = _; simp [up2, h]
  simp only [ent, e2, show mJ (sD M a k v) = mJ M from rfl, show mI (sD M a k v) = mI M from rfl, show mR (sD M a k v) = mR M from rfl]
/-! ===== the words ===== -/
def BIG : List Cond := lw_tbl.filter goodWord
theorem in_big {w : Cond} (i : Nat) (h : lw_tbl[i]? = some w) (g : goodWord w = true) : w ∈ BIG := List.mem_filter.mpr ⟨List.mem_of_getElem? h, g⟩
theorem big_good {w : Cond} (h : w ∈ BIG) : goodWord w = true := (List.mem_filter.mp h).2
theorem big_in {ws : List Cond} (h : ∀ w ∈ ws, w ∈ BIG) {c : Cond} : GoodIn (c :: BIG) ws := fun w hw => ⟨List.mem_cons_of_mem _ (h w hw), good_of_word (big_good (h w hw))⟩
theorem big_inB {ws : List Cond} (h : ∀ w ∈ ws, w ∈ BIG) : GoodIn BIG ws := fun w hw => ⟨h w hw, good_of_word (big_good (h w hw))⟩
theorem big_cons {c : Cond} (h : c ∈ BIG) : ∀ w ∈ c :: BIG, w ∈ BIG := fun w hw => (List.mem_cons.mp hw).elim (fun e => e ▸ h) id
/-! ===== the judgement ===== -/
def Vok (n : Nat) (v : Value) : Prop := ∀ i, v = .ref i → i < n
def Wd (G : Geo) (ad : Nat → Nat) (M : Mem) (H : Heap) : Prop := va_P G.1 vwCl (pool G ad M) H ∧ ∀ i j, i < M.1 → j < M.1 → ad i = ad j → i = j
def Aset (ad : Nat → Nat) (n sz : Nat) : Nat → Prop := fun q => (∃ i, i < n ∧ q = ad i) ∨ sz ≤ q
/-- what is known of the machine's tables, at any state of a run -/
def nestB (U : State) : Prop := (va_Nw (.methodLinkNest RX2 48 yX0_init RX2) U ∧ va_Nw (.methodLinkNest RX0 31 yX2_degreeOf RX2) U) ∧ va_Nw (.methodLinkNest RX0 46 yX2_markOf RX2) U ∧ va_Nw (.methodLinkNest RX0 50 yX2_holds RX2) U
def strB (U : State) : Prop := ∀ q ∈ ([(95, "a root is -9 to 9"), (113, "a character code is 33 to 126"), (117, "the buffer is full"), (124, "the buffer tells no polynomial"), (140, "the slot is empty"), (142, "there is no saved state"), (213, "there is no such polynomial"), (216, "a power is 0 to 8"), (218, "a sign is -1, 0 or 1"), (220, "a slot is 0 or 1"), (222, "there is no such thing to tell")] : List (Nat × String)), ∃ sa, vk_R RX2 q.1 q.2 sa U
def overB (U : State) : Prop := va_AO RX0 U ∧ va_AO RX1 U ∧ va_AOA .int U
def castB (U : State) : Prop := va_Nw (.castable "java/lang/IllegalArgumentException" "java/lang/IllegalArgumentException") U ∧ va_Nw (.castable "java/lang/IndexOutOfBoundsException" "java/lang/IndexOutOfBoundsException") U ∧ va_Nw (.castable "java/lang/IllegalStateException" "java/lang/IllegalStateException") U
def KK (G : Geo) (A : Nat → Prop) (U : State) (H : Heap) : Prop := (va_K G.1 vwCl (tysOf G) U ∧ nestB U ∧ strB U ∧ overB U ∧ castB U) ∧ vx_Zq Bundle.tN "UNASSIGNED_STACK" Bundle.steD A U H ∧ vx_Zq Bundle.tN "SUPPRESSED_SENTINEL" Bundle.listD A U H
theorem idx_bare2 (vm : Vm) (comp : ClassId) : (vm.bare.classes.findIdx? fun (x : Class) => match x.kind with | .array component _ => component == comp | _ => false) = (vm.classes.findIdx? fun (x : Class) => match x.kind with | .array component _ => component == comp | _ => false) := by
  simp only [Vm.bare, Array.findIdx?_map]
  rfl
theorem va_AOA.moved {t : FieldType} {u U : State} (hvm : u.vm.Alike U.vm) (h : va_AOA t u) : va_AOA t U := by
  obtain ⟨comp, c, k, h1, h2, h3, h4, h5⟩ := Jvm.Stand.arrayOver_specB h
  obtain ⟨k', hk', he⟩ := hvm.2.2 _ _ h3
  have hi : (U.vm.classes.findIdx? fun (x : Class) => match x.kind with | .array component _ => component == comp | _ => false) = some c := by
    rw [← idx_bare2]
    first | rw [hvm.bare_eq] | rw [← hvm.bare_eq]
    rw [idx_bare2]
    exact h2
  have hkind : k'.kind = .array comp (.array t) := by rw [he]; exact h4
  have f1 : U.vm.findClass (FieldType.array t).toString = some comp := by rw [hvm.findClass]; exact h1
  have f2 : U.vm.findClass ("[" ++ (FieldType.array t).toString) = some c := by rw [hvm.findClass]; exact h5
  unfold va_AOA Cond.before Cond.holds
  simp only [Cond.value]
  rw [f1, Option.bind_some]
  refine (congrArg (fun o : Option Nat => (o.bind (fun c => (U.vm.classes[c]?).map fun (k : Class) => match k.kind with | .array _ ty => decide (ty = FieldType.array t) && decide (U.vm.findClass ("[" ++ (FieldType.array t).toString) = some c) | _ => false) == some true)) hi).trans ?_
  simp [hk', hkind, f2]
theorem KK.warm {G : Geo} {A : Nat → Prop} {s U : State} {H : Heap} (hW : s.WarmedH U.vm) (h : KK G A s H) : KK G A U H := by
  obtain ⟨⟨h1, ⟨⟨n1, n2⟩, n3, n4⟩, h3, ⟨o1, o2, o3⟩, c1, c2, c3⟩, z1, z2⟩ := h
  exact ⟨⟨va_K.moved hW.alike h1, ⟨⟨va_Nw.warmM hW n1, va_Nw.warmM hW n2⟩, va_Nw.warmM hW n3, va_Nw.warmM hW n4⟩, fun q hq => (h3 q hq).elim fun sa hsa => ⟨sa, vk_R.warm hW hsa⟩, ⟨va_AO.moved hW.alike o1, va_AO.moved hW.alike o2, va_AOA.moved hW.alike o3⟩, va_Nw.warmC hW c1, va_Nw.warmC hW c2, va_Nw.warmC hW c3⟩, vx_Zq.moved hW.alike z1, vx_Zq.moved hW.alike z2⟩
theorem KK.kept {G : Geo} {A : Nat → Prop} {U : State} {H H1 : Heap} (h : KK G A U H) (hq : ∀ a : Nat, a < H.size → ¬ A a → H1[a]? = H[a]?) : KK G A U H1 := ⟨h.1, vx_Zq.kept h.2.1 hq, vx_Zq.kept h.2.2 hq⟩
theorem KK.narrow {G : Geo} {A B : Nat → Prop} {U : State} {H : Heap} (h : KK G A U H) (hAB : ∀ q, B q → A q) : KK G B U H := ⟨h.1, vx_Zq.narrow h.2.1 hAB, vx_Zq.narrow h.2.2 hAB⟩
def J (C : Program × Launch × Env × Room × State × MethodId × Array Value × List Frame × Method × Code × Heap × (Nat → Prop) × (State → Prop) × Nat × Geo × (Nat → Nat) × Nat) (cells slots : Nat) (M : Mem) (pc : Nat) (lv : List (Nat × Value)) (st : List Value) : Prop :=
  match C with
  | (p, l, e, R, s, m, args, below, meth, c, H0, A, Q, nL, G, ad0, n0) => ∀ (ad : Nat → Nat) (H : Heap) (locs : List Loc) (ls : Array Slot), Wd G ad M H → (∀ i, i < M.1 → A (ad i)) → (∀ i, i < n0 → ad i = ad0 i) → n0 ≤ M.1 → (∀ q ∈ lv, Vok M.1 q.2) → (∀ v ∈ st, Vok M.1 v) → va_S A H0 H locs → lv_has ls nL (lv.map fun q => (q.1, phys ad q.2)) → W p l e R s m args below meth c H locs cells slots Q (F0 m pc ls (st.map (phys ad)))
end
section
abbrev JC : Type := Program × Launch × Env × Room × State × MethodId × Array Value × List Frame × Method × Code × Heap × (Nat → Prop) × (State → Prop) × Nat × Geo × (Nat → Nat) × Nat
abbrev Res : Type := Mem × (String ⊕ Option Value)
theorem Vok_int {n : Nat} {v : Int32} : Vok n (.int v) := fun _ h => by cases h
theorem Vok_long {n : Nat} {v : Int64} : Vok n (.long v) := fun _ h => by cases h
theorem Vok_double {n : Nat} {v : UInt64} : Vok n (.double v) := fun _ h => by cases h
theorem Vok_null {n : Nat} : Vok n .null := fun _ h => by cases h
theorem Vok_rf {n : Nat} {r : Option Nat} (h : ∀ j, r = some j → j < n) : Vok n (va_rf r) := fun i e => by
  cases r with
  | none => cases e
  | some j => cases e; exact h _ rfl
theorem vs_c {n : Nat} {v : Value} {st : List Value} (h : Vok n v) (hs : ∀ w ∈ st, Vok n w) : ∀ w ∈ v :: st, Vok n w := fun w hw => (List.mem_cons.mp hw).elim (fun e => e ▸ h) (hs w)
theorem vs_t {n : Nat} {v : Value} {st : List Value} (hs : ∀ w ∈ v :: st, Vok n w) : ∀ w ∈ st, Vok n w := fun w hw => hs w (List.mem_cons_of_mem _ hw)
theorem vs_h {n : Nat} {v : Value} {st : List Value} (hs : ∀ w ∈ v :: st, Vok n w) : Vok n v := hs v List.mem_cons_self
theorem vl_at {n : Nat} {lv : List (Nat × Value)} (h : ∀ q ∈ lv, Vok n q.2) {k i : Nat} {v : Value} (e : lv[k]? = some (i, v)) : Vok n v := h (i, v) (List.mem_of_getElem? e)
theorem mp_at {ad : Nat → Nat} {lv : List (Nat × Value)} {k i : Nat} {v : Value} (e : lv[k]? = some (i, v)) : (lv.map fun q => (q.1, phys ad q.2))[k]? = some (i, phys ad v) := by
  rw [List.getElem?_map, e]
  rfl
theorem cat_phys (ad : Nat → Nat) (v : Value) : (phys ad v).category = v.category := by cases v <;> rfl
theorem mp_st1 {ad : Nat → Nat} {lv lv' : List (Nat × Value)} {i : Nat} {v : Value} (hl : (i, v) :: lv.filter (fun q => !(q.1 == i) && !(q.1 + 1 == i && q.2.category == 2)) = lv') :
    (i, phys ad v) :: (lv.map fun q => (q.1, phys ad q.2)).filter (fun q => !(q.1 == i) && !(q.1 + 1 == i && q.2.category == 2)) = lv'.map fun q => (q.1, phys ad q.2) := by
  subst hl
  simp only [List.map_cons, List.filter_map, Function.comp_def, cat_phys]
theorem mp_st2 {ad : Nat → Nat} {lv lv' : List (Nat × Value)} {i : Nat} {v : Value} (hl : (i, v) :: lv.filter (fun q => !(q.1 == i) && (!(q.1 == i + 1) && !(q.1 + 1 == i && q.2.category == 2))) = lv') :
    (i, phys ad v) :: (lv.map fun q => (q.1, phys ad q.2)).filter (fun q => !(q.1 == i) && (!(q.1 == i + 1) && !(q.1 + 1 == i && q.2.category == 2))) = lv'.map fun q => (q.1, phys ad q.2) := by
  subst hl
  simp only [List.map_cons, List.filter_map, Function.comp_def, cat_phys]
theorem vl_st {n : Nat} {lv lv' : List (Nat × Value)} {i : Nat} {v : Value} {f : Nat × Value → Bool} (hl : (i, v) :: lv.filter f = lv') (hv : Vok n v) (h : ∀ q ∈ lv, Vok n q.2) : ∀ q ∈ lv', Vok n q.2 := by
  subst hl
  intro q hq
  rcases List.mem_cons.mp hq with e | e
  · rw [e]; exact hv
  · exact h q (List.mem_filter.mp e).1
/-- what a return must show -/
def Qret (G : Geo) (ad0 : Nat → Nat) (n0 : Nat) (A : Nat → Prop) (res : Res) : Array Value → State → Outcome → State → Prop := fun _ st o t =>
  (∃ (ad : Nat → Nat) (rv : Option Value), res.2 = .inr rv ∧ o = .returned (rv.map (phys ad)) ∧ (∀ i, i < n0 → ad i = ad0 i) ∧ n0 ≤ res.1.1 ∧ Wd G ad res.1 t.heap ∧ (∀ i, i < res.1.1 → A (ad i)) ∧ ∀ v, rv = some v → Vok res.1.1 v) ∧ va_F A st t
def Qthr (G : Geo) (ad0 : Nat → Nat) (n0 : Nat) (A : Nat → Prop) (res : Res) : String → State → State → Prop := fun E st t =>
  (∃ (ad : Nat → Nat), res.2 = .inl E ∧ (∀ i, i < n0 → ad i = ad0 i) ∧ n0 ≤ res.1.1 ∧ Wd G ad res.1 t.heap ∧ (∀ i, i < res.1.1 → A (ad i))) ∧ va_F A st t
def PreC (G : Geo) (ad : Nat → Nat) (sz : Nat) (As : List Value) (M : Mem) : Array Value → State → Prop := va_Pc (As.map (phys ad)) (fun U => U.heap.size = sz ∧ Wd G ad M U.heap ∧ KK G (Aset ad M.1 sz) U U.heap ∧ ∀ v ∈ As, Vok M.1 v)
/-- a method's contract: x: it may throw -/
def Con (x : Bool) (l : Launch) (y : MethodName) (cc : ByteArray) (maxL : Nat) (ret : Option FieldType) (rm : Room) (As : List Value) (M : Mem) (res : Res) : Prop := ∀ (G : Geo) (ad : Nat → Nat) (sz : Nat),
  if x = true then vx_Met l y (.code y cc maxL ret :: BIG) rm (PreC G ad sz As M) (Qret G ad M.1 (Aset ad M.1 sz) res) (Qthr G ad M.1 (Aset ad M.1 sz) res) rm.cells rm.slots (Aset ad M.1 sz)
  else Met l y (.code y cc maxL ret :: BIG) rm (PreC G ad sz As M) (Qret G ad M.1 (Aset ad M.1 sz) res) rm.cells rm.slots (Aset ad M.1 sz)
def Ok (C : JC) (x : Bool) (cc : ByteArray) (nL : Nat) (rm : Room) (rt : Option FieldType) (own : String) (res : Res) : Prop := match C with
  | (p, l, e, R, s, m, args, below, meth, c, H0, A, Q, nL0, G, ad0, n0) => p.tables.exec = Jvm.exec ∧ c.code = cc ∧ c.maxLocals = nL ∧ nL0 = nL ∧ s.vm.findClass own = some m.cls ∧ (∀ w ∈ BIG, w.before args s = true) ∧ KK G A s s.heap ∧ H0 = s.heap ∧ (∀ q, s.heap.size ≤ q → A q) ∧ meth.locks = false ∧ meth.sig.returnType = rt ∧ R = rm ∧
    (Q = if x = true then vx_MQ below (Qret G ad0 n0 A res) (Qthr G ad0 n0 A res) args s rm.cells rm.slots A else MQ below (Qret G ad0 n0 A res) args s rm.cells rm.slots A) ∧ (x = true → (∀ z ∈ c.exceptionTable.toList, False) ∧ l.stackTraces = false)
theorem J_iconst {C : JC} {x : Bool} {cc : ByteArray} {nL : Nat} {rm : Room} {rt : Option FieldType} {own : String} {res : Res} {ce sl : Nat} {M : Mem} {pc : Nat} {lv : List (Nat × Value)} {st : List Value} {n : Int} {v : Int32} (hC : Ok C x cc nL rm rt own res) (hdg : decode cc pc = .ok (.iconst n, 1)) (hv : Int32.ofInt n = v)
    (kk : J C ce sl M (pc + 1) lv (.int v :: st)) : J C ce sl M pc lv (st) := by
  obtain ⟨p, l, e, R, s, m, args, below, meth, c, H0, A, Q, nL0, G, ad0, n0⟩ := C
  obtain ⟨hx, hb, hml, hnl, hown, hts, hKK, hH0, hA, hlk, hrt, hR, hQ, hxt⟩ := hC
  intro ad H locs ls hW hAa hag hn hvl hvs hS hl
  exact lv_iconst hx hb hdg hv (kk ad H locs ls hW hAa hag hn hvl (vs_c Vok_int hvs) hS hl)
theorem J_bipush {C : JC} {x : Bool} {cc : ByteArray} {nL : Nat} {rm : Room} {rt : Option FieldType} {own : String} {res : Res} {ce sl : Nat} {M : Mem} {pc : Nat} {lv : List (Nat × Value)} {st : List Value} {n : Int} {v : Int32} (hC : Ok C x cc nL rm rt own res) (hdg : decode cc pc = .ok (.bipush n, 2)) (hv : (Int8.ofInt n).toInt32 = v)
    (kk : J C ce sl M (pc + 2) lv (.int v :: st)) : J C ce sl M pc lv (st) := by
  obtain ⟨p, l, e, R, s, m, args, below, meth, c, H0, A, Q, nL0, G, ad0, n0⟩ := C
  obtain ⟨hx, hb, hml, hnl, hown, hts, hKK, hH0, hA, hlk, hrt, hR, hQ, hxt⟩ := hC
  intro ad H locs ls hW hAa hag hn hvl hvs hS hl
  exact lv_bipush hx hb hdg hv (kk ad H locs ls hW hAa hag hn hvl (vs_c Vok_int hvs) hS hl)
theorem J_sipush {C : JC} {x : Bool} {cc : ByteArray} {nL : Nat} {rm : Room} {rt : Option FieldType} {own : String} {res : Res} {ce sl : Nat} {M : Mem} {pc : Nat} {lv : List (Nat × Value)} {st : List Value} {n : Int} {v : Int32} (hC : Ok C x cc nL rm rt own res) (hdg : decode cc pc = .ok (.sipush n, 3)) (hv : (Int16.ofInt n).toInt32 = v)
    (kk : J C ce sl M (pc + 3) lv (.int v :: st)) : J C ce sl M pc lv (st) := by
  obtain ⟨p, l, e, R, s, m, args, below, meth, c, H0, A, Q, nL0, G, ad0, n0⟩ := C
  obtain ⟨hx, hb, hml, hnl, hown, hts, hKK, hH0, hA, hlk, hrt, hR, hQ, hxt⟩ := hC
  intro ad H locs ls hW hAa hag hn hvl hvs hS hl
  exact lv_sipush hx hb hdg hv (kk ad H locs ls hW hAa hag hn hvl (vs_c Vok_int hvs) hS hl)
theorem J_lconst {C : JC} {x : Bool} {cc : ByteArray} {nL : Nat} {rm : Room} {rt : Option FieldType} {own : String} {res : Res} {ce sl : Nat} {M : Mem} {pc : Nat} {lv : List (Nat × Value)} {st : List Value} {n : Fin 2} {v : Int64} (hC : Ok C x cc nL rm rt own res) (hdg : decode cc pc = .ok (.lconst n, 1)) (hv : Int64.ofNat (n : Nat) = v)
    (kk : J C ce sl M (pc + 1) lv (.long v :: st)) : J C ce sl M pc lv (st) := by
  obtain ⟨p, l, e, R, s, m, args, below, meth, c, H0, A, Q, nL0, G, ad0, n0⟩ := C
  obtain ⟨hx, hb, hml, hnl, hown, hts, hKK, hH0, hA, hlk, hrt, hR, hQ, hxt⟩ := hC
  intro ad H locs ls hW hAa hag hn hvl hvs hS hl
  exact lv_lconst hx hb hdg hv (kk ad H locs ls hW hAa hag hn hvl (vs_c Vok_long hvs) hS hl)
theorem J_dconst0 {C : JC} {x : Bool} {cc : ByteArray} {nL : Nat} {rm : Room} {rt : Option FieldType} {own : String} {res : Res} {ce sl : Nat} {M : Mem} {pc : Nat} {lv : List (Nat × Value)} {st : List Value}  (hC : Ok C x cc nL rm rt own res) (hdg : decode cc pc = .ok (.dconst 0, 1))
    (kk : J C ce sl M (pc + 1) lv (.double FP.dconst0 :: st)) : J C ce sl M pc lv (st) := by
  obtain ⟨p, l, e, R, s, m, args, below, meth, c, H0, A, Q, nL0, G, ad0, n0⟩ := C
  obtain ⟨hx, hb, hml, hnl, hown, hts, hKK, hH0, hA, hlk, hrt, hR, hQ, hxt⟩ := hC
  intro ad H locs ls hW hAa hag hn hvl hvs hS hl
  exact lv_dconst0 hx hb hdg (kk ad H locs ls hW hAa hag hn hvl (vs_c Vok_double hvs) hS hl)
theorem J_dconst1 {C : JC} {x : Bool} {cc : ByteArray} {nL : Nat} {rm : Room} {rt : Option FieldType} {own : String} {res : Res} {ce sl : Nat} {M : Mem} {pc : Nat} {lv : List (Nat × Value)} {st : List Value}  (hC : Ok C x cc nL rm rt own res) (hdg : decode cc pc = .ok (.dconst 1, 1))
    (kk : J C ce sl M (pc + 1) lv (.double FP.dconst1 :: st)) : J C ce sl M pc lv (st) := by
  obtain ⟨p, l, e, R, s, m, args, below, meth, c, H0, A, Q, nL0, G, ad0, n0⟩ := C
  obtain ⟨hx, hb, hml, hnl, hown, hts, hKK, hH0, hA, hlk, hrt, hR, hQ, hxt⟩ := hC
  intro ad H locs ls hW hAa hag hn hvl hvs hS hl
  exact lv_dconst1 hx hb hdg (kk ad H locs ls hW hAa hag hn hvl (vs_c Vok_double hvs) hS hl)
theorem J_ldc {C : JC} {x : Bool} {cc : ByteArray} {nL : Nat} {rm : Room} {rt : Option FieldType} {own : String} {res : Res} {ce sl : Nat} {M : Mem} {pc : Nat} {lv : List (Nat × Value)} {st : List Value} {index : Nat} {v : Int32} (hC : Ok C x cc nL rm rt own res) (hw : Cond.constant own index v ∈ BIG) (hdg : decode cc pc = .ok (.ldc index, 2))
    (kk : J C ce sl M (pc + 2) lv (.int v :: st)) : J C ce sl M pc lv (st) := by
  obtain ⟨p, l, e, R, s, m, args, below, meth, c, H0, A, Q, nL0, G, ad0, n0⟩ := C
  obtain ⟨hx, hb, hml, hnl, hown, hts, hKK, hH0, hA, hlk, hrt, hR, hQ, hxt⟩ := hC
  intro ad H locs ls hW hAa hag hn hvl hvs hS hl
  exact lv_ldc hx hb hown (hts _ hw) hdg (kk ad H locs ls hW hAa hag hn hvl (vs_c Vok_int hvs) hS hl)
theorem J_ldc2 {C : JC} {x : Bool} {cc : ByteArray} {nL : Nat} {rm : Room} {rt : Option FieldType} {own : String} {res : Res} {ce sl : Nat} {M : Mem} {pc : Nat} {lv : List (Nat × Value)} {st : List Value} {index : Nat} {v : Int64} (hC : Ok C x cc nL rm rt own res) (hw : Cond.constantLong own index v ∈ BIG) (hdg : decode cc pc = .ok (.ldc2_w index, 3))
    (kk : J C ce sl M (pc + 3) lv (.long v :: st)) : J C ce sl M pc lv (st) := by
  obtain ⟨p, l, e, R, s, m, args, below, meth, c, H0, A, Q, nL0, G, ad0, n0⟩ := C
  obtain ⟨hx, hb, hml, hnl, hown, hts, hKK, hH0, hA, hlk, hrt, hR, hQ, hxt⟩ := hC
  intro ad H locs ls hW hAa hag hn hvl hvs hS hl
  exact lv_ldc2 hx hb hown (hts _ hw) hdg (kk ad H locs ls hW hAa hag hn hvl (vs_c Vok_long hvs) hS hl)
theorem J_ldc2d {C : JC} {x : Bool} {cc : ByteArray} {nL : Nat} {rm : Room} {rt : Option FieldType} {own : String} {res : Res} {ce sl : Nat} {M : Mem} {pc : Nat} {lv : List (Nat × Value)} {st : List Value} {index : Nat} {v : UInt64} (hC : Ok C x cc nL rm rt own res) (hw : Cond.constantDouble own index v ∈ BIG) (hdg : decode cc pc = .ok (.ldc2_w index, 3))
    (kk : J C ce sl M (pc + 3) lv (.double v :: st)) : J C ce sl M pc lv (st) := by
  obtain ⟨p, l, e, R, s, m, args, below, meth, c, H0, A, Q, nL0, G, ad0, n0⟩ := C
  obtain ⟨hx, hb, hml, hnl, hown, hts, hKK, hH0, hA, hlk, hrt, hR, hQ, hxt⟩ := hC
  intro ad H locs ls hW hAa hag hn hvl hvs hS hl
  exact lv_ldc2d hx hb hown (hts _ hw) hdg (kk ad H locs ls hW hAa hag hn hvl (vs_c Vok_double hvs) hS hl)
theorem J_iload_n {C : JC} {x : Bool} {cc : ByteArray} {nL : Nat} {rm : Room} {rt : Option FieldType} {own : String} {res : Res} {ce sl : Nat} {M : Mem} {pc : Nat} {lv : List (Nat × Value)} {st : List Value} {k : Fin 4} {j : Nat} {v : Int32} (hC : Ok C x cc nL rm rt own res) (hdg : decode cc pc = .ok (.iload_n k, 1)) (hlv : lv[j]? = some ((k : Nat), .int v))
    (kk : J C ce sl M (pc + 1) lv (.int v :: st)) : J C ce sl M pc lv (st) := by
  obtain ⟨p, l, e, R, s, m, args, below, meth, c, H0, A, Q, nL0, G, ad0, n0⟩ := C
  obtain ⟨hx, hb, hml, hnl, hown, hts, hKK, hH0, hA, hlk, hrt, hR, hQ, hxt⟩ := hC
  intro ad H locs ls hW hAa hag hn hvl hvs hS hl
  exact lv_iload_n hx hb hdg rfl (lv_at hl j (mp_at hlv)) (kk ad H locs ls hW hAa hag hn hvl (vs_c Vok_int hvs) hS hl)
theorem J_iload {C : JC} {x : Bool} {cc : ByteArray} {nL : Nat} {rm : Room} {rt : Option FieldType} {own : String} {res : Res} {ce sl : Nat} {M : Mem} {pc : Nat} {lv : List (Nat × Value)} {st : List Value} {i j : Nat} {v : Int32} (hC : Ok C x cc nL rm rt own res) (hdg : decode cc pc = .ok (.iload i, 2)) (hlv : lv[j]? = some (i, .int v))
    (kk : J C ce sl M (pc + 2) lv (.int v :: st)) : J C ce sl M pc lv (st) := by
  obtain ⟨p, l, e, R, s, m, args, below, meth, c, H0, A, Q, nL0, G, ad0, n0⟩ := C
  obtain ⟨hx, hb, hml, hnl, hown, hts, hKK, hH0, hA, hlk, hrt, hR, hQ, hxt⟩ := hC
  intro ad H locs ls hW hAa hag hn hvl hvs hS hl
  exact lv_iload hx hb hdg (lv_at hl j (mp_at hlv)) (kk ad H locs ls hW hAa hag hn hvl (vs_c Vok_int hvs) hS hl)
theorem J_lload_n {C : JC} {x : Bool} {cc : ByteArray} {nL : Nat} {rm : Room} {rt : Option FieldType} {own : String} {res : Res} {ce sl : Nat} {M : Mem} {pc : Nat} {lv : List (Nat × Value)} {st : List Value} {k : Fin 4} {j : Nat} {v : Int64} (hC : Ok C x cc nL rm rt own res) (hdg : decode cc pc = .ok (.lload_n k, 1)) (hlv : lv[j]? = some ((k : Nat), .long v))
    (kk : J C ce sl M (pc + 1) lv (.long v :: st)) : J C ce sl M pc lv (st) := by
  obtain ⟨p, l, e, R, s, m, args, below, meth, c, H0, A, Q, nL0, G, ad0, n0⟩ := C
  obtain ⟨hx, hb, hml, hnl, hown, hts, hKK, hH0, hA, hlk, hrt, hR, hQ, hxt⟩ := hC
  intro ad H locs ls hW hAa hag hn hvl hvs hS hl
  exact lv_lload_n hx hb hdg rfl (lv_at hl j (mp_at hlv)) (kk ad H locs ls hW hAa hag hn hvl (vs_c Vok_long hvs) hS hl)
theorem J_lload {C : JC} {x : Bool} {cc : ByteArray} {nL : Nat} {rm : Room} {rt : Option FieldType} {own : String} {res : Res} {ce sl : Nat} {M : Mem} {pc : Nat} {lv : List (Nat × Value)} {st : List Value} {i j : Nat} {v : Int64} (hC : Ok C x cc nL rm rt own res) (hdg : decode cc pc = .ok (.lload i, 2)) (hlv : lv[j]? = some (i, .long v))
    (kk : J C ce sl M (pc + 2) lv (.long v :: st)) : J C ce sl M pc lv (st) := by
  obtain ⟨p, l, e, R, s, m, args, below, meth, c, H0, A, Q, nL0, G, ad0, n0⟩ := C
  obtain ⟨hx, hb, hml, hnl, hown, hts, hKK, hH0, hA, hlk, hrt, hR, hQ, hxt⟩ := hC
  intro ad H locs ls hW hAa hag hn hvl hvs hS hl
  exact lv_lload hx hb hdg (lv_at hl j (mp_at hlv)) (kk ad H locs ls hW hAa hag hn hvl (vs_c Vok_long hvs) hS hl)
theorem J_dload_n {C : JC} {x : Bool} {cc : ByteArray} {nL : Nat} {rm : Room} {rt : Option FieldType} {own : String} {res : Res} {ce sl : Nat} {M : Mem} {pc : Nat} {lv : List (Nat × Value)} {st : List Value} {k : Fin 4} {j : Nat} {v : UInt64} (hC : Ok C x cc nL rm rt own res) (hdg : decode cc pc = .ok (.dload_n k, 1)) (hlv : lv[j]? = some ((k : Nat), .double v))
    (kk : J C ce sl M (pc + 1) lv (.double v :: st)) : J C ce sl M pc lv (st) := by
  obtain ⟨p, l, e, R, s, m, args, below, meth, c, H0, A, Q, nL0, G, ad0, n0⟩ := C
  obtain ⟨hx, hb, hml, hnl, hown, hts, hKK, hH0, hA, hlk, hrt, hR, hQ, hxt⟩ := hC
  intro ad H locs ls hW hAa hag hn hvl hvs hS hl
  exact lv_dload_n hx hb hdg rfl (lv_at hl j (mp_at hlv)) (kk ad H locs ls hW hAa hag hn hvl (vs_c Vok_double hvs) hS hl)
theorem J_dload {C : JC} {x : Bool} {cc : ByteArray} {nL : Nat} {rm : Room} {rt : Option FieldType} {own : String} {res : Res} {ce sl : Nat} {M : Mem} {pc : Nat} {lv : List (Nat × Value)} {st : List Value} {i j : Nat} {v : UInt64} (hC : Ok C x cc nL rm rt own res) (hdg : decode cc pc = .ok (.dload i, 2)) (hlv : lv[j]? = some (i, .double v))
    (kk : J C ce sl M (pc + 2) lv (.double v :: st)) : J C ce sl M pc lv (st) := by
  obtain ⟨p, l, e, R, s, m, args, below, meth, c, H0, A, Q, nL0, G, ad0, n0⟩ := C
  obtain ⟨hx, hb, hml, hnl, hown, hts, hKK, hH0, hA, hlk, hrt, hR, hQ, hxt⟩ := hC
  intro ad H locs ls hW hAa hag hn hvl hvs hS hl
  exact lv_dload hx hb hdg (lv_at hl j (mp_at hlv)) (kk ad H locs ls hW hAa hag hn hvl (vs_c Vok_double hvs) hS hl)
theorem J_aload_n {C : JC} {x : Bool} {cc : ByteArray} {nL : Nat} {rm : Room} {rt : Option FieldType} {own : String} {res : Res} {ce sl : Nat} {M : Mem} {pc : Nat} {lv : List (Nat × Value)} {st : List Value} {k : Fin 4} {j : Nat} {r : Option Nat} (hC : Ok C x cc nL rm rt own res) (hdg : decode cc pc = .ok (.aload_n k, 1)) (hlv : lv[j]? = some ((k : Nat), va_rf r))
    (kk : J C ce sl M (pc + 1) lv (va_rf r :: st)) : J C ce sl M pc lv (st) := by
  obtain ⟨p, l, e, R, s, m, args, below, meth, c, H0, A, Q, nL0, G, ad0, n0⟩ := C
  obtain ⟨hx, hb, hml, hnl, hown, hts, hKK, hH0, hA, hlk, hrt, hR, hQ, hxt⟩ := hC
  intro ad H locs ls hW hAa hag hn hvl hvs hS hl
  have kk := (kk ad H locs ls hW hAa hag hn hvl (vs_c (vl_at hvl hlv) hvs) hS hl)
  have h9 := lv_at hl j (mp_at hlv)
  cases r with
  | none => exact lv_aload_nN hx hb hdg rfl h9 kk
  | some q => exact lv_aload_n hx hb hdg rfl h9 kk
theorem J_aload {C : JC} {x : Bool} {cc : ByteArray} {nL : Nat} {rm : Room} {rt : Option FieldType} {own : String} {res : Res} {ce sl : Nat} {M : Mem} {pc : Nat} {lv : List (Nat × Value)} {st : List Value} {i j : Nat} {r : Option Nat} (hC : Ok C x cc nL rm rt own res) (hdg : decode cc pc = .ok (.aload i, 2)) (hlv : lv[j]? = some (i, va_rf r))
    (kk : J C ce sl M (pc + 2) lv (va_rf r :: st)) : J C ce sl M pc lv (st) := by
  obtain ⟨p, l, e, R, s, m, args, below, meth, c, H0, A, Q, nL0, G, ad0, n0⟩ := C
  obtain ⟨hx, hb, hml, hnl, hown, hts, hKK, hH0, hA, hlk, hrt, hR, hQ, hxt⟩ := hC
  intro ad H locs ls hW hAa hag hn hvl hvs hS hl
  have kk := (kk ad H locs ls hW hAa hag hn hvl (vs_c (vl_at hvl hlv) hvs) hS hl)
  have h9 := lv_at hl j (mp_at hlv)
  cases r with
  | none => exact lv_aloadN hx hb hdg h9 kk
  | some q => exact lv_aload hx hb hdg h9 kk
theorem J_istore_n {C : JC} {x : Bool} {cc : ByteArray} {nL : Nat} {rm : Room} {rt : Option FieldType} {own : String} {res : Res} {ce sl : Nat} {M : Mem} {pc : Nat} {lv : List (Nat × Value)} {st : List Value} {k : Fin 4} {i : Nat} {v : Int32} (hk : (k : Nat) = i) {lv' : List (Nat × Value)} (hC : Ok C x cc nL rm rt own res) (hdg : decode cc pc = .ok (.istore_n k, 1)) (hi : i < nL) (hlv : (i, Value.int v) :: lv.filter (fun q => !(q.1 == i) && !(q.1 + 1 == i && q.2.category == 2)) = lv')
    (kk : J C ce sl M (pc + 1) lv' st) : J C ce sl M pc lv (Value.int v :: st) := by
  obtain ⟨p, l, e, R, s, m, args, below, meth, c, H0, A, Q, nL0, G, ad0, n0⟩ := C
  obtain ⟨hx, hb, hml, hnl, hown, hts, hKK, hH0, hA, hlk, hrt, hR, hQ, hxt⟩ := hC
  intro ad H locs ls hW hAa hag hn hvl hvs hS hl
  subst hnl
  have kk := fun ls hl => kk ad H locs ls hW hAa hag hn (vl_st hlv (vs_h hvs) hvl) (vs_t hvs) hS hl
  have h9 := mp_st1 (ad := ad) hlv
  exact lv_istore_n hx hb hdg hk hl hi h9 kk
theorem J_istore {C : JC} {x : Bool} {cc : ByteArray} {nL : Nat} {rm : Room} {rt : Option FieldType} {own : String} {res : Res} {ce sl : Nat} {M : Mem} {pc : Nat} {lv : List (Nat × Value)} {st : List Value} {i : Nat} {v : Int32} {lv' : List (Nat × Value)} (hC : Ok C x cc nL rm rt own res) (hdg : decode cc pc = .ok (.istore i, 2)) (hi : i < nL) (hlv : (i, Value.int v) :: lv.filter (fun q => !(q.1 == i) && !(q.1 + 1 == i && q.2.category == 2)) = lv')
    (kk : J C ce sl M (pc + 2) lv' st) : J C ce sl M pc lv (Value.int v :: st) := by
  obtain ⟨p, l, e, R, s, m, args, below, meth, c, H0, A, Q, nL0, G, ad0, n0⟩ := C
  obtain ⟨hx, hb, hml, hnl, hown, hts, hKK, hH0, hA, hlk, hrt, hR, hQ, hxt⟩ := hC
  intro ad H locs ls hW hAa hag hn hvl hvs hS hl
  subst hnl
  have kk := fun ls hl => kk ad H locs ls hW hAa hag hn (vl_st hlv (vs_h hvs) hvl) (vs_t hvs) hS hl
  have h9 := mp_st1 (ad := ad) hlv
  exact lv_istore hx hb hdg hl hi h9 kk
theorem J_lstore_n {C : JC} {x : Bool} {cc : ByteArray} {nL : Nat} {rm : Room} {rt : Option FieldType} {own : String} {res : Res} {ce sl : Nat} {M : Mem} {pc : Nat} {lv : List (Nat × Value)} {st : List Value} {k : Fin 4} {i : Nat} {v : Int64} (hk : (k : Nat) = i) {lv' : List (Nat × Value)} (hC : Ok C x cc nL rm rt own res) (hdg : decode cc pc = .ok (.lstore_n k, 1)) (hi : i + 1 < nL) (hlv : (i, Value.long v) :: lv.filter (fun q => !(q.1 == i) && (!(q.1 == i + 1) && !(q.1 + 1 == i && q.2.category == 2))) = lv')
    (kk : J C ce sl M (pc + 1) lv' st) : J C ce sl M pc lv (Value.long v :: st) := by
  obtain ⟨p, l, e, R, s, m, args, below, meth, c, H0, A, Q, nL0, G, ad0, n0⟩ := C
  obtain ⟨hx, hb, hml, hnl, hown, hts, hKK, hH0, hA, hlk, hrt, hR, hQ, hxt⟩ := hC
  intro ad H locs ls hW hAa hag hn hvl hvs hS hl
  subst hnl
  have kk := fun ls hl => kk ad H locs ls hW hAa hag hn (vl_st hlv (vs_h hvs) hvl) (vs_t hvs) hS hl
  have h9 := mp_st2 (ad := ad) hlv
  exact lv_lstore_n hx hb hdg hk hl hi h9 kk
theorem J_lstore {C : JC} {x : Bool} {cc : ByteArray} {nL : Nat} {rm : Room} {rt : Option FieldType} {own : String} {res : Res} {ce sl : Nat} {M : Mem} {pc : Nat} {lv : List (Nat × Value)} {st : List Value} {i : Nat} {v : Int64} {lv' : List (Nat × Value)} (hC : Ok C x cc nL rm rt own res) (hdg : decode cc pc = .ok (.lstore i, 2)) (hi : i + 1 < nL) (hlv : (i, Value.long v) :: lv.filter (fun q => !(q.1 == i) && (!(q.1 == i + 1) && !(q.1 + 1 == i && q.2.category == 2))) = lv')
    (kk : J C ce sl M (pc + 2) lv' st) : J C ce sl M pc lv (Value.long v :: st) := by
  obtain ⟨p, l, e, R, s, m, args, below, meth, c, H0, A, Q, nL0, G, ad0, n0⟩ := C
  obtain ⟨hx, hb, hml, hnl, hown, hts, hKK, hH0, hA, hlk, hrt, hR, hQ, hxt⟩ := hC
  intro ad H locs ls hW hAa hag hn hvl hvs hS hl
  subst hnl
  have kk := fun ls hl => kk ad H locs ls hW hAa hag hn (vl_st hlv (vs_h hvs) hvl) (vs_t hvs) hS hl
  have h9 := mp_st2 (ad := ad) hlv
  exact lv_lstore hx hb hdg hl hi h9 kk
theorem J_dstore_n {C : JC} {x : Bool} {cc : ByteArray} {nL : Nat} {rm : Room} {rt : Option FieldType} {own : String} {res : Res} {ce sl : Nat} {M : Mem} {pc : Nat} {lv : List (Nat × Value)} {st : List Value} {k : Fin 4} {i : Nat} {v : UInt64} (hk : (k : Nat) = i) {lv' : List (Nat × Value)} (hC : Ok C x cc nL rm rt own res) (hdg : decode cc pc = .ok (.dstore_n k, 1)) (hi : i + 1 < nL) (hlv : (i, Value.double v) :: lv.filter (fun q => !(q.1 == i) && (!(q.1 == i + 1) && !(q.1 + 1 == i && q.2.category == 2))) = lv')
    (kk : J C ce sl M (pc + 1) lv' st) : J C ce sl M pc lv (Value.double v :: st) := by
  obtain ⟨p, l, e, R, s, m, args, below, meth, c, H0, A, Q, nL0, G, ad0, n0⟩ := C
  obtain ⟨hx, hb, hml, hnl, hown, hts, hKK, hH0, hA, hlk, hrt, hR, hQ, hxt⟩ := hC
  intro ad H locs ls hW hAa hag hn hvl hvs hS hl
  subst hnl
  have kk := fun ls hl => kk ad H locs ls hW hAa hag hn (vl_st hlv (vs_h hvs) hvl) (vs_t hvs) hS hl
  have h9 := mp_st2 (ad := ad) hlv
  exact lv_dstore_n hx hb hdg hk hl hi h9 kk
theorem J_dstore {C : JC} {x : Bool} {cc : ByteArray} {nL : Nat} {rm : Room} {rt : Option FieldType} {own : String} {res : Res} {ce sl : Nat} {M : Mem} {pc : Nat} {lv : List (Nat × Value)} {st : List Value} {i : Nat} {v : UInt64} {lv' : List (Nat × Value)} (hC : Ok C x cc nL rm rt own res) (hdg : decode cc pc = .ok (.dstore i, 2)) (hi : i + 1 < nL) (hlv : (i, Value.double v) :: lv.filter (fun q => !(q.1 == i) && (!(q.1 == i + 1) && !(q.1 + 1 == i && q.2.category == 2))) = lv')
    (kk : J C ce sl M (pc + 2) lv' st) : J C ce sl M pc lv (Value.double v :: st) := by
  obtain ⟨p, l, e, R, s, m, args, below, meth, c, H0, A, Q, nL0, G, ad0, n0⟩ := C
  obtain ⟨hx, hb, hml, hnl, hown, hts, hKK, hH0, hA, hlk, hrt, hR, hQ, hxt⟩ := hC
  intro ad H locs ls hW hAa hag hn hvl hvs hS hl
  subst hnl
  have kk := fun ls hl => kk ad H locs ls hW hAa hag hn (vl_st hlv (vs_h hvs) hvl) (vs_t hvs) hS hl
  have h9 := mp_st2 (ad := ad) hlv
  exact lv_dstore hx hb hdg hl hi h9 kk
theorem J_astore_n {C : JC} {x : Bool} {cc : ByteArray} {nL : Nat} {rm : Room} {rt : Option FieldType} {own : String} {res : Res} {ce sl : Nat} {M : Mem} {pc : Nat} {lv : List (Nat × Value)} {st : List Value} {k : Fin 4} {i : Nat} {r : Option Nat} (hk : (k : Nat) = i) {lv' : List (Nat × Value)} (hC : Ok C x cc nL rm rt own res) (hdg : decode cc pc = .ok (.astore_n k, 1)) (hi : i < nL) (hlv : (i, va_rf r) :: lv.filter (fun q => !(q.1 == i) && !(q.1 + 1 == i && q.2.category == 2)) = lv')
    (kk : J C ce sl M (pc + 1) lv' st) : J C ce sl M pc lv (va_rf r :: st) := by
  obtain ⟨p, l, e, R, s, m, args, below, meth, c, H0, A, Q, nL0, G, ad0, n0⟩ := C
  obtain ⟨hx, hb, hml, hnl, hown, hts, hKK, hH0, hA, hlk, hrt, hR, hQ, hxt⟩ := hC
  intro ad H locs ls hW hAa hag hn hvl hvs hS hl
  subst hnl
  have kk := fun ls hl => kk ad H locs ls hW hAa hag hn (vl_st hlv (vs_h hvs) hvl) (vs_t hvs) hS hl
  have h9 := mp_st1 (ad := ad) hlv
  cases r with
  | none => exact lv_astore_nN hx hb hdg hk hl hi h9 kk
  | some q => exact lv_astore_n hx hb hdg hk hl hi h9 kk
theorem J_astore {C : JC} {x : Bool} {cc : ByteArray} {nL : Nat} {rm : Room} {rt : Option FieldType} {own : String} {res : Res} {ce sl : Nat} {M : Mem} {pc : Nat} {lv : List (Nat × Value)} {st : List Value} {i : Nat} {r : Option Nat} {lv' : List (Nat × Value)} (hC : Ok C x cc nL rm rt own res) (hdg : decode cc pc = .ok (.astore i, 2)) (hi : i < nL) (hlv : (i, va_rf r) :: lv.filter (fun q => !(q.1 == i) && !(q.1 + 1 == i && q.2.category == 2)) = lv')
    (kk : J C ce sl M (pc + 2) lv' st) : J C ce sl M pc lv (va_rf r :: st) := by
  obtain ⟨p, l, e, R, s, m, args, below, meth, c, H0, A, Q, nL0, G, ad0, n0⟩ := C
  obtain ⟨hx, hb, hml, hnl, hown, hts, hKK, hH0, hA, hlk, hrt, hR, hQ, hxt⟩ := hC
  intro ad H locs ls hW hAa hag hn hvl hvs hS hl
  subst hnl
  have kk := fun ls hl => kk ad H locs ls hW hAa hag hn (vl_st hlv (vs_h hvs) hvl) (vs_t hvs) hS hl
  have h9 := mp_st1 (ad := ad) hlv
  cases r with
  | none => exact lv_astoreN hx hb hdg hl hi h9 kk
  | some q => exact lv_astore hx hb hdg hl hi h9 kk
theorem J_iinc {C : JC} {x : Bool} {cc : ByteArray} {nL : Nat} {rm : Room} {rt : Option FieldType} {own : String} {res : Res} {ce sl : Nat} {M : Mem} {pc : Nat} {lv : List (Nat × Value)} {st : List Value} {i j : Nat} {n : Int} {v w : Int32} {lv' : List (Nat × Value)} (hC : Ok C x cc nL rm rt own res) (hdg : decode cc pc = .ok (.iinc i n, 3)) (hi : i < nL) (hj : lv[j]? = some (i, .int v)) (hw : v + Int32.ofInt n = w) (hlv : (i, Value.int w) :: lv.filter (fun q => !(q.1 == i) && !(q.1 + 1 == i && q.2.category == 2)) = lv')
    (kk : J C ce sl M (pc + 3) lv' st) : J C ce sl M pc lv st := by
  obtain ⟨p, l, e, R, s, m, args, below, meth, c, H0, A, Q, nL0, G, ad0, n0⟩ := C
  obtain ⟨hx, hb, hml, hnl, hown, hts, hKK, hH0, hA, hlk, hrt, hR, hQ, hxt⟩ := hC
  intro ad H locs ls hW hAa hag hn hvl hvs hS hl
  subst hnl
  have h9 := mp_st1 (ad := ad) hlv
  exact lv_iinc hx hb hdg hl (mp_at hj) hw hi h9 (fun ls hl => kk ad H locs ls hW hAa hag hn (vl_st hlv Vok_int hvl) hvs hS hl)
theorem J_iadd {C : JC} {x : Bool} {cc : ByteArray} {nL : Nat} {rm : Room} {rt : Option FieldType} {own : String} {res : Res} {ce sl : Nat} {M : Mem} {pc : Nat} {lv : List (Nat × Value)} {st : List Value} {a b : Int32} (hC : Ok C x cc nL rm rt own res) (hdg : decode cc pc = .ok (.iadd, 1))
    (kk : J C ce sl M (pc + 1) lv (.int (a + b) :: st)) : J C ce sl M pc lv (.int b :: .int a :: st) := by
  obtain ⟨p, l, e, R, s, m, args, below, meth, c, H0, A, Q, nL0, G, ad0, n0⟩ := C
  obtain ⟨hx, hb, hml, hnl, hown, hts, hKK, hH0, hA, hlk, hrt, hR, hQ, hxt⟩ := hC
  intro ad H locs ls hW hAa hag hn hvl hvs hS hl
  exact lv_iadd hx hb hdg (kk ad H locs ls hW hAa hag hn hvl (vs_c Vok_int (vs_t (vs_t hvs))) hS hl)
theorem J_isub {C : JC} {x : Bool} {cc : ByteArray} {nL : Nat} {rm : Room} {rt : Option FieldType} {own : String} {res : Res} {ce sl : Nat} {M : Mem} {pc : Nat} {lv : List (Nat × Value)} {st : List Value} {a b : Int32} (hC : Ok C x cc nL rm rt own res) (hdg : decode cc pc = .ok (.isub, 1))
    (kk : J C ce sl M (pc + 1) lv (.int (a - b) :: st)) : J C ce sl M pc lv (.int b :: .int a :: st) := by
  obtain ⟨p, l, e, R, s, m, args, below, meth, c, H0, A, Q, nL0, G, ad0, n0⟩ := C
  obtain ⟨hx, hb, hml, hnl, hown, hts, hKK, hH0, hA, hlk, hrt, hR, hQ, hxt⟩ := hC
  intro ad H locs ls hW hAa hag hn hvl hvs hS hl
  exact lv_isub hx hb hdg (kk ad H locs ls hW hAa hag hn hvl (vs_c Vok_int (vs_t (vs_t hvs))) hS hl)
theorem J_imul {C : JC} {x : Bool} {cc : ByteArray} {nL : Nat} {rm : Room} {rt : Option FieldType} {own : String} {res : Res} {ce sl : Nat} {M : Mem} {pc : Nat} {lv : List (Nat × Value)} {st : List Value} {a b : Int32} (hC : Ok C x cc nL rm rt own res) (hdg : decode cc pc = .ok (.imul, 1))
    (kk : J C ce sl M (pc + 1) lv (.int (a * b) :: st)) : J C ce sl M pc lv (.int b :: .int a :: st) := by
  obtain ⟨p, l, e, R, s, m, args, below, meth, c, H0, A, Q, nL0, G, ad0, n0⟩ := C
  obtain ⟨hx, hb, hml, hnl, hown, hts, hKK, hH0, hA, hlk, hrt, hR, hQ, hxt⟩ := hC
  intro ad H locs ls hW hAa hag hn hvl hvs hS hl
  exact lv_imul hx hb hdg (kk ad H locs ls hW hAa hag hn hvl (vs_c Vok_int (vs_t (vs_t hvs))) hS hl)
theorem J_iand {C : JC} {x : Bool} {cc : ByteArray} {nL : Nat} {rm : Room} {rt : Option FieldType} {own : String} {res : Res} {ce sl : Nat} {M : Mem} {pc : Nat} {lv : List (Nat × Value)} {st : List Value} {a b : Int32} (hC : Ok C x cc nL rm rt own res) (hdg : decode cc pc = .ok (.iand, 1))
    (kk : J C ce sl M (pc + 1) lv (.int (a &&& b) :: st)) : J C ce sl M pc lv (.int b :: .int a :: st) := by
  obtain ⟨p, l, e, R, s, m, args, below, meth, c, H0, A, Q, nL0, G, ad0, n0⟩ := C
  obtain ⟨hx, hb, hml, hnl, hown, hts, hKK, hH0, hA, hlk, hrt, hR, hQ, hxt⟩ := hC
  intro ad H locs ls hW hAa hag hn hvl hvs hS hl
  exact lv_iand hx hb hdg (kk ad H locs ls hW hAa hag hn hvl (vs_c Vok_int (vs_t (vs_t hvs))) hS hl)
theorem J_ior {C : JC} {x : Bool} {cc : ByteArray} {nL : Nat} {rm : Room} {rt : Option FieldType} {own : String} {res : Res} {ce sl : Nat} {M : Mem} {pc : Nat} {lv : List (Nat × Value)} {st : List Value} {a b : Int32} (hC : Ok C x cc nL rm rt own res) (hdg : decode cc pc = .ok (.ior, 1))
    (kk : J C ce sl M (pc + 1) lv (.int (a ||| b) :: st)) : J C ce sl M pc lv (.int b :: .int a :: st) := by
  obtain ⟨p, l, e, R, s, m, args, below, meth, c, H0, A, Q, nL0, G, ad0, n0⟩ := C
  obtain ⟨hx, hb, hml, hnl, hown, hts, hKK, hH0, hA, hlk, hrt, hR, hQ, hxt⟩ := hC
  intro ad H locs ls hW hAa hag hn hvl hvs hS hl
  exact lv_ior hx hb hdg (kk ad H locs ls hW hAa hag hn hvl (vs_c Vok_int (vs_t (vs_t hvs))) hS hl)
theorem J_ladd {C : JC} {x : Bool} {cc : ByteArray} {nL : Nat} {rm : Room} {rt : Option FieldType} {own : String} {res : Res} {ce sl : Nat} {M : Mem} {pc : Nat} {lv : List (Nat × Value)} {st : List Value} {a b : Int64} (hC : Ok C x cc nL rm rt own res) (hdg : decode cc pc = .ok (.ladd, 1))
    (kk : J C ce sl M (pc + 1) lv (.long (a + b) :: st)) : J C ce sl M pc lv (.long b :: .long a :: st) := by
  obtain ⟨p, l, e, R, s, m, args, below, meth, c, H0, A, Q, nL0, G, ad0, n0⟩ := C
  obtain ⟨hx, hb, hml, hnl, hown, hts, hKK, hH0, hA, hlk, hrt, hR, hQ, hxt⟩ := hC
  intro ad H locs ls hW hAa hag hn hvl hvs hS hl
  exact lv_ladd hx hb hdg (kk ad H locs ls hW hAa hag hn hvl (vs_c Vok_long (vs_t (vs_t hvs))) hS hl)
theorem J_lsub {C : JC} {x : Bool} {cc : ByteArray} {nL : Nat} {rm : Room} {rt : Option FieldType} {own : String} {res : Res} {ce sl : Nat} {M : Mem} {pc : Nat} {lv : List (Nat × Value)} {st : List Value} {a b : Int64} (hC : Ok C x cc nL rm rt own res) (hdg : decode cc pc = .ok (.lsub, 1))
    (kk : J C ce sl M (pc + 1) lv (.long (a - b) :: st)) : J C ce sl M pc lv (.long b :: .long a :: st) := by
  obtain ⟨p, l, e, R, s, m, args, below, meth, c, H0, A, Q, nL0, G, ad0, n0⟩ := C
  obtain ⟨hx, hb, hml, hnl, hown, hts, hKK, hH0, hA, hlk, hrt, hR, hQ, hxt⟩ := hC
  intro ad H locs ls hW hAa hag hn hvl hvs hS hl
  exact lv_lsub hx hb hdg (kk ad H locs ls hW hAa hag hn hvl (vs_c Vok_long (vs_t (vs_t hvs))) hS hl)
theorem J_lmul {C : JC} {x : Bool} {cc : ByteArray} {nL : Nat} {rm : Room} {rt : Option FieldType} {own : String} {res : Res} {ce sl : Nat} {M : Mem} {pc : Nat} {lv : List (Nat × Value)} {st : List Value} {a b : Int64} (hC : Ok C x cc nL rm rt own res) (hdg : decode cc pc = .ok (.lmul, 1))
    (kk : J C ce sl M (pc + 1) lv (.long (a * b) :: st)) : J C ce sl M pc lv (.long b :: .long a :: st) := by
  obtain ⟨p, l, e, R, s, m, args, below, meth, c, H0, A, Q, nL0, G, ad0, n0⟩ := C
  obtain ⟨hx, hb, hml, hnl, hown, hts, hKK, hH0, hA, hlk, hrt, hR, hQ, hxt⟩ := hC
  intro ad H locs ls hW hAa hag hn hvl hvs hS hl
  exact lv_lmul hx hb hdg (kk ad H locs ls hW hAa hag hn hvl (vs_c Vok_long (vs_t (vs_t hvs))) hS hl)
theorem J_idiv {C : JC} {x : Bool} {cc : ByteArray} {nL : Nat} {rm : Room} {rt : Option FieldType} {own : String} {res : Res} {ce sl : Nat} {M : Mem} {pc : Nat} {lv : List (Nat × Value)} {st : List Value} {a b : Int32} (hC : Ok C x cc nL rm rt own res) (hdg : decode cc pc = .ok (.idiv, 1)) (h0 : ¬ b = 0)
    (kk : J C ce sl M (pc + 1) lv (.int (a / b) :: st)) : J C ce sl M pc lv (.int b :: .int a :: st) := by
  obtain ⟨p, l, e, R, s, m, args, below, meth, c, H0, A, Q, nL0, G, ad0, n0⟩ := C
  obtain ⟨hx, hb, hml, hnl, hown, hts, hKK, hH0, hA, hlk, hrt, hR, hQ, hxt⟩ := hC
  intro ad H locs ls hW hAa hag hn hvl hvs hS hl
  exact lv_idiv hx hb hdg h0 (kk ad H locs ls hW hAa hag hn hvl (vs_c Vok_int (vs_t (vs_t hvs))) hS hl)
theorem J_irem {C : JC} {x : Bool} {cc : ByteArray} {nL : Nat} {rm : Room} {rt : Option FieldType} {own : String} {res : Res} {ce sl : Nat} {M : Mem} {pc : Nat} {lv : List (Nat × Value)} {st : List Value} {a b : Int32} (hC : Ok C x cc nL rm rt own res) (hdg : decode cc pc = .ok (.irem, 1)) (h0 : ¬ b = 0)
    (kk : J C ce sl M (pc + 1) lv (.int (a - a / b * b) :: st)) : J C ce sl M pc lv (.int b :: .int a :: st) := by
  obtain ⟨p, l, e, R, s, m, args, below, meth, c, H0, A, Q, nL0, G, ad0, n0⟩ := C
  obtain ⟨hx, hb, hml, hnl, hown, hts, hKK, hH0, hA, hlk, hrt, hR, hQ, hxt⟩ := hC
  intro ad H locs ls hW hAa hag hn hvl hvs hS hl
  exact lv_irem hx hb hdg h0 (kk ad H locs ls hW hAa hag hn hvl (vs_c Vok_int (vs_t (vs_t hvs))) hS hl)
theorem J_ineg {C : JC} {x : Bool} {cc : ByteArray} {nL : Nat} {rm : Room} {rt : Option FieldType} {own : String} {res : Res} {ce sl : Nat} {M : Mem} {pc : Nat} {lv : List (Nat × Value)} {st : List Value} {a : Int32} (hC : Ok C x cc nL rm rt own res) (hdg : decode cc pc = .ok (.ineg, 1))
    (kk : J C ce sl M (pc + 1) lv (.int (-a) :: st)) : J C ce sl M pc lv (.int a :: st) := by
  obtain ⟨p, l, e, R, s, m, args, below, meth, c, H0, A, Q, nL0, G, ad0, n0⟩ := C
  obtain ⟨hx, hb, hml, hnl, hown, hts, hKK, hH0, hA, hlk, hrt, hR, hQ, hxt⟩ := hC
  intro ad H locs ls hW hAa hag hn hvl hvs hS hl
  exact lv_ineg hx hb hdg (kk ad H locs ls hW hAa hag hn hvl (vs_c Vok_int (vs_t hvs)) hS hl)
theorem J_i2l {C : JC} {x : Bool} {cc : ByteArray} {nL : Nat} {rm : Room} {rt : Option FieldType} {own : String} {res : Res} {ce sl : Nat} {M : Mem} {pc : Nat} {lv : List (Nat × Value)} {st : List Value} {a : Int32} (hC : Ok C x cc nL rm rt own res) (hdg : decode cc pc = .ok (.i2l, 1))
    (kk : J C ce sl M (pc + 1) lv (.long a.toInt64 :: st)) : J C ce sl M pc lv (.int a :: st) := by
  obtain ⟨p, l, e, R, s, m, args, below, meth, c, H0, A, Q, nL0, G, ad0, n0⟩ := C
  obtain ⟨hx, hb, hml, hnl, hown, hts, hKK, hH0, hA, hlk, hrt, hR, hQ, hxt⟩ := hC
  intro ad H locs ls hW hAa hag hn hvl hvs hS hl
  exact lv_i2l hx hb hdg rfl (kk ad H locs ls hW hAa hag hn hvl (vs_c Vok_long (vs_t hvs)) hS hl)
theorem J_i2d {C : JC} {x : Bool} {cc : ByteArray} {nL : Nat} {rm : Room} {rt : Option FieldType} {own : String} {res : Res} {ce sl : Nat} {M : Mem} {pc : Nat} {lv : List (Nat × Value)} {st : List Value} {a : Int32} (hC : Ok C x cc nL rm rt own res) (hdg : decode cc pc = .ok (.i2d, 1))
    (kk : J C ce sl M (pc + 1) lv (.double (FP.i2d a) :: st)) : J C ce sl M pc lv (.int a :: st) := by
  obtain ⟨p, l, e, R, s, m, args, below, meth, c, H0, A, Q, nL0, G, ad0, n0⟩ := C
  obtain ⟨hx, hb, hml, hnl, hown, hts, hKK, hH0, hA, hlk, hrt, hR, hQ, hxt⟩ := hC
  intro ad H locs ls hW hAa hag hn hvl hvs hS hl
  exact lv_i2d hx hb hdg (kk ad H locs ls hW hAa hag hn hvl (vs_c Vok_double (vs_t hvs)) hS hl)
theorem J_d2l {C : JC} {x : Bool} {cc : ByteArray} {nL : Nat} {rm : Room} {rt : Option FieldType} {own : String} {res : Res} {ce sl : Nat} {M : Mem} {pc : Nat} {lv : List (Nat × Value)} {st : List Value} {a : UInt64} (hC : Ok C x cc nL rm rt own res) (hdg : decode cc pc = .ok (.d2l, 1))
    (kk : J C ce sl M (pc + 1) lv (.long (FP.d2l a) :: st)) : J C ce sl M pc lv (.double a :: st) := by
  obtain ⟨p, l, e, R, s, m, args, below, meth, c, H0, A, Q, nL0, G, ad0, n0⟩ := C
  obtain ⟨hx, hb, hml, hnl, hown, hts, hKK, hH0, hA, hlk, hrt, hR, hQ, hxt⟩ := hC
  intro ad H locs ls hW hAa hag hn hvl hvs hS hl
  exact lv_d2l hx hb hdg (kk ad H locs ls hW hAa hag hn hvl (vs_c Vok_long (vs_t hvs)) hS hl)
theorem J_lshl {C : JC} {x : Bool} {cc : ByteArray} {nL : Nat} {rm : Room} {rt : Option FieldType} {own : String} {res : Res} {ce sl : Nat} {M : Mem} {pc : Nat} {lv : List (Nat × Value)} {st : List Value} {a : Int64} {b : Int32} (hC : Ok C x cc nL rm rt own res) (hdg : decode cc pc = .ok (.lshl, 1))
    (kk : J C ce sl M (pc + 1) lv (.long (a <<< (b.toInt64 &&& 63)) :: st)) : J C ce sl M pc lv (.int b :: .long a :: st) := by
  obtain ⟨p, l, e, R, s, m, args, below, meth, c, H0, A, Q, nL0, G, ad0, n0⟩ := C
  obtain ⟨hx, hb, hml, hnl, hown, hts, hKK, hH0, hA, hlk, hrt, hR, hQ, hxt⟩ := hC
  intro ad H locs ls hW hAa hag hn hvl hvs hS hl
  exact lv_lshl hx hb hdg rfl (kk ad H locs ls hW hAa hag hn hvl (vs_c Vok_long (vs_t (vs_t hvs))) hS hl)
theorem J_lcmp {C : JC} {x : Bool} {cc : ByteArray} {nL : Nat} {rm : Room} {rt : Option FieldType} {own : String} {res : Res} {ce sl : Nat} {M : Mem} {pc : Nat} {lv : List (Nat × Value)} {st : List Value} {a b : Int64} (hC : Ok C x cc nL rm rt own res) (hdg : decode cc pc = .ok (.lcmp, 1))
    (kk : J C ce sl M (pc + 1) lv (.int (lg_cmp a b) :: st)) : J C ce sl M pc lv (.long b :: .long a :: st) := by
  obtain ⟨p, l, e, R, s, m, args, below, meth, c, H0, A, Q, nL0, G, ad0, n0⟩ := C
  obtain ⟨hx, hb, hml, hnl, hown, hts, hKK, hH0, hA, hlk, hrt, hR, hQ, hxt⟩ := hC
  intro ad H locs ls hW hAa hag hn hvl hvs hS hl
  exact W.lcmp hx hb hdg (kk ad H locs ls hW hAa hag hn hvl (vs_c Vok_int (vs_t (vs_t hvs))) hS hl)
theorem J_ddiv {C : JC} {x : Bool} {cc : ByteArray} {nL : Nat} {rm : Room} {rt : Option FieldType} {own : String} {res : Res} {ce sl : Nat} {M : Mem} {pc : Nat} {lv : List (Nat × Value)} {st : List Value} {a b : UInt64} (hC : Ok C x cc nL rm rt own res) (hdg : decode cc pc = .ok (.ddiv, 1)) (h0 : vf_n64 (FP.ddiv a b))
    (kk : J C ce sl M (pc + 1) lv (.double (FP.ddiv a b) :: st)) : J C ce sl M pc lv (.double b :: .double a :: st) := by
  obtain ⟨p, l, e, R, s, m, args, below, meth, c, H0, A, Q, nL0, G, ad0, n0⟩ := C
  obtain ⟨hx, hb, hml, hnl, hown, hts, hKK, hH0, hA, hlk, hrt, hR, hQ, hxt⟩ := hC
  intro ad H locs ls hW hAa hag hn hvl hvs hS hl
  exact lv_ddiv hx hb hdg h0 (kk ad H locs ls hW hAa hag hn hvl (vs_c Vok_double (vs_t (vs_t hvs))) hS hl)
theorem J_dmul {C : JC} {x : Bool} {cc : ByteArray} {nL : Nat} {rm : Room} {rt : Option FieldType} {own : String} {res : Res} {ce sl : Nat} {M : Mem} {pc : Nat} {lv : List (Nat × Value)} {st : List Value} {a b : UInt64} (hC : Ok C x cc nL rm rt own res) (hdg : decode cc pc = .ok (.dmul, 1)) (h0 : vf_n64 (FP.dmul a b))
    (kk : J C ce sl M (pc + 1) lv (.double (FP.dmul a b) :: st)) : J C ce sl M pc lv (.double b :: .double a :: st) := by
  obtain ⟨p, l, e, R, s, m, args, below, meth, c, H0, A, Q, nL0, G, ad0, n0⟩ := C
  obtain ⟨hx, hb, hml, hnl, hown, hts, hKK, hH0, hA, hlk, hrt, hR, hQ, hxt⟩ := hC
  intro ad H locs ls hW hAa hag hn hvl hvs hS hl
  exact lv_dmul hx hb hdg h0 (kk ad H locs ls hW hAa hag hn hvl (vs_c Vok_double (vs_t (vs_t hvs))) hS hl)
theorem J_dsub {C : JC} {x : Bool} {cc : ByteArray} {nL : Nat} {rm : Room} {rt : Option FieldType} {own : String} {res : Res} {ce sl : Nat} {M : Mem} {pc : Nat} {lv : List (Nat × Value)} {st : List Value} {a b : UInt64} (hC : Ok C x cc nL rm rt own res) (hdg : decode cc pc = .ok (.dsub, 1)) (h0 : vf_n64 (FP.dsub a b))
    (kk : J C ce sl M (pc + 1) lv (.double (FP.dsub a b) :: st)) : J C ce sl M pc lv (.double b :: .double a :: st) := by
  obtain ⟨p, l, e, R, s, m, args, below, meth, c, H0, A, Q, nL0, G, ad0, n0⟩ := C
  obtain ⟨hx, hb, hml, hnl, hown, hts, hKK, hH0, hA, hlk, hrt, hR, hQ, hxt⟩ := hC
  intro ad H locs ls hW hAa hag hn hvl hvs hS hl
  exact lv_dsub hx hb hdg h0 (kk ad H locs ls hW hAa hag hn hvl (vs_c Vok_double (vs_t (vs_t hvs))) hS hl)
theorem J_dup {C : JC} {x : Bool} {cc : ByteArray} {nL : Nat} {rm : Room} {rt : Option FieldType} {own : String} {res : Res} {ce sl : Nat} {M : Mem} {pc : Nat} {lv : List (Nat × Value)} {st : List Value} {v : Value} (hC : Ok C x cc nL rm rt own res) (hdg : decode cc pc = .ok (.dup, 1)) (h1 : v.category = 1)
    (kk : J C ce sl M (pc + 1) lv (v :: v :: st)) : J C ce sl M pc lv (v :: st) := by
  obtain ⟨p, l, e, R, s, m, args, below, meth, c, H0, A, Q, nL0, G, ad0, n0⟩ := C
  obtain ⟨hx, hb, hml, hnl, hown, hts, hKK, hH0, hA, hlk, hrt, hR, hQ, hxt⟩ := hC
  intro ad H locs ls hW hAa hag hn hvl hvs hS hl
  exact lv_dup hx hb hdg (by rw [cat_phys]; exact h1) (kk ad H locs ls hW hAa hag hn hvl (vs_c (vs_h hvs) hvs) hS hl)
theorem J_dup2 {C : JC} {x : Bool} {cc : ByteArray} {nL : Nat} {rm : Room} {rt : Option FieldType} {own : String} {res : Res} {ce sl : Nat} {M : Mem} {pc : Nat} {lv : List (Nat × Value)} {st : List Value} {v w : Value} (hC : Ok C x cc nL rm rt own res) (hdg : decode cc pc = .ok (.dup2, 1)) (h1 : v.category = 1) (h2 : w.category = 1)
    (kk : J C ce sl M (pc + 1) lv (v :: w :: v :: w :: st)) : J C ce sl M pc lv (v :: w :: st) := by
  obtain ⟨p, l, e, R, s, m, args, below, meth, c, H0, A, Q, nL0, G, ad0, n0⟩ := C
  obtain ⟨hx, hb, hml, hnl, hown, hts, hKK, hH0, hA, hlk, hrt, hR, hQ, hxt⟩ := hC
  intro ad H locs ls hW hAa hag hn hvl hvs hS hl
  exact lv_dup2_11 hx hb hdg (by rw [cat_phys]; exact h1) (by rw [cat_phys]; exact h2) (kk ad H locs ls hW hAa hag hn hvl (vs_c (vs_h hvs) (vs_c (vs_h (vs_t hvs)) hvs)) hS hl)
theorem J_if_eq {C : JC} {x : Bool} {cc : ByteArray} {nL : Nat} {rm : Room} {rt : Option FieldType} {own : String} {res : Res} {ce sl : Nat} {M : Mem} {pc : Nat} {lv : List (Nat × Value)} {st : List Value} {a : Int32} {off : Int} {tgt : Nat} (hC : Ok C x cc nL rm rt own res) (hdg : decode cc pc = .ok (.ifCond .eq off, 3)) (ht : (pc : Int) + off = (tgt : Int))
    (kt : a = 0 → J C ce sl M tgt lv st) (kf : ¬ (a = 0) → J C ce sl M (pc + 3) lv st) : J C ce sl M pc lv (.int a :: st) := by
  obtain ⟨p, l, e, R, s, m, args, below, meth, c, H0, A, Q, nL0, G, ad0, n0⟩ := C
  obtain ⟨hx, hb, hml, hnl, hown, hts, hKK, hH0, hA, hlk, hrt, hR, hQ, hxt⟩ := hC
  intro ad H locs ls hW hAa hag hn hvl hvs hS hl
  exact lv_if_eq hx hb hdg ht (fun h => kt h ad H locs ls hW hAa hag hn hvl (vs_t hvs) hS hl) (fun h => kf h ad H locs ls hW hAa hag hn hvl (vs_t hvs) hS hl)
theorem J_icmp_eq {C : JC} {x : Bool} {cc : ByteArray} {nL : Nat} {rm : Room} {rt : Option FieldType} {own : String} {res : Res} {ce sl : Nat} {M : Mem} {pc : Nat} {lv : List (Nat × Value)} {st : List Value} {a b : Int32} {off : Int} {tgt : Nat} (hC : Ok C x cc nL rm rt own res) (hdg : decode cc pc = .ok (.if_icmp .eq off, 3)) (ht : (pc : Int) + off = (tgt : Int))
    (kt : a = b → J C ce sl M tgt lv st) (kf : ¬ (a = b) → J C ce sl M (pc + 3) lv st) : J C ce sl M pc lv (.int b :: .int a :: st) := by
  obtain ⟨p, l, e, R, s, m, args, below, meth, c, H0, A, Q, nL0, G, ad0, n0⟩ := C
  obtain ⟨hx, hb, hml, hnl, hown, hts, hKK, hH0, hA, hlk, hrt, hR, hQ, hxt⟩ := hC
  intro ad H locs ls hW hAa hag hn hvl hvs hS hl
  exact lv_icmp_eq hx hb hdg ht (fun h => kt h ad H locs ls hW hAa hag hn hvl (vs_t (vs_t hvs)) hS hl) (fun h => kf h ad H locs ls hW hAa hag hn hvl (vs_t (vs_t hvs)) hS hl)
theorem J_if_lt {C : JC} {x : Bool} {cc : ByteArray} {nL : Nat} {rm : Room} {rt : Option FieldType} {own : String} {res : Res} {ce sl : Nat} {M : Mem} {pc : Nat} {lv : List (Nat × Value)} {st : List Value} {a : Int32} {off : Int} {tgt : Nat} (hC : Ok C x cc nL rm rt own res) (hdg : decode cc pc = .ok (.ifCond .lt off, 3)) (ht : (pc : Int) + off = (tgt : Int))
    (kt : a < 0 → J C ce sl M tgt lv st) (kf : ¬ (a < 0) → J C ce sl M (pc + 3) lv st) : J C ce sl M pc lv (.int a :: st) := by
  obtain ⟨p, l, e, R, s, m, args, below, meth, c, H0, A, Q, nL0, G, ad0, n0⟩ := C
  obtain ⟨hx, hb, hml, hnl, hown, hts, hKK, hH0, hA, hlk, hrt, hR, hQ, hxt⟩ := hC
  intro ad H locs ls hW hAa hag hn hvl hvs hS hl
  exact lv_if_lt hx hb hdg ht (fun h => kt h ad H locs ls hW hAa hag hn hvl (vs_t hvs) hS hl) (fun h => kf h ad H locs ls hW hAa hag hn hvl (vs_t hvs) hS hl)
theorem J_icmp_lt {C : JC} {x : Bool} {cc : ByteArray} {nL : Nat} {rm : Room} {rt : Option FieldType} {own : String} {res : Res} {ce sl : Nat} {M : Mem} {pc : Nat} {lv : List (Nat × Value)} {st : List Value} {a b : Int32} {off : Int} {tgt : Nat} (hC : Ok C x cc nL rm rt own res) (hdg : decode cc pc = .ok (.if_icmp .lt off, 3)) (ht : (pc : Int) + off = (tgt : Int))
    (kt : a < b → J C ce sl M tgt lv st) (kf : ¬ (a < b) → J C ce sl M (pc + 3) lv st) : J C ce sl M pc lv (.int b :: .int a :: st) := by
  obtain ⟨p, l, e, R, s, m, args, below, meth, c, H0, A, Q, nL0, G, ad0, n0⟩ := C
  obtain ⟨hx, hb, hml, hnl, hown, hts, hKK, hH0, hA, hlk, hrt, hR, hQ, hxt⟩ := hC
  intro ad H locs ls hW hAa hag hn hvl hvs hS hl
  exact lv_icmp_lt hx hb hdg ht (fun h => kt h ad H locs ls hW hAa hag hn hvl (vs_t (vs_t hvs)) hS hl) (fun h => kf h ad H locs ls hW hAa hag hn hvl (vs_t (vs_t hvs)) hS hl)
theorem J_if_ge {C : JC} {x : Bool} {cc : ByteArray} {nL : Nat} {rm : Room} {rt : Option FieldType} {own : String} {res : Res} {ce sl : Nat} {M : Mem} {pc : Nat} {lv : List (Nat × Value)} {st : List Value} {a : Int32} {off : Int} {tgt : Nat} (hC : Ok C x cc nL rm rt own res) (hdg : decode cc pc = .ok (.ifCond .ge off, 3)) (ht : (pc : Int) + off = (tgt : Int))
    (kt : 0 ≤ a → J C ce sl M tgt lv st) (kf : ¬ (0 ≤ a) → J C ce sl M (pc + 3) lv st) : J C ce sl M pc lv (.int a :: st) := by
  obtain ⟨p, l, e, R, s, m, args, below, meth, c, H0, A, Q, nL0, G, ad0, n0⟩ := C
  obtain ⟨hx, hb, hml, hnl, hown, hts, hKK, hH0, hA, hlk, hrt, hR, hQ, hxt⟩ := hC
  intro ad H locs ls hW hAa hag hn hvl hvs hS hl
  exact lv_if_ge hx hb hdg ht (fun h => kt h ad H locs ls hW hAa hag hn hvl (vs_t hvs) hS hl) (fun h => kf h ad H locs ls hW hAa hag hn hvl (vs_t hvs) hS hl)
theorem J_icmp_ge {C : JC} {x : Bool} {cc : ByteArray} {nL : Nat} {rm : Room} {rt : Option FieldType} {own : String} {res : Res} {ce sl : Nat} {M : Mem} {pc : Nat} {lv : List (Nat × Value)} {st : List Value} {a b : Int32} {off : Int} {tgt : Nat} (hC : Ok C x cc nL rm rt own res) (hdg : decode cc pc = .ok (.if_icmp .ge off, 3)) (ht : (pc : Int) + off = (tgt : Int))
    (kt : b ≤ a → J C ce sl M tgt lv st) (kf : ¬ (b ≤ a) → J C ce sl M (pc + 3) lv st) : J C ce sl M pc lv (.int b :: .int a :: st) := by
  obtain ⟨p, l, e, R, s, m, args, below, meth, c, H0, A, Q, nL0, G, ad0, n0⟩ := C
  obtain ⟨hx, hb, hml, hnl, hown, hts, hKK, hH0, hA, hlk, hrt, hR, hQ, hxt⟩ := hC
  intro ad H locs ls hW hAa hag hn hvl hvs hS hl
  exact lv_icmp_ge hx hb hdg ht (fun h => kt h ad H locs ls hW hAa hag hn hvl (vs_t (vs_t hvs)) hS hl) (fun h => kf h ad H locs ls hW hAa hag hn hvl (vs_t (vs_t hvs)) hS hl)
theorem J_if_gt {C : JC} {x : Bool} {cc : ByteArray} {nL : Nat} {rm : Room} {rt : Option FieldType} {own : String} {res : Res} {ce sl : Nat} {M : Mem} {pc : Nat} {lv : List (Nat × Value)} {st : List Value} {a : Int32} {off : Int} {tgt : Nat} (hC : Ok C x cc nL rm rt own res) (hdg : decode cc pc = .ok (.ifCond .gt off, 3)) (ht : (pc : Int) + off = (tgt : Int))
    (kt : 0 < a → J C ce sl M tgt lv st) (kf : ¬ (0 < a) → J C ce sl M (pc + 3) lv st) : J C ce sl M pc lv (.int a :: st) := by
  obtain ⟨p, l, e, R, s, m, args, below, meth, c, H0, A, Q, nL0, G, ad0, n0⟩ := C
  obtain ⟨hx, hb, hml, hnl, hown, hts, hKK, hH0, hA, hlk, hrt, hR, hQ, hxt⟩ := hC
  intro ad H locs ls hW hAa hag hn hvl hvs hS hl
  exact lv_if_gt hx hb hdg ht (fun h => kt h ad H locs ls hW hAa hag hn hvl (vs_t hvs) hS hl) (fun h => kf h ad H locs ls hW hAa hag hn hvl (vs_t hvs) hS hl)
theorem J_icmp_gt {C : JC} {x : Bool} {cc : ByteArray} {nL : Nat} {rm : Room} {rt : Option FieldType} {own : String} {res : Res} {ce sl : Nat} {M : Mem} {pc : Nat} {lv : List (Nat × Value)} {st : List Value} {a b : Int32} {off : Int} {tgt : Nat} (hC : Ok C x cc nL rm rt own res) (hdg : decode cc pc = .ok (.if_icmp .gt off, 3)) (ht : (pc : Int) + off = (tgt : Int))
    (kt : b < a → J C ce sl M tgt lv st) (kf : ¬ (b < a) → J C ce sl M (pc + 3) lv st) : J C ce sl M pc lv (.int b :: .int a :: st) := by
  obtain ⟨p, l, e, R, s, m, args, below, meth, c, H0, A, Q, nL0, G, ad0, n0⟩ := C
  obtain ⟨hx, hb, hml, hnl, hown, hts, hKK, hH0, hA, hlk, hrt, hR, hQ, hxt⟩ := hC
  intro ad H locs ls hW hAa hag hn hvl hvs hS hl
  exact lv_icmp_gt hx hb hdg ht (fun h => kt h ad H locs ls hW hAa hag hn hvl (vs_t (vs_t hvs)) hS hl) (fun h => kf h ad H locs ls hW hAa hag hn hvl (vs_t (vs_t hvs)) hS hl)
theorem J_if_le {C : JC} {x : Bool} {cc : ByteArray} {nL : Nat} {rm : Room} {rt : Option FieldType} {own : String} {res : Res} {ce sl : Nat} {M : Mem} {pc : Nat} {lv : List (Nat × Value)} {st : List Value} {a : Int32} {off : Int} {tgt : Nat} (hC : Ok C x cc nL rm rt own res) (hdg : decode cc pc = .ok (.ifCond .le off, 3)) (ht : (pc : Int) + off = (tgt : Int))
    (kt : a ≤ 0 → J C ce sl M tgt lv st) (kf : ¬ (a ≤ 0) → J C ce sl M (pc + 3) lv st) : J C ce sl M pc lv (.int a :: st) := by
  obtain ⟨p, l, e, R, s, m, args, below, meth, c, H0, A, Q, nL0, G, ad0, n0⟩ := C
  obtain ⟨hx, hb, hml, hnl, hown, hts, hKK, hH0, hA, hlk, hrt, hR, hQ, hxt⟩ := hC
  intro ad H locs ls hW hAa hag hn hvl hvs hS hl
  exact lv_if_le hx hb hdg ht (fun h => kt h ad H locs ls hW hAa hag hn hvl (vs_t hvs) hS hl) (fun h => kf h ad H locs ls hW hAa hag hn hvl (vs_t hvs) hS hl)
theorem J_icmp_le {C : JC} {x : Bool} {cc : ByteArray} {nL : Nat} {rm : Room} {rt : Option FieldType} {own : String} {res : Res} {ce sl : Nat} {M : Mem} {pc : Nat} {lv : List (Nat × Value)} {st : List Value} {a b : Int32} {off : Int} {tgt : Nat} (hC : Ok C x cc nL rm rt own res) (hdg : decode cc pc = .ok (.if_icmp .le off, 3)) (ht : (pc : Int) + off = (tgt : Int))
    (kt : a ≤ b → J C ce sl M tgt lv st) (kf : ¬ (a ≤ b) → J C ce sl M (pc + 3) lv st) : J C ce sl M pc lv (.int b :: .int a :: st) := by
  obtain ⟨p, l, e, R, s, m, args, below, meth, c, H0, A, Q, nL0, G, ad0, n0⟩ := C
  obtain ⟨hx, hb, hml, hnl, hown, hts, hKK, hH0, hA, hlk, hrt, hR, hQ, hxt⟩ := hC
  intro ad H locs ls hW hAa hag hn hvl hvs hS hl
  exact lv_icmp_le hx hb hdg ht (fun h => kt h ad H locs ls hW hAa hag hn hvl (vs_t (vs_t hvs)) hS hl) (fun h => kf h ad H locs ls hW hAa hag hn hvl (vs_t (vs_t hvs)) hS hl)
theorem J_if_ne {C : JC} {x : Bool} {cc : ByteArray} {nL : Nat} {rm : Room} {rt : Option FieldType} {own : String} {res : Res} {ce sl : Nat} {M : Mem} {pc : Nat} {lv : List (Nat × Value)} {st : List Value} {a : Int32} {off : Int} {tgt : Nat} (hC : Ok C x cc nL rm rt own res) (hdg : decode cc pc = .ok (.ifCond .ne off, 3)) (ht : (pc : Int) + off = (tgt : Int))
    (kt : ¬ (a = 0) → J C ce sl M tgt lv st) (kf : a = 0 → J C ce sl M (pc + 3) lv st) : J C ce sl M pc lv (.int a :: st) := by
  obtain ⟨p, l, e, R, s, m, args, below, meth, c, H0, A, Q, nL0, G, ad0, n0⟩ := C
  obtain ⟨hx, hb, hml, hnl, hown, hts, hKK, hH0, hA, hlk, hrt, hR, hQ, hxt⟩ := hC
  intro ad H locs ls hW hAa hag hn hvl hvs hS hl
  exact lv_if_ne hx hb hdg ht (fun h => kt h ad H locs ls hW hAa hag hn hvl (vs_t hvs) hS hl) (fun h => kf h ad H locs ls hW hAa hag hn hvl (vs_t hvs) hS hl)
theorem J_icmp_ne {C : JC} {x : Bool} {cc : ByteArray} {nL : Nat} {rm : Room} {rt : Option FieldType} {own : String} {res : Res} {ce sl : Nat} {M : Mem} {pc : Nat} {lv : List (Nat × Value)} {st : List Value} {a b : Int32} {off : Int} {tgt : Nat} (hC : Ok C x cc nL rm rt own res) (hdg : decode cc pc = .ok (.if_icmp .ne off, 3)) (ht : (pc : Int) + off = (tgt : Int))
    (kt : ¬ (a = b) → J C ce sl M tgt lv st) (kf : a = b → J C ce sl M (pc + 3) lv st) : J C ce sl M pc lv (.int b :: .int a :: st) := by
  obtain ⟨p, l, e, R, s, m, args, below, meth, c, H0, A, Q, nL0, G, ad0, n0⟩ := C
  obtain ⟨hx, hb, hml, hnl, hown, hts, hKK, hH0, hA, hlk, hrt, hR, hQ, hxt⟩ := hC
  intro ad H locs ls hW hAa hag hn hvl hvs hS hl
  exact lv_icmp_ne hx hb hdg ht (fun h => kt h ad H locs ls hW hAa hag hn hvl (vs_t (vs_t hvs)) hS hl) (fun h => kf h ad H locs ls hW hAa hag hn hvl (vs_t (vs_t hvs)) hS hl)
theorem J_goto {C : JC} {x : Bool} {cc : ByteArray} {nL : Nat} {rm : Room} {rt : Option FieldType} {own : String} {res : Res} {ce sl : Nat} {M : Mem} {pc : Nat} {lv : List (Nat × Value)} {st : List Value} {off : Int} {tgt : Nat} (hC : Ok C x cc nL rm rt own res) (hdg : decode cc pc = .ok (.goto off, 3)) (ht : (pc : Int) + off = (tgt : Int)) (kk : J C ce sl M tgt lv st) : J C ce sl M pc lv st := by
  obtain ⟨p, l, e, R, s, m, args, below, meth, c, H0, A, Q, nL0, G, ad0, n0⟩ := C
  obtain ⟨hx, hb, hml, hnl, hown, hts, hKK, hH0, hA, hlk, hrt, hR, hQ, hxt⟩ := hC
  intro ad H locs ls hW hAa hag hn hvl hvs hS hl
  exact lv_goto hx hb hdg ht (kk ad H locs ls hW hAa hag hn hvl hvs hS hl)
/-- fewer locals, in another order -/
theorem J_sub {C : JC} {ce sl : Nat} {M : Mem} {pc : Nat} {lv lv' : List (Nat × Value)} {st : List Value} (ks : List Nat) (h : lv_pick lv ks = lv') (kk : J C ce sl M pc lv' st) : J C ce sl M pc lv st := by
  obtain ⟨p, l, e, R, s, m, args, below, meth, c, H0, A, Q, nL0, G, ad0, n0⟩ := C
  intro ad H locs ls hW hAa hag hn hvl hvs hS hl
  refine kk ad H locs ls hW hAa hag hn (fun q hq => ?_) hvs hS (lv_sub hl ks ?_)
  · subst h
    obtain ⟨i, -, hi⟩ := List.mem_filterMap.mp hq
    exact hvl q (List.mem_of_getElem? hi)
  · subst h
    simp only [lv_pick, List.map_filterMap, List.getElem?_map]
theorem J_tableIn {C : JC} {x : Bool} {cc : ByteArray} {nL : Nat} {rm : Room} {rt : Option FieldType} {own : String} {res : Res} {ce sl : Nat} {M : Mem} {pc : Nat} {lv : List (Nat × Value)} {st : List Value} {dflt lo hi off : Int} {offs : Array Int} {len tgt : Nat} {a : Int32} (hC : Ok C x cc nL rm rt own res) (hdg : decode cc pc = .ok (.tableswitch dflt lo hi offs, len)) (h1 : ¬ a.toInt < lo) (h2 : ¬ hi < a.toInt) (ho : offs[(a.toInt - lo).toNat]? = some off) (ht : (pc : Int) + off = (tgt : Int)) (kk : J C ce sl M tgt lv st) : J C ce sl M pc lv (.int a :: st) := by
  obtain ⟨p, l, e, R, s, m, args, below, meth, c, H0, A, Q, nL0, G, ad0, n0⟩ := C
  obtain ⟨hx, hb, hml, hnl, hown, hts, hKK, hH0, hA, hlk, hrt, hR, hQ, hxt⟩ := hC
  intro ad H locs ls hW hAa hag hn hvl hvs hS hl
  exact lv_tableIn hx hb hdg h1 h2 ho ht (kk ad H locs ls hW hAa hag hn hvl (vs_t hvs) hS hl)
theorem J_tableOut {C : JC} {x : Bool} {cc : ByteArray} {nL : Nat} {rm : Room} {rt : Option FieldType} {own : String} {res : Res} {ce sl : Nat} {M : Mem} {pc : Nat} {lv : List (Nat × Value)} {st : List Value} {dflt lo hi : Int} {offs : Array Int} {len tgt : Nat} {a : Int32} (hC : Ok C x cc nL rm rt own res) (hdg : decode cc pc = .ok (.tableswitch dflt lo hi offs, len)) (h : a.toInt < lo ∨ hi < a.toInt) (ht : (pc : Int) + dflt = (tgt : Int)) (kk : J C ce sl M tgt lv st) : J C ce sl M pc lv (.int a :: st) := by
  obtain ⟨p, l, e, R, s, m, args, below, meth, c, H0, A, Q, nL0, G, ad0, n0⟩ := C
  obtain ⟨hx, hb, hml, hnl, hown, hts, hKK, hH0, hA, hlk, hrt, hR, hQ, hxt⟩ := hC
  intro ad H locs ls hW hAa hag hn hvl hvs hS hl
  exact lv_tableOut hx hb hdg h ht (kk ad H locs ls hW hAa hag hn hvl (vs_t hvs) hS hl)
theorem J_iret {C : JC} {x : Bool} {cc : ByteArray} {nL : Nat} {rm : Room} {rt : Option FieldType} {own : String} {res : Res} {ce sl : Nat} {M : Mem} {pc : Nat} {lv : List (Nat × Value)} {st : List Value} {v : Int32} (hC : Ok C x cc nL rm (some .int) own res) (hdg : decode cc pc = .ok (.ireturn, 1)) (h : (M, Sum.inr (some (Value.int v))) = res) (h1 : ce ≤ rm.cells) (h2 : sl ≤ rm.slots) : J C ce sl M pc lv [.int v] := by
  obtain ⟨p, l, e, R, s, m, args, below, meth, c, H0, A, Q, nL0, G, ad0, n0⟩ := C
  obtain ⟨hx, hb, hml, hnl, hown, hts, hKK, hH0, hA, hlk, hrt, hR, hQ, hxt⟩ := hC
  intro ad H locs ls hW hAa hag hn hvl hvs hS hl
  subst h
  refine W.widen h1 h2 ?_
  have key : ∀ t : State, t.heap = H → s.WarmedH t.vm → Qret G ad0 n0 A (M, Sum.inr (some (Value.int v))) args s (.returned (some (.int v))) t := fun t ht hWm => ⟨⟨ad, _, rfl, rfl, hag, hn, by rw [ht]; exact hW, hAa, fun w hw => by cases hw; exact Vok_int⟩, (hH0 ▸ hS).F ht⟩
  have k2 : W p l e R s m args below meth c H locs rm.cells rm.slots (MQ below (Qret G ad0 n0 A (M, Sum.inr (some (Value.int v)))) args s rm.cells rm.slots A) (F0 m pc ls [.int v]) := W.iret hx hb hrt key hS.2.2 hdg hlk
  subst hQ
  cases x with
  | false => exact k2
  | true => exact vx_ret k2
theorem J_lret {C : JC} {x : Bool} {cc : ByteArray} {nL : Nat} {rm : Room} {rt : Option FieldType} {own : String} {res : Res} {ce sl : Nat} {M : Mem} {pc : Nat} {lv : List (Nat × Value)} {st : List Value} {v : Int64} (hC : Ok C x cc nL rm (some .long) own res) (hdg : decode cc pc = .ok (.lreturn, 1)) (h : (M, Sum.inr (some (Value.long v))) = res) (h1 : ce ≤ rm.cells) (h2 : sl ≤ rm.slots) : J C ce sl M pc lv [.long v] := by
  obtain ⟨p, l, e, R, s, m, args, below, meth, c, H0, A, Q, nL0, G, ad0, n0⟩ := C
  obtain ⟨hx, hb, hml, hnl, hown, hts, hKK, hH0, hA, hlk, hrt, hR, hQ, hxt⟩ := hC
  intro ad H locs ls hW hAa hag hn hvl hvs hS hl
  subst h
  refine W.widen h1 h2 ?_
  have key : ∀ t : State, t.heap = H → s.WarmedH t.vm → Qret G ad0 n0 A (M, Sum.inr (some (Value.long v))) args s (.returned (some (.long v))) t := fun t ht hWm => ⟨⟨ad, _, rfl, rfl, hag, hn, by rw [ht]; exact hW, hAa, fun w hw => by cases hw; exact Vok_long⟩, (hH0 ▸ hS).F ht⟩
  have k2 : W p l e R s m args below meth c H locs rm.cells rm.slots (MQ below (Qret G ad0 n0 A (M, Sum.inr (some (Value.long v)))) args s rm.cells rm.slots A) (F0 m pc ls [.long v]) := W.lret hx hb hrt key hS.2.2 hdg hlk
  subst hQ
  cases x with
  | false => exact k2
  | true => exact vx_ret k2
theorem J_dret {C : JC} {x : Bool} {cc : ByteArray} {nL : Nat} {rm : Room} {rt : Option FieldType} {own : String} {res : Res} {ce sl : Nat} {M : Mem} {pc : Nat} {lv : List (Nat × Value)} {st : List Value} {v : UInt64} (hC : Ok C x cc nL rm (some .double) own res) (hdg : decode cc pc = .ok (.dreturn, 1)) (h : (M, Sum.inr (some (Value.double v))) = res) (h1 : ce ≤ rm.cells) (h2 : sl ≤ rm.slots) : J C ce sl M pc lv [.double v] := by
  obtain ⟨p, l, e, R, s, m, args, below, meth, c, H0, A, Q, nL0, G, ad0, n0⟩ := C
  obtain ⟨hx, hb, hml, hnl, hown, hts, hKK, hH0, hA, hlk, hrt, hR, hQ, hxt⟩ := hC
  intro ad H locs ls hW hAa hag hn hvl hvs hS hl
  subst h
  refine W.widen h1 h2 ?_
  have key : ∀ t : State, t.heap = H → s.WarmedH t.vm → Qret G ad0 n0 A (M, Sum.inr (some (Value.double v))) args s (.returned (some (.double v))) t := fun t ht hWm => ⟨⟨ad, _, rfl, rfl, hag, hn, by rw [ht]; exact hW, hAa, fun w hw => by cases hw; exact Vok_double⟩, (hH0 ▸ hS).F ht⟩
  have k2 : W p l e R s m args below meth c H locs rm.cells rm.slots (MQ below (Qret G ad0 n0 A (M, Sum.inr (some (Value.double v)))) args s rm.cells rm.slots A) (F0 m pc ls [.double v]) := W.dret hx hb hrt key hS.2.2 hdg hlk
  subst hQ
  cases x with
  | false => exact k2
  | true => exact vx_ret k2
theorem J_zret {C : JC} {x : Bool} {cc : ByteArray} {nL : Nat} {rm : Room} {rt : Option FieldType} {own : String} {res : Res} {ce sl : Nat} {M : Mem} {pc : Nat} {lv : List (Nat × Value)} {st : List Value} {v : Int32} (hC : Ok C x cc nL rm (some .boolean) own res) (hdg : decode cc pc = .ok (.ireturn, 1)) (hz : narrow .boolean (.int v) = .int v) (h : (M, Sum.inr (some (Value.int v))) = res) (h1 : ce ≤ rm.cells) (h2 : sl ≤ rm.slots) : J C ce sl M pc lv [.int v] := by
  obtain ⟨p, l, e, R, s, m, args, below, meth, c, H0, A, Q, nL0, G, ad0, n0⟩ := C
  obtain ⟨hx, hb, hml, hnl, hown, hts, hKK, hH0, hA, hlk, hrt, hR, hQ, hxt⟩ := hC
  intro ad H locs ls hW hAa hag hn hvl hvs hS hl
  subst h
  refine W.widen h1 h2 ?_
  have key : ∀ t : State, t.heap = H → s.WarmedH t.vm → Qret G ad0 n0 A (M, Sum.inr (some (Value.int v))) args s (.returned (some (.int v))) t := fun t ht hWm => ⟨⟨ad, _, rfl, rfl, hag, hn, by rw [ht]; exact hW, hAa, fun w hw => by cases hw; exact Vok_int⟩, (hH0 ▸ hS).F ht⟩
  have k2 : W p l e R s m args below meth c H locs rm.cells rm.slots (MQ below (Qret G ad0 n0 A (M, Sum.inr (some (Value.int v)))) args s rm.cells rm.slots A) (F0 m pc ls [.int v]) := W.zret hx hb hrt hz key hS.2.2 hdg hlk
  subst hQ
  cases x with
  | false => exact k2
  | true => exact vx_ret k2
theorem J_vret {C : JC} {x : Bool} {cc : ByteArray} {nL : Nat} {rm : Room} {rt : Option FieldType} {own : String} {res : Res} {ce sl : Nat} {M : Mem} {pc : Nat} {lv : List (Nat × Value)} {st : List Value} (hC : Ok C x cc nL rm none own res) (hdg : decode cc pc = .ok (.return_, 1)) (h : (M, Sum.inr none) = res) (h1 : ce ≤ rm.cells) (h2 : sl ≤ rm.slots) : J C ce sl M pc lv [] := by
  obtain ⟨p, l, e, R, s, m, args, below, meth, c, H0, A, Q, nL0, G, ad0, n0⟩ := C
  obtain ⟨hx, hb, hml, hnl, hown, hts, hKK, hH0, hA, hlk, hrt, hR, hQ, hxt⟩ := hC
  intro ad H locs ls hW hAa hag hn hvl hvs hS hl
  subst h
  refine W.widen h1 h2 ?_
  have key : ∀ t : State, t.heap = H → s.WarmedH t.vm → Qret G ad0 n0 A (M, Sum.inr none) args s (.returned none) t := fun t ht hWm => ⟨⟨ad, none, rfl, rfl, hag, hn, by rw [ht]; exact hW, hAa, fun w hw => by cases hw⟩, (hH0 ▸ hS).F ht⟩
  have k2 : W p l e R s m args below meth c H locs rm.cells rm.slots (MQ below (Qret G ad0 n0 A (M, Sum.inr none)) args s rm.cells rm.slots A) (F0 m pc ls []) := W.vret hx hb hrt key hS.2.2 hdg hlk
  subst hQ
  cases x with
  | false => exact k2
  | true => exact vx_ret k2
end
section
/-! ===== pure reads and writes ===== -/
def okR (M : Mem) (i k : Nat) : Bool := (mR M i k).all (fun j => decide (j < M.1))
def gI (ci k : Nat) (M : Mem) (a : Option Nat) : Option Int32 := a.bind fun i => if i < M.1 ∧ kd i = ci then some (mI M i k) else none
def gJ (ci k : Nat) (M : Mem) (a : Option Nat) : Option Int64 := a.bind fun i => if i < M.1 ∧ kd i = ci then some (mJ M i k) else none
def gR (ci k : Nat) (M : Mem) (a : Option Nat) : Option (Option Nat) := a.bind fun i => if i < M.1 ∧ kd i = ci ∧ okR M i k = true then some (mR M i k) else none
def pI (ci k : Nat) (M : Mem) (a : Option Nat) (v : Int32) : Option Mem := a.bind fun i => if i < M.1 ∧ kd i = ci then some (sI M i k v) else none
def pJ (ci k : Nat) (M : Mem) (a : Option Nat) (v : Int64) : Option Mem := a.bind fun i => if i < M.1 ∧ kd i = ci then some (sJ M i k v) else none
def pR (ci k : Nat) (M : Mem) (a : Option Nat) (v : Option Nat) : Option Mem := a.bind fun i => if i < M.1 ∧ kd i = ci then some (sR M i k v) else none
def inR (x : Int32) (n : Nat) : Prop := ¬ x < 0 ∧ x.toNatClampNeg < n
def inRb (x : Int32) (n : Nat) : Bool := decide (¬ x < 0) && decide (x.toNatClampNeg < n)
theorem inRb_vp {x : Int32} {n : Nat} (h : inRb x n = true) : vp_in x n := by
  simp only [inRb, Bool.and_eq_true, decide_eq_true_eq] at h
  exact fun q => q.elim h.1 (fun r => absurd h.2 (Nat.not_lt.mpr r))
def aI (M : Mem) (a : Option Nat) (x : Int32) : Option Int32 := a.bind fun i => if i < M.1 ∧ kd i = 4 ∧ inRb x (ln i) = true then some (mI M i x.toNatClampNeg) else none
def aJ (M : Mem) (a : Option Nat) (x : Int32) : Option Int64 := a.bind fun i => if i < M.1 ∧ kd i = 5 ∧ inRb x (ln i) = true then some (mJ M i x.toNatClampNeg) else none
def aZ (M : Mem) (a : Option Nat) (x : Int32) : Option Int32 := a.bind fun i => if i < M.1 ∧ kd i = 6 ∧ inRb x (ln i) = true then some (mI M i x.toNatClampNeg) else none
def aD (M : Mem) (a : Option Nat) (x : Int32) : Option UInt64 := a.bind fun i => if i < M.1 ∧ kd i = 10 ∧ inRb x (ln i) = true then some (mD M i x.toNatClampNeg) else none
def aR (kk : Nat) (M : Mem) (a : Option Nat) (x : Int32) : Option (Option Nat) := a.bind fun i => if i < M.1 ∧ kd i = kk ∧ inRb x (ln i) = true ∧ okR M i x.toNatClampNeg = true then some (mR M i x.toNatClampNeg) else none
def wI (M : Mem) (a : Option Nat) (x : Int32) (v : Int32) : Option Mem := a.bind fun i => if i < M.1 ∧ kd i = 4 ∧ inRb x (ln i) = true then some (sI M i x.toNatClampNeg v) else none
def wJ (M : Mem) (a : Option Nat) (x : Int32) (v : Int64) : Option Mem := a.bind fun i => if i < M.1 ∧ kd i = 5 ∧ inRb x (ln i) = true then some (sJ M i x.toNatClampNeg v) else none
def wZ (M : Mem) (a : Option Nat) (x : Int32) (v : Int32) : Option Mem := a.bind fun i => if i < M.1 ∧ kd i = 6 ∧ inRb x (ln i) = true ∧ v = 1 then some (sI M i x.toNatClampNeg v) else none
def wD (M : Mem) (a : Option Nat) (x : Int32) (v : UInt64) : Option Mem := a.bind fun i => if i < M.1 ∧ kd i = 10 ∧ inRb x (ln i) = true then some (sD M i x.toNatClampNeg v) else none
def wR (kk kv : Nat) (M : Mem) (a : Option Nat) (x : Int32) (v : Option Nat) : Option Mem := a.bind fun i => v.bind fun j => if i < M.1 ∧ kd i = kk ∧ inRb x (ln i) = true ∧ j < M.1 ∧ kd j = kv then some (sR M i x.toNatClampNeg (some j)) else none
def aL (M : Mem) (a : Option Nat) : Option Int32 := a.bind fun i => if i < M.1 ∧ 4 ≤ kd i ∧ kd i ≤ 10 then some (Int32.ofNat (ln i)) else none
def sRow (M : Mem) (a : Nat) (f : Nat → Int32) : Mem := (M.1, (fun b j => if b = a then f j else mI M b j), mJ M, mR M, mD M)
def cpI (M : Mem) (a : Option Nat) (sp : Int32) (b : Option Nat) (dp n : Int32) : Option Mem := a.bind fun i => b.bind fun j =>
  if (i < M.1 ∧ kd i = 4 ∧ j < M.1 ∧ kd j = 4) ∧ (¬ sp < 0 ∧ ¬ dp < 0 ∧ ¬ n < 0) ∧ sp.toNatClampNeg + n.toNatClampNeg ≤ ln i ∧ dp.toNatClampNeg + n.toNatClampNeg ≤ ln j then some (sRow M j (va_cpy (mI M i) (mI M j) sp.toNatClampNeg dp.toNatClampNeg n.toNatClampNeg)) else none
theorem bnd {α β : Type} {o : Option α} {f : α → Option β} {r : β} (h : o.bind f = some r) : ∃ v, o = some v ∧ f v = some r := Option.bind_eq_some_iff.mp h
theorem okR_j {M : Mem} {i k : Nat} (h : okR M i k = true) : ∀ j, mR M i k = some j → j < M.1 := by
  intro j e
  simpa [okR, e] using h
theorem pool_D {G : Geo} {ad : Nat → Nat} {M : Mem} {H : Heap} {A : Nat → Prop} (h : Wd G ad M H) (hA : ∀ i, i < M.1 → A (ad i)) : va_D A (pool G ad M) := by
  have key : ∀ (k : Nat) (q : Nat × va_E), (pool G ad M)[k]? = some q → k < M.1 ∧ q.1 = ad k := by
    intro k q hq
    by_cases hk : k < M.1
    · rw [pool_at hk] at hq
      cases hq
      exact ⟨hk, rfl⟩
    · simp [pool, hk] at hq
  refine ⟨fun i j x y hi hj e => ?_, fun k q hk => ?_⟩
  · obtain ⟨i1, i2⟩ := key i x hi
    obtain ⟨j1, j2⟩ := key j y hj
    exact h.2 i j i1 j1 (by rw [← i2, ← j2]; exact e)
  · obtain ⟨k1, k2⟩ := key k q hk
    rw [k2]
    exact hA k k1
theorem ent_sRow_ne {G : Geo} {ad : Nat → Nat} {M : Mem} {a : Nat} {f : Nat → Int32} {j : Nat} (h : j ≠ a) : ent G ad (sRow M a f) j = ent G ad M j := by
  have e2 : mI (sRow M a f) j = mI M j := funext fun q => by show (if j = a then _ else _) = _; rw [if_neg h]
  simp only [ent, e2, show mR (sRow M a f) = mR M from rfl, show mJ (sRow M a f) = mJ M from rfl, show mD (sRow M a f) = mD M from rfl]
theorem up2_self {α : Type} (f : Nat → Nat → α) (a k : Nat) (v : α) (j : Nat) : up2 f a k v a j = if j = k then v else f a j := by simp [up2]
def isInit (C : JC) : Prop := match C with
  | (p, l, e, R, s, m, args, below, meth, c, H0, A, Q, nL0, G, ad0, n0) => meth.name = "<init>"
theorem w_acn : Cond.native arraycopyName ∈ BIG := by decide +kernel
theorem w_acs : Cond.static arraycopyName ∈ BIG := by decide +kernel
theorem w_aci : Cond.initialized "java/lang/System" ∈ BIG := by decide +kernel
theorem inB0 : ∀ w ∈ wsX00, w ∈ BIG := by decide +kernel
theorem inB1 : ∀ w ∈ wsX10, w ∈ BIG := by decide +kernel
theorem inB2 : ∀ w ∈ wsX20, w ∈ BIG := by decide +kernel
theorem inB3 : ∀ w ∈ wsX30, w ∈ BIG := by decide +kernel
theorem ent_0 {G : Geo} {ad : Nat → Nat} {M : Mem} {i : Nat} (h : kd i = 0) : ent G ad M i = .inr (0, [re ad (mR M i 0), re ad (mR M i 1), re ad (mR M i 2), .int (mI M i 3), .int (mI M i 4), .int (mI M i 5)]) := by simp [ent, h]
theorem ent_1 {G : Geo} {ad : Nat → Nat} {M : Mem} {i : Nat} (h : kd i = 1) : ent G ad M i = .inr (1, [re ad (mR M i 0), re ad (mR M i 1), .int (mI M i 2), .int (mI M i 3), .int (mI M i 4)]) := by simp [ent, h]
theorem ent_2 {G : Geo} {ad : Nat → Nat} {M : Mem} {i : Nat} (h : kd i = 2) : ent G ad M i = .inr (2, [re ad (mR M i 0), re ad (mR M i 1), .int (mI M i 2), re ad (mR M i 3), re ad (mR M i 4), re ad (mR M i 5), .int (mI M i 6), re ad (mR M i 7), re ad (mR M i 8)]) := by simp [ent, h]
theorem ent_3 {G : Geo} {ad : Nat → Nat} {M : Mem} {i : Nat} (h : kd i = 3) : ent G ad M i = .inr (3, [.int (mI M i 0), re ad (mR M i 1), re ad (mR M i 2), .int (mI M i 3), re ad (mR M i 4), re ad (mR M i 5), re ad (mR M i 6), .int (mI M i 7), re ad (mR M i 8), re ad (mR M i 9), .int (mI M i 10), re ad (mR M i 11), .long (mJ M i 12)]) := by simp [ent, h]
theorem ent_4 {G : Geo} {ad : Nat → Nat} {M : Mem} {i : Nat} (h : kd i = 4) : ent G ad M i = .inl (G.2 0, ln i, .inl (mI M i)) := by simp [ent, h]
theorem ent_5 {G : Geo} {ad : Nat → Nat} {M : Mem} {i : Nat} (h : kd i = 5) : ent G ad M i = .inl (G.2 1, ln i, .inr (.inl (mJ M i))) := by simp [ent, h]
theorem ent_6 {G : Geo} {ad : Nat → Nat} {M : Mem} {i : Nat} (h : kd i = 6) : ent G ad M i = .inl (G.2 2, ln i, .inl (mI M i)) := by simp [ent, h]
theorem ent_7 {G : Geo} {ad : Nat → Nat} {M : Mem} {i : Nat} (h : kd i = 7) : ent G ad M i = .inl (G.2 3, ln i, .inr (.inr (.inr (.inr (fun k => (mR M i k).map ad))))) := by simp [ent, h]
theorem ent_8 {G : Geo} {ad : Nat → Nat} {M : Mem} {i : Nat} (h : kd i = 8) : ent G ad M i = .inl (G.2 4, ln i, .inr (.inr (.inr (.inr (fun k => (mR M i k).map ad))))) := by simp [ent, h]
theorem ent_9 {G : Geo} {ad : Nat → Nat} {M : Mem} {i : Nat} (h : kd i = 9) : ent G ad M i = .inl (G.2 5, ln i, .inr (.inr (.inr (.inr (fun k => (mR M i k).map ad))))) := by simp [ent, h]
theorem ent_10 {G : Geo} {ad : Nat → Nat} {M : Mem} {i : Nat} (h : kd i = 10) : ent G ad M i = .inl (G.2 6, ln i, .inr (.inr (.inr (.inl (mD M i))))) := by simp [ent, h]
theorem J_g0_0 {C : JC} {x : Bool} {cc : ByteArray} {nL : Nat} {rm : Room} {rt : Option FieldType} {own : String} {res : Res} {ce sl : Nat} {M : Mem} {pc : Nat} {lv : List (Nat × Value)} {st : List Value} {β : Type} {r0 : β} {f : Option Nat → Option β} {index : Nat} {a : Option Nat} (hC : Ok C x cc nL rm rt own res) (hw : Cond.fieldLink own index RX0 (TX0 0).2.1 (TX0 0).2.2.1 ∈ BIG) (hdg : decode cc pc = .ok (.getfield index, 3)) (h : (gR 0 0 M a).bind f = some r0)
    (kk : ∀ v, gR 0 0 M a = some v → f v = some r0 → J C ce sl M (pc + 3) lv (va_rf v :: st)) : J C ce sl M pc lv (va_rf a :: st) := by
  obtain ⟨v, hv, hf⟩ := bnd h
  have kk := kk v hv hf
  obtain ⟨i, rfl, hv2⟩ := bnd hv
  split at hv2
  case isFalse => cases hv2
  case isTrue hi =>
  cases hv2
  obtain ⟨p, l, e, R, s, m, args, below, meth, c, H0, A, Q, nL0, G, ad0, n0⟩ := C
  obtain ⟨hx, hb, hml, hnl, hown, hts, hKK, hH0, hA, hlk, hrt, hR, hQ, hxt⟩ := hC
  intro ad H locs ls hW hAa hag hn hvl hvs hS hl
  have he := pool_at (G := G) (ad := ad) hi.1
  rw [ent_0 hi.2.1] at he
  have k2 := kk ad H locs ls hW hAa hag hn hvl (vs_c (Vok_rf (okR_j hi.2.2)) (vs_t hvs)) hS hl
  rw [List.map_cons, phys_rf] at k2
  exact va_get (D := G.1) (ci := 0) (C := RX0) (T := TX0) (N := 6) hx hb hts inB0 hown hKK.1.1 hW.1 i he rfl 0 (by decide) (hts _ hw) (fun _ h9 => h9) rfl hdg k2
theorem J_p0_0 {C : JC} {x : Bool} {cc : ByteArray} {nL : Nat} {rm : Room} {rt : Option FieldType} {own : String} {res : Res} {ce sl : Nat} {M : Mem} {pc : Nat} {lv : List (Nat × Value)} {st : List Value} {β : Type} {r0 : β} {f : Mem → Option β} {index : Nat} {a : Option Nat} {v : Option Nat} (hC : Ok C x cc nL rm rt own res) (hin : isInit C) (hdc : (TX0 0).1 = own) (hw : Cond.fieldLink own index RX0 (TX0 0).2.1 (TX0 0).2.2.1 ∈ BIG) (hdg : decode cc pc = .ok (.putfield index, 3)) (h : (pR 0 0 M a v).bind f = some r0)
    (kk : ∀ M', pR 0 0 M a v = some M' → f M' = some r0 → J C ce sl M' (pc + 3) lv st) : J C ce sl M pc lv (va_rf v :: va_rf a :: st) := by
  obtain ⟨M', hv, hf⟩ := bnd h
  have kk := kk M' hv hf
  obtain ⟨i, rfl, hv2⟩ := bnd hv
  split at hv2
  case isFalse => cases hv2
  case isTrue hi =>
  cases hv2
  obtain ⟨p, l, e, R, s, m, args, below, meth, c, H0, A, Q, nL0, G, ad0, n0⟩ := C
  obtain ⟨hx, hb, hml, hnl, hown, hts, hKK, hH0, hA, hlk, hrt, hR, hQ, hxt⟩ := hC
  intro ad H locs ls hW hAa hag hn hvl hvs hS hl
  have he := pool_at (G := G) (ad := ad) hi.1
  rw [ent_0 hi.2] at he
  have hD := pool_D hW hAa
  have e2 : (pool G ad M).set i (ad i, .inr (0, [re ad v, re ad (mR M i 1), re ad (mR M i 2), .int (mI M i 3), .int (mI M i 4), .int (mI M i 5)])) = pool G ad (sR M i 0 v) := pool_set rfl hi.1 (by rw [ent_0 hi.2]; simp [sR, mI, mJ, mR, up2]) (fun j hj => ent_sR_ne hj)
  have e3 : phys ad (va_rf v) = re ad v := phys_rf ad v
  rw [List.map_cons, e3]
  skip
  exact va_putF (D := G.1) (ci := 0) (C := RX0) (T := TX0) (N := 6) (ty := tyX0 0) (v := re ad v) hx hb hts inB0 tyX0 tyX0_ok nmX0 hown hKK.1.1 hW.1 hD hS i he rfl 0 (by decide) (hts _ hw) (fun _ h9 => h9) rfl hin hdc (by decide +kernel) (by cases v <;> rfl) (by cases v <;> rfl) (Nat.le_of_ble_eq_true rfl) hdg (fun H1 locs1 hP1 hD1 hS1 => kk ad H1 locs1 ls ⟨by rw [← e2]; exact hP1, hW.2⟩ hAa hag hn hvl (vs_t (vs_t hvs)) hS1 hl)
theorem J_g0_1 {C : JC} {x : Bool} {cc : ByteArray} {nL : Nat} {rm : Room} {rt : Option FieldType} {own : String} {res : Res} {ce sl : Nat} {M : Mem} {pc : Nat} {lv : List (Nat × Value)} {st : List Value} {β : Type} {r0 : β} {f : Option Nat → Option β} {index : Nat} {a : Option Nat} (hC : Ok C x cc nL rm rt own res) (hw : Cond.fieldLink own index RX0 (TX0 1).2.1 (TX0 1).2.2.1 ∈ BIG) (hdg : decode cc pc = .ok (.getfield index, 3)) (h : (gR 0 1 M a).bind f = some r0)
    (kk : ∀ v, gR 0 1 M a = some v → f v = some r0 → J C ce sl M (pc + 3) lv (va_rf v :: st)) : J C ce sl M pc lv (va_rf a :: st) := by
  obtain ⟨v, hv, hf⟩ := bnd h
  have kk := kk v hv hf
  obtain ⟨i, rfl, hv2⟩ := bnd hv
  split at hv2
  case isFalse => cases hv2
  case isTrue hi =>
  cases hv2
  obtain ⟨p, l, e, R, s, m, args, below, meth, c, H0, A, Q, nL0, G, ad0, n0⟩ := C
  obtain ⟨hx, hb, hml, hnl, hown, hts, hKK, hH0, hA, hlk, hrt, hR, hQ, hxt⟩ := hC
  intro ad H locs ls hW hAa hag hn hvl hvs hS hl
  have he := pool_at (G := G) (ad := ad) hi.1
  rw [ent_0 hi.2.1] at he
  have k2 := kk ad H locs ls hW hAa hag hn hvl (vs_c (Vok_rf (okR_j hi.2.2)) (vs_t hvs)) hS hl
  rw [List.map_cons, phys_rf] at k2
  exact va_get (D := G.1) (ci := 0) (C := RX0) (T := TX0) (N := 6) hx hb hts inB0 hown hKK.1.1 hW.1 i he rfl 1 (by decide) (hts _ hw) (fun _ h9 => h9) rfl hdg k2
theorem J_p0_1 {C : JC} {x : Bool} {cc : ByteArray} {nL : Nat} {rm : Room} {rt : Option FieldType} {own : String} {res : Res} {ce sl : Nat} {M : Mem} {pc : Nat} {lv : List (Nat × Value)} {st : List Value} {β : Type} {r0 : β} {f : Mem → Option β} {index : Nat} {a : Option Nat} {v : Option Nat} (hC : Ok C x cc nL rm rt own res) (hin : isInit C) (hdc : (TX0 1).1 = own) (hw : Cond.fieldLink own index RX0 (TX0 1).2.1 (TX0 1).2.2.1 ∈ BIG) (hdg : decode cc pc = .ok (.putfield index, 3)) (h : (pR 0 1 M a v).bind f = some r0)
    (kk : ∀ M', pR 0 1 M a v = some M' → f M' = some r0 → J C ce sl M' (pc + 3) lv st) : J C ce sl M pc lv (va_rf v :: va_rf a :: st) := by
  obtain ⟨M', hv, hf⟩ := bnd h
  have kk := kk M' hv hf
  obtain ⟨i, rfl, hv2⟩ := bnd hv
  split at hv2
  case isFalse => cases hv2
  case isTrue hi =>
  cases hv2
  obtain ⟨p, l, e, R, s, m, args, below, meth, c, H0, A, Q, nL0, G, ad0, n0⟩ := C
  obtain ⟨hx, hb, hml, hnl, hown, hts, hKK, hH0, hA, hlk, hrt, hR, hQ, hxt⟩ := hC
  intro ad H locs ls hW hAa hag hn hvl hvs hS hl
  have he := pool_at (G := G) (ad := ad) hi.1
  rw [ent_0 hi.2] at he
  have hD := pool_D hW hAa
  have e2 : (pool G ad M).set i (ad i, .inr (0, [re ad (mR M i 0), re ad v, re ad (mR M i 2), .int (mI M i 3), .int (mI M i 4), .int (mI M i 5)])) = pool G ad (sR M i 1 v) := pool_set rfl hi.1 (by rw [ent_0 hi.2]; simp [sR, mI, mJ, mR, up2]) (fun j hj => ent_sR_ne hj)
  have e3 : phys ad (va_rf v) = re ad v := phys_rf ad v
  rw [List.map_cons, e3]
  skip
  exact va_putF (D := G.1) (ci := 0) (C := RX0) (T := TX0) (N := 6) (ty := tyX0 1) (v := re ad v) hx hb hts inB0 tyX0 tyX0_ok nmX0 hown hKK.1.1 hW.1 hD hS i he rfl 1 (by decide) (hts _ hw) (fun _ h9 => h9) rfl hin hdc (by decide +kernel) (by cases v <;> rfl) (by cases v <;> rfl) (Nat.le_of_ble_eq_true rfl) hdg (fun H1 locs1 hP1 hD1 hS1 => kk ad H1 locs1 ls ⟨by rw [← e2]; exact hP1, hW.2⟩ hAa hag hn hvl (vs_t (vs_t hvs)) hS1 hl)
theorem J_g0_2 {C : JC} {x : Bool} {cc : ByteArray} {nL : Nat} {rm : Room} {rt : Option FieldType} {own : String} {res : Res} {ce sl : Nat} {M : Mem} {pc : Nat} {lv : List (Nat × Value)} {st : List Value} {β : Type} {r0 : β} {f : Option Nat → Option β} {index : Nat} {a : Option Nat} (hC : Ok C x cc nL rm rt own res) (hw : Cond.fieldLink own index RX0 (TX0 2).2.1 (TX0 2).2.2.1 ∈ BIG) (hdg : decode cc pc = .ok (.getfield index, 3)) (h : (gR 0 2 M a).bind f = some r0)
    (kk : ∀ v, gR 0 2 M a = some v → f v = some r0 → J C ce sl M (pc + 3) lv (va_rf v :: st)) : J C ce sl M pc lv (va_rf a :: st) := by
  obtain ⟨v, hv, hf⟩ := bnd h
  have kk := kk v hv hf
  obtain ⟨i, rfl, hv2⟩ := bnd hv
  split at hv2
  case isFalse => cases hv2
  case isTrue hi =>
  cases hv2
  obtain ⟨p, l, e, R, s, m, args, below, meth, c, H0, A, Q, nL0, G, ad0, n0⟩ := C
  obtain ⟨hx, hb, hml, hnl, hown, hts, hKK, hH0, hA, hlk, hrt, hR, hQ, hxt⟩ := hC
  intro ad H locs ls hW hAa hag hn hvl hvs hS hl
  have he := pool_at (G := G) (ad := ad) hi.1
  rw [ent_0 hi.2.1] at he
  have k2 := kk ad H locs ls hW hAa hag hn hvl (vs_c (Vok_rf (okR_j hi.2.2)) (vs_t hvs)) hS hl
  rw [List.map_cons, phys_rf] at k2
  exact va_get (D := G.1) (ci := 0) (C := RX0) (T := TX0) (N := 6) hx hb hts inB0 hown hKK.1.1 hW.1 i he rfl 2 (by decide) (hts _ hw) (fun _ h9 => h9) rfl hdg k2
theorem J_p0_2 {C : JC} {x : Bool} {cc : ByteArray} {nL : Nat} {rm : Room} {rt : Option FieldType} {own : String} {res : Res} {ce sl : Nat} {M : Mem} {pc : Nat} {lv : List (Nat × Value)} {st : List Value} {β : Type} {r0 : β} {f : Mem → Option β} {index : Nat} {a : Option Nat} {v : Option Nat} (hC : Ok C x cc nL rm rt own res) (hin : isInit C) (hdc : (TX0 2).1 = own) (hw : Cond.fieldLink own index RX0 (TX0 2).2.1 (TX0 2).2.2.1 ∈ BIG) (hdg : decode cc pc = .ok (.putfield index, 3)) (h : (pR 0 2 M a v).bind f = some r0)
    (kk : ∀ M', pR 0 2 M a v = some M' → f M' = some r0 → J C ce sl M' (pc + 3) lv st) : J C ce sl M pc lv (va_rf v :: va_rf a :: st) := by
  obtain ⟨M', hv, hf⟩ := bnd h
  have kk := kk M' hv hf
  obtain ⟨i, rfl, hv2⟩ := bnd hv
  split at hv2
  case isFalse => cases hv2
  case isTrue hi =>
  cases hv2
  obtain ⟨p, l, e, R, s, m, args, below, meth, c, H0, A, Q, nL0, G, ad0, n0⟩ := C
  obtain ⟨hx, hb, hml, hnl, hown, hts, hKK, hH0, hA, hlk, hrt, hR, hQ, hxt⟩ := hC
  intro ad H locs ls hW hAa hag hn hvl hvs hS hl
  have he := pool_at (G := G) (ad := ad) hi.1
  rw [ent_0 hi.2] at he
  have hD := pool_D hW hAa
  have e2 : (pool G ad M).set i (ad i, .inr (0, [re ad (mR M i 0), re ad (mR M i 1), re ad v, .int (mI M i 3), .int (mI M i 4), .int (mI M i 5)])) = pool G ad (sR M i 2 v) := pool_set rfl hi.1 (by rw [ent_0 hi.2]; simp [sR, mI, mJ, mR, up2]) (fun j hj => ent_sR_ne hj)
  have e3 : phys ad (va_rf v) = re ad v := phys_rf ad v
  rw [List.map_cons, e3]
  skip
  exact va_putF (D := G.1) (ci := 0) (C := RX0) (T := TX0) (N := 6) (ty := tyX0 2) (v := re ad v) hx hb hts inB0 tyX0 tyX0_ok nmX0 hown hKK.1.1 hW.1 hD hS i he rfl 2 (by decide) (hts _ hw) (fun _ h9 => h9) rfl hin hdc (by decide +kernel) (by cases v <;> rfl) (by cases v <;> rfl) (Nat.le_of_ble_eq_true rfl) hdg (fun H1 locs1 hP1 hD1 hS1 => kk ad H1 locs1 ls ⟨by rw [← e2]; exact hP1, hW.2⟩ hAa hag hn hvl (vs_t (vs_t hvs)) hS1 hl)
theorem J_g0_3 {C : JC} {x : Bool} {cc : ByteArray} {nL : Nat} {rm : Room} {rt : Option FieldType} {own : String} {res : Res} {ce sl : Nat} {M : Mem} {pc : Nat} {lv : List (Nat × Value)} {st : List Value} {β : Type} {r0 : β} {f : Int32 → Option β} {index : Nat} {a : Option Nat} (hC : Ok C x cc nL rm rt own res) (hw : Cond.fieldLink own index RX0 (TX0 3).2.1 (TX0 3).2.2.1 ∈ BIG) (hdg : decode cc pc = .ok (.getfield index, 3)) (h : (gI 0 3 M a).bind f = some r0)
    (kk : ∀ v, gI 0 3 M a = some v → f v = some r0 → J C ce sl M (pc + 3) lv (.int v :: st)) : J C ce sl M pc lv (va_rf a :: st) := by
  obtain ⟨v, hv, hf⟩ := bnd h
  have kk := kk v hv hf
  obtain ⟨i, rfl, hv2⟩ := bnd hv
  split at hv2
  case isFalse => cases hv2
  case isTrue hi =>
  cases hv2
  obtain ⟨p, l, e, R, s, m, args, below, meth, c, H0, A, Q, nL0, G, ad0, n0⟩ := C
  obtain ⟨hx, hb, hml, hnl, hown, hts, hKK, hH0, hA, hlk, hrt, hR, hQ, hxt⟩ := hC
  intro ad H locs ls hW hAa hag hn hvl hvs hS hl
  have he := pool_at (G := G) (ad := ad) hi.1
  rw [ent_0 hi.2] at he
  have k2 := kk ad H locs ls hW hAa hag hn hvl (vs_c Vok_int (vs_t hvs)) hS hl
  skip
  exact va_get (D := G.1) (ci := 0) (C := RX0) (T := TX0) (N := 6) hx hb hts inB0 hown hKK.1.1 hW.1 i he rfl 3 (by decide) (hts _ hw) (fun _ h9 => h9) rfl hdg k2
theorem J_p0_3 {C : JC} {x : Bool} {cc : ByteArray} {nL : Nat} {rm : Room} {rt : Option FieldType} {own : String} {res : Res} {ce sl : Nat} {M : Mem} {pc : Nat} {lv : List (Nat × Value)} {st : List Value} {β : Type} {r0 : β} {f : Mem → Option β} {index : Nat} {a : Option Nat} {v : Int32} (hC : Ok C x cc nL rm rt own res) (hw : Cond.fieldLink own index RX0 (TX0 3).2.1 (TX0 3).2.2.1 ∈ BIG) (hdg : decode cc pc = .ok (.putfield index, 3)) (h : (pI 0 3 M a v).bind f = some r0)
    (kk : ∀ M', pI 0 3 M a v = some M' → f M' = some r0 → J C ce sl M' (pc + 3) lv st) : J C ce sl M pc lv (.int v :: va_rf a :: st) := by
  obtain ⟨M', hv, hf⟩ := bnd h
  have kk := kk M' hv hf
  obtain ⟨i, rfl, hv2⟩ := bnd hv
  split at hv2
  case isFalse => cases hv2
  case isTrue hi =>
  cases hv2
  obtain ⟨p, l, e, R, s, m, args, below, meth, c, H0, A, Q, nL0, G, ad0, n0⟩ := C
  obtain ⟨hx, hb, hml, hnl, hown, hts, hKK, hH0, hA, hlk, hrt, hR, hQ, hxt⟩ := hC
  intro ad H locs ls hW hAa hag hn hvl hvs hS hl
  have he := pool_at (G := G) (ad := ad) hi.1
  rw [ent_0 hi.2] at he
  have hD := pool_D hW hAa
  have e2 : (pool G ad M).set i (ad i, .inr (0, [re ad (mR M i 0), re ad (mR M i 1), re ad (mR M i 2), .int v, .int (mI M i 4), .int (mI M i 5)])) = pool G ad (sI M i 3 v) := pool_set rfl hi.1 (by rw [ent_0 hi.2]; simp [sI, mI, mJ, mR, up2]) (fun j hj => ent_sI_ne hj)
  skip
  skip
  skip
  exact va_put (D := G.1) (ci := 0) (C := RX0) (T := TX0) (N := 6) (ty := tyX0 3) (v := .int v) hx hb hts inB0 tyX0 tyX0_ok nmX0 hown hKK.1.1 hW.1 hD hS i he rfl 3 (by decide) (hts _ hw) (fun _ h9 => h9) rfl (by decide +kernel) rfl rfl (Nat.le_of_ble_eq_true rfl) hdg (fun H1 locs1 hP1 hD1 hS1 => kk ad H1 locs1 ls ⟨by rw [← e2]; exact hP1, hW.2⟩ hAa hag hn hvl (vs_t (vs_t hvs)) hS1 hl)
theorem J_g0_4 {C : JC} {x : Bool} {cc : ByteArray} {nL : Nat} {rm : Room} {rt : Option FieldType} {own : String} {res : Res} {ce sl : Nat} {M : Mem} {pc : Nat} {lv : List (Nat × Value)} {st : List Value} {β : Type} {r0 : β} {f : Int32 → Option β} {index : Nat} {a : Option Nat} (hC : Ok C x cc nL rm rt own res) (hw : Cond.fieldLink own index RX0 (TX0 4).2.1 (TX0 4).2.2.1 ∈ BIG) (hdg : decode cc pc = .ok (.getfield index, 3)) (h : (gI 0 4 M a).bind f = some r0)
    (kk : ∀ v, gI 0 4 M a = some v → f v = some r0 → J C ce sl M (pc + 3) lv (.int v :: st)) : J C ce sl M pc lv (va_rf a :: st) := by
  obtain ⟨v, hv, hf⟩ := bnd h
  have kk := kk v hv hf
  obtain ⟨i, rfl, hv2⟩ := bnd hv
  split at hv2
  case isFalse => cases hv2
  case isTrue hi =>
  cases hv2
  obtain ⟨p, l, e, R, s, m, args, below, meth, c, H0, A, Q, nL0, G, ad0, n0⟩ := C
  obtain ⟨hx, hb, hml, hnl, hown, hts, hKK, hH0, hA, hlk, hrt, hR, hQ, hxt⟩ := hC
  intro ad H locs ls hW hAa hag hn hvl hvs hS hl
  have he := pool_at (G := G) (ad := ad) hi.1
  rw [ent_0 hi.2] at he
  have k2 := kk ad H locs ls hW hAa hag hn hvl (vs_c Vok_int (vs_t hvs)) hS hl
  skip
  exact va_get (D := G.1) (ci := 0) (C := RX0) (T := TX0) (N := 6) hx hb hts inB0 hown hKK.1.1 hW.1 i he rfl 4 (by decide) (hts _ hw) (fun _ h9 => h9) rfl hdg k2
theorem J_p0_4 {C : JC} {x : Bool} {cc : ByteArray} {nL : Nat} {rm : Room} {rt : Option FieldType} {own : String} {res : Res} {ce sl : Nat} {M : Mem} {pc : Nat} {lv : List (Nat × Value)} {st : List Value} {β : Type} {r0 : β} {f : Mem → Option β} {index : Nat} {a : Option Nat} {v : Int32} (hC : Ok C x cc nL rm rt own res) (hw : Cond.fieldLink own index RX0 (TX0 4).2.1 (TX0 4).2.2.1 ∈ BIG) (hdg : decode cc pc = .ok (.putfield index, 3)) (h : (pI 0 4 M a v).bind f = some r0)
    (kk : ∀ M', pI 0 4 M a v = some M' → f M' = some r0 → J C ce sl M' (pc + 3) lv st) : J C ce sl M pc lv (.int v :: va_rf a :: st) := by
  obtain ⟨M', hv, hf⟩ := bnd h
  have kk := kk M' hv hf
  obtain ⟨i, rfl, hv2⟩ := bnd hv
  split at hv2
  case isFalse => cases hv2
  case isTrue hi =>
  cases hv2
  obtain ⟨p, l, e, R, s, m, args, below, meth, c, H0, A, Q, nL0, G, ad0, n0⟩ := C
  obtain ⟨hx, hb, hml, hnl, hown, hts, hKK, hH0, hA, hlk, hrt, hR, hQ, hxt⟩ := hC
  intro ad H locs ls hW hAa hag hn hvl hvs hS hl
  have he := pool_at (G := G) (ad := ad) hi.1
  rw [ent_0 hi.2] at he
  have hD := pool_D hW hAa
  have e2 : (pool G ad M).set i (ad i, .inr (0, [re ad (mR M i 0), re ad (mR M i 1), re ad (mR M i 2), .int (mI M i 3), .int v, .int (mI M i 5)])) = pool G ad (sI M i 4 v) := pool_set rfl hi.1 (by rw [ent_0 hi.2]; simp [sI, mI, mJ, mR, up2]) (fun j hj => ent_sI_ne hj)
  skip
  skip
  skip
  exact va_put (D := G.1) (ci := 0) (C := RX0) (T := TX0) (N := 6) (ty := tyX0 4) (v := .int v) hx hb hts inB0 tyX0 tyX0_ok nmX0 hown hKK.1.1 hW.1 hD hS i he rfl 4 (by decide) (hts _ hw) (fun _ h9 => h9) rfl (by decide +kernel) rfl rfl (Nat.le_of_ble_eq_true rfl) hdg (fun H1 locs1 hP1 hD1 hS1 => kk ad H1 locs1 ls ⟨by rw [← e2]; exact hP1, hW.2⟩ hAa hag hn hvl (vs_t (vs_t hvs)) hS1 hl)
theorem J_g0_5 {C : JC} {x : Bool} {cc : ByteArray} {nL : Nat} {rm : Room} {rt : Option FieldType} {own : String} {res : Res} {ce sl : Nat} {M : Mem} {pc : Nat} {lv : List (Nat × Value)} {st : List Value} {β : Type} {r0 : β} {f : Int32 → Option β} {index : Nat} {a : Option Nat} (hC : Ok C x cc nL rm rt own res) (hw : Cond.fieldLink own index RX0 (TX0 5).2.1 (TX0 5).2.2.1 ∈ BIG) (hdg : decode cc pc = .ok (.getfield index, 3)) (h : (gI 0 5 M a).bind f = some r0)
    (kk : ∀ v, gI 0 5 M a = some v → f v = some r0 → J C ce sl M (pc + 3) lv (.int v :: st)) : J C ce sl M pc lv (va_rf a :: st) := by
  obtain ⟨v, hv, hf⟩ := bnd h
  have kk := kk v hv hf
  obtain ⟨i, rfl, hv2⟩ := bnd hv
  split at hv2
  case isFalse => cases hv2
  case isTrue hi =>
  cases hv2
  obtain ⟨p, l, e, R, s, m, args, below, meth, c, H0, A, Q, nL0, G, ad0, n0⟩ := C
  obtain ⟨hx, hb, hml, hnl, hown, hts, hKK, hH0, hA, hlk, hrt, hR, hQ, hxt⟩ := hC
  intro ad H locs ls hW hAa hag hn hvl hvs hS hl
  have he := pool_at (G := G) (ad := ad) hi.1
  rw [ent_0 hi.2] at he
  have k2 := kk ad H locs ls hW hAa hag hn hvl (vs_c Vok_int (vs_t hvs)) hS hl
  skip
  exact va_get (D := G.1) (ci := 0) (C := RX0) (T := TX0) (N := 6) hx hb hts inB0 hown hKK.1.1 hW.1 i he rfl 5 (by decide) (hts _ hw) (fun _ h9 => h9) rfl hdg k2
theorem J_p0_5 {C : JC} {x : Bool} {cc : ByteArray} {nL : Nat} {rm : Room} {rt : Option FieldType} {own : String} {res : Res} {ce sl : Nat} {M : Mem} {pc : Nat} {lv : List (Nat × Value)} {st : List Value} {β : Type} {r0 : β} {f : Mem → Option β} {index : Nat} {a : Option Nat} {v : Int32} (hC : Ok C x cc nL rm rt own res) (hw : Cond.fieldLink own index RX0 (TX0 5).2.1 (TX0 5).2.2.1 ∈ BIG) (hdg : decode cc pc = .ok (.putfield index, 3)) (h : (pI 0 5 M a v).bind f = some r0)
    (kk : ∀ M', pI 0 5 M a v = some M' → f M' = some r0 → J C ce sl M' (pc + 3) lv st) : J C ce sl M pc lv (.int v :: va_rf a :: st) := by
  obtain ⟨M', hv, hf⟩ := bnd h
  have kk := kk M' hv hf
  obtain ⟨i, rfl, hv2⟩ := bnd hv
  split at hv2
  case isFalse => cases hv2
  case isTrue hi =>
  cases hv2
  obtain ⟨p, l, e, R, s, m, args, below, meth, c, H0, A, Q, nL0, G, ad0, n0⟩ := C
  obtain ⟨hx, hb, hml, hnl, hown, hts, hKK, hH0, hA, hlk, hrt, hR, hQ, hxt⟩ := hC
  intro ad H locs ls hW hAa hag hn hvl hvs hS hl
  have he := pool_at (G := G) (ad := ad) hi.1
  rw [ent_0 hi.2] at he
  have hD := pool_D hW hAa
  have e2 : (pool G ad M).set i (ad i, .inr (0, [re ad (mR M i 0), re ad (mR M i 1), re ad (mR M i 2), .int (mI M i 3), .int (mI M i 4), .int v])) = pool G ad (sI M i 5 v) := pool_set rfl hi.1 (by rw [ent_0 hi.2]; simp [sI, mI, mJ, mR, up2]) (fun j hj => ent_sI_ne hj)
  skip
  skip
  skip
  exact va_put (D := G.1) (ci := 0) (C := RX0) (T := TX0) (N := 6) (ty := tyX0 5) (v := .int v) hx hb hts inB0 tyX0 tyX0_ok nmX0 hown hKK.1.1 hW.1 hD hS i he rfl 5 (by decide) (hts _ hw) (fun _ h9 => h9) rfl (by decide +kernel) rfl rfl (Nat.le_of_ble_eq_true rfl) hdg (fun H1 locs1 hP1 hD1 hS1 => kk ad H1 locs1 ls ⟨by rw [← e2]; exact hP1, hW.2⟩ hAa hag hn hvl (vs_t (vs_t hvs)) hS1 hl)
theorem J_g1_0 {C : JC} {x : Bool} {cc : ByteArray} {nL : Nat} {rm : Room} {rt : Option FieldType} {own : String} {res : Res} {ce sl : Nat} {M : Mem} {pc : Nat} {lv : List (Nat × Value)} {st : List Value} {β : Type} {r0 : β} {f : Option Nat → Option β} {index : Nat} {a : Option Nat} (hC : Ok C x cc nL rm rt own res) (hw : Cond.fieldLink own index RX1 (TX1 0).2.1 (TX1 0).2.2.1 ∈ BIG) (hdg : decode cc pc = .ok (.getfield index, 3)) (h : (gR 1 0 M a).bind f = some r0)
    (kk : ∀ v, gR 1 0 M a = some v → f v = some r0 → J C ce sl M (pc + 3) lv (va_rf v :: st)) : J C ce sl M pc lv (va_rf a :: st) := by
  obtain ⟨v, hv, hf⟩ := bnd h
  have kk := kk v hv hf
  obtain ⟨i, rfl, hv2⟩ := bnd hv
  split at hv2
  case isFalse => cases hv2
  case isTrue hi =>
  cases hv2
  obtain ⟨p, l, e, R, s, m, args, below, meth, c, H0, A, Q, nL0, G, ad0, n0⟩ := C
  obtain ⟨hx, hb, hml, hnl, hown, hts, hKK, hH0, hA, hlk, hrt, hR, hQ, hxt⟩ := hC
  intro ad H locs ls hW hAa hag hn hvl hvs hS hl
  have he := pool_at (G := G) (ad := ad) hi.1
  rw [ent_1 hi.2.1] at he
  have k2 := kk ad H locs ls hW hAa hag hn hvl (vs_c (Vok_rf (okR_j hi.2.2)) (vs_t hvs)) hS hl
  rw [List.map_cons, phys_rf] at k2
  exact va_get (D := G.1) (ci := 1) (C := RX1) (T := TX1) (N := 5) hx hb hts inB1 hown hKK.1.1 hW.1 i he rfl 0 (by decide) (hts _ hw) (fun _ h9 => h9) rfl hdg k2
theorem J_p1_0 {C : JC} {x : Bool} {cc : ByteArray} {nL : Nat} {rm : Room} {rt : Option FieldType} {own : String} {res : Res} {ce sl : Nat} {M : Mem} {pc : Nat} {lv : List (Nat × Value)} {st : List Value} {β : Type} {r0 : β} {f : Mem → Option β} {index : Nat} {a : Option Nat} {v : Option Nat} (hC : Ok C x cc nL rm rt own res) (hin : isInit C) (hdc : (TX1 0).1 = own) (hw : Cond.fieldLink own index RX1 (TX1 0).2.1 (TX1 0).2.2.1 ∈ BIG) (hdg : decode cc pc = .ok (.putfield index, 3)) (h : (pR 1 0 M a v).bind f = some r0)
    (kk : ∀ M', pR 1 0 M a v = some M' → f M' = some r0 → J C ce sl M' (pc + 3) lv st) : J C ce sl M pc lv (va_rf v :: va_rf a :: st) := by
  obtain ⟨M', hv, hf⟩ := bnd h
  have kk := kk M' hv hf
  obtain ⟨i, rfl, hv2⟩ := bnd hv
  split at hv2
  case isFalse => cases hv2
  case isTrue hi =>
  cases hv2
  obtain ⟨p, l, e, R, s, m, args, below, meth, c, H0, A, Q, nL0, G, ad0, n0⟩ := C
  obtain ⟨hx, hb, hml, hnl, hown, hts, hKK, hH0, hA, hlk, hrt, hR, hQ, hxt⟩ := hC
  intro ad H locs ls hW hAa hag hn hvl hvs hS hl
  have he := pool_at (G := G) (ad := ad) hi.1
  rw [ent_1 hi.2] at he
  have hD := pool_D hW hAa
  have e2 : (pool G ad M).set i (ad i, .inr (1, [re ad v, re ad (mR M i 1), .int (mI M i 2), .int (mI M i 3), .int (mI M i 4)])) = pool G ad (sR M i 0 v) := pool_set rfl hi.1 (by rw [ent_1 hi.2]; simp [sR, mI, mJ, mR, up2]) (fun j hj => ent_sR_ne hj)
  have e3 : phys ad (va_rf v) = re ad v := phys_rf ad v
  rw [List.map_cons, e3]
  skip
  exact va_putF (D := G.1) (ci := 1) (C := RX1) (T := TX1) (N := 5) (ty := tyX1 0) (v := re ad v) hx hb hts inB1 tyX1 tyX1_ok nmX1 hown hKK.1.1 hW.1 hD hS i he rfl 0 (by decide) (hts _ hw) (fun _ h9 => h9) rfl hin hdc (by decide +kernel) (by cases v <;> rfl) (by cases v <;> rfl) (Nat.le_of_ble_eq_true rfl) hdg (fun H1 locs1 hP1 hD1 hS1 => kk ad H1 locs1 ls ⟨by rw [← e2]; exact hP1, hW.2⟩ hAa hag hn hvl (vs_t (vs_t hvs)) hS1 hl)
theorem J_g1_1 {C : JC} {x : Bool} {cc : ByteArray} {nL : Nat} {rm : Room} {rt : Option FieldType} {own : String} {res : Res} {ce sl : Nat} {M : Mem} {pc : Nat} {lv : List (Nat × Value)} {st : List Value} {β : Type} {r0 : β} {f : Option Nat → Option β} {index : Nat} {a : Option Nat} (hC : Ok C x cc nL rm rt own res) (hw : Cond.fieldLink own index RX1 (TX1 1).2.1 (TX1 1).2.2.1 ∈ BIG) (hdg : decode cc pc = .ok (.getfield index, 3)) (h : (gR 1 1 M a).bind f = some r0)
    (kk : ∀ v, gR 1 1 M a = some v → f v = some r0 → J C ce sl M (pc + 3) lv (va_rf v :: st)) : J C ce sl M pc lv (va_rf a :: st) := by
  obtain ⟨v, hv, hf⟩ := bnd h
  have kk := kk v hv hf
  obtain ⟨i, rfl, hv2⟩ := bnd hv
  split at hv2
  case isFalse => cases hv2
  case isTrue hi =>
  cases hv2
  obtain ⟨p, l, e, R, s, m, args, below, meth, c, H0, A, Q, nL0, G, ad0, n0⟩ := C
  obtain ⟨hx, hb, hml, hnl, hown, hts, hKK, hH0, hA, hlk, hrt, hR, hQ, hxt⟩ := hC
  intro ad H locs ls hW hAa hag hn hvl hvs hS hl
  have he := pool_at (G := G) (ad := ad) hi.1
  rw [ent_1 hi.2.1] at he
  have k2 := kk ad H locs ls hW hAa hag hn hvl (vs_c (Vok_rf (okR_j hi.2.2)) (vs_t hvs)) hS hl
  rw [List.map_cons, phys_rf] at k2
  exact va_get (D := G.1) (ci := 1) (C := RX1) (T := TX1) (N := 5) hx hb hts inB1 hown hKK.1.1 hW.1 i he rfl 1 (by decide) (hts _ hw) (fun _ h9 => h9) rfl hdg k2
theorem J_p1_1 {C : JC} {x : Bool} {cc : ByteArray} {nL : Nat} {rm : Room} {rt : Option FieldType} {own : String} {res : Res} {ce sl : Nat} {M : Mem} {pc : Nat} {lv : List (Nat × Value)} {st : List Value} {β : Type} {r0 : β} {f : Mem → Option β} {index : Nat} {a : Option Nat} {v : Option Nat} (hC : Ok C x cc nL rm rt own res) (hin : isInit C) (hdc : (TX1 1).1 = own) (hw : Cond.fieldLink own index RX1 (TX1 1).2.1 (TX1 1).2.2.1 ∈ BIG) (hdg : decode cc pc = .ok (.putfield index, 3)) (h : (pR 1 1 M a v).bind f = some r0)
    (kk : ∀ M', pR 1 1 M a v = some M' → f M' = some r0 → J C ce sl M' (pc + 3) lv st) : J C ce sl M pc lv (va_rf v :: va_rf a :: st) := by
  obtain ⟨M', hv, hf⟩ := bnd h
  have kk := kk M' hv hf
  obtain ⟨i, rfl, hv2⟩ := bnd hv
  split at hv2
  case isFalse => cases hv2
  case isTrue hi =>
  cases hv2
  obtain ⟨p, l, e, R, s, m, args, below, meth, c, H0, A, Q, nL0, G, ad0, n0⟩ := C
  obtain ⟨hx, hb, hml, hnl, hown, hts, hKK, hH0, hA, hlk, hrt, hR, hQ, hxt⟩ := hC
  intro ad H locs ls hW hAa hag hn hvl hvs hS hl
  have he := pool_at (G := G) (ad := ad) hi.1
  rw [ent_1 hi.2] at he
  have hD := pool_D hW hAa
  have e2 : (pool G ad M).set i (ad i, .inr (1, [re ad (mR M i 0), re ad v, .int (mI M i 2), .int (mI M i 3), .int (mI M i 4)])) = pool G ad (sR M i 1 v) := pool_set rfl hi.1 (by rw [ent_1 hi.2]; simp [sR, mI, mJ, mR, up2]) (fun j hj => ent_sR_ne hj)
  have e3 : phys ad (va_rf v) = re ad v := phys_rf ad v
  rw [List.map_cons, e3]
  skip
  exact va_putF (D := G.1) (ci := 1) (C := RX1) (T := TX1) (N := 5) (ty := tyX1 1) (v := re ad v) hx hb hts inB1 tyX1 tyX1_ok nmX1 hown hKK.1.1 hW.1 hD hS i he rfl 1 (by decide) (hts _ hw) (fun _ h9 => h9) rfl hin hdc (by decide +kernel) (by cases v <;> rfl) (by cases v <;> rfl) (Nat.le_of_ble_eq_true rfl) hdg (fun H1 locs1 hP1 hD1 hS1 => kk ad H1 locs1 ls ⟨by rw [← e2]; exact hP1, hW.2⟩ hAa hag hn hvl (vs_t (vs_t hvs)) hS1 hl)
theorem J_g1_2 {C : JC} {x : Bool} {cc : ByteArray} {nL : Nat} {rm : Room} {rt : Option FieldType} {own : String} {res : Res} {ce sl : Nat} {M : Mem} {pc : Nat} {lv : List (Nat × Value)} {st : List Value} {β : Type} {r0 : β} {f : Int32 → Option β} {index : Nat} {a : Option Nat} (hC : Ok C x cc nL rm rt own res) (hw : Cond.fieldLink own index RX1 (TX1 2).2.1 (TX1 2).2.2.1 ∈ BIG) (hdg : decode cc pc = .ok (.getfield index, 3)) (h : (gI 1 2 M a).bind f = some r0)
    (kk : ∀ v, gI 1 2 M a = some v → f v = some r0 → J C ce sl M (pc + 3) lv (.int v :: st)) : J C ce sl M pc lv (va_rf a :: st) := by
  obtain ⟨v, hv, hf⟩ := bnd h
  have kk := kk v hv hf
  obtain ⟨i, rfl, hv2⟩ := bnd hv
  split at hv2
  case isFalse => cases hv2
  case isTrue hi =>
  cases hv2
  obtain ⟨p, l, e, R, s, m, args, below, meth, c, H0, A, Q, nL0, G, ad0, n0⟩ := C
  obtain ⟨hx, hb, hml, hnl, hown, hts, hKK, hH0, hA, hlk, hrt, hR, hQ, hxt⟩ := hC
  intro ad H locs ls hW hAa hag hn hvl hvs hS hl
  have he := pool_at (G := G) (ad := ad) hi.1
  rw [ent_1 hi.2] at he
  have k2 := kk ad H locs ls hW hAa hag hn hvl (vs_c Vok_int (vs_t hvs)) hS hl
  skip
  exact va_get (D := G.1) (ci := 1) (C := RX1) (T := TX1) (N := 5) hx hb hts inB1 hown hKK.1.1 hW.1 i he rfl 2 (by decide) (hts _ hw) (fun _ h9 => h9) rfl hdg k2
theorem J_p1_2 {C : JC} {x : Bool} {cc : ByteArray} {nL : Nat} {rm : Room} {rt : Option FieldType} {own : String} {res : Res} {ce sl : Nat} {M : Mem} {pc : Nat} {lv : List (Nat × Value)} {st : List Value} {β : Type} {r0 : β} {f : Mem → Option β} {index : Nat} {a : Option Nat} {v : Int32} (hC : Ok C x cc nL rm rt own res) (hw : Cond.fieldLink own index RX1 (TX1 2).2.1 (TX1 2).2.2.1 ∈ BIG) (hdg : decode cc pc = .ok (.putfield index, 3)) (h : (pI 1 2 M a v).bind f = some r0)
    (kk : ∀ M', pI 1 2 M a v = some M' → f M' = some r0 → J C ce sl M' (pc + 3) lv st) : J C ce sl M pc lv (.int v :: va_rf a :: st) := by
  obtain ⟨M', hv, hf⟩ := bnd h
  have kk := kk M' hv hf
  obtain ⟨i, rfl, hv2⟩ := bnd hv
  split at hv2
  case isFalse => cases hv2
  case isTrue hi =>
  cases hv2
  obtain ⟨p, l, e, R, s, m, args, below, meth, c, H0, A, Q, nL0, G, ad0, n0⟩ := C
  obtain ⟨hx, hb, hml, hnl, hown, hts, hKK, hH0, hA, hlk, hrt, hR, hQ, hxt⟩ := hC
  intro ad H locs ls hW hAa hag hn hvl hvs hS hl
  have he := pool_at (G := G) (ad := ad) hi.1
  rw [ent_1 hi.2] at he
  have hD := pool_D hW hAa
  have e2 : (pool G ad M).set i (ad i, .inr (1, [re ad (mR M i 0), re ad (mR M i 1), .int v, .int (mI M i 3), .int (mI M i 4)])) = pool G ad (sI M i 2 v) := pool_set rfl hi.1 (by rw [ent_1 hi.2]; simp [sI, mI, mJ, mR, up2]) (fun j hj => ent_sI_ne hj)
  skip
  skip
  skip
  exact va_put (D := G.1) (ci := 1) (C := RX1) (T := TX1) (N := 5) (ty := tyX1 2) (v := .int v) hx hb hts inB1 tyX1 tyX1_ok nmX1 hown hKK.1.1 hW.1 hD hS i he rfl 2 (by decide) (hts _ hw) (fun _ h9 => h9) rfl (by decide +kernel) rfl rfl (Nat.le_of_ble_eq_true rfl) hdg (fun H1 locs1 hP1 hD1 hS1 => kk ad H1 locs1 ls ⟨by rw [← e2]; exact hP1, hW.2⟩ hAa hag hn hvl (vs_t (vs_t hvs)) hS1 hl)
theorem J_g1_3 {C : JC} {x : Bool} {cc : ByteArray} {nL : Nat} {rm : Room} {rt : Option FieldType} {own : String} {res : Res} {ce sl : Nat} {M : Mem} {pc : Nat} {lv : List (Nat × Value)} {st : List Value} {β : Type} {r0 : β} {f : Int32 → Option β} {index : Nat} {a : Option Nat} (hC : Ok C x cc nL rm rt own res) (hw : Cond.fieldLink own index RX1 (TX1 3).2.1 (TX1 3).2.2.1 ∈ BIG) (hdg : decode cc pc = .ok (.getfield index, 3)) (h : (gI 1 3 M a).bind f = some r0)
    (kk : ∀ v, gI 1 3 M a = some v → f v = some r0 → J C ce sl M (pc + 3) lv (.int v :: st)) : J C ce sl M pc lv (va_rf a :: st) := by
  obtain ⟨v, hv, hf⟩ := bnd h
  have kk := kk v hv hf
  obtain ⟨i, rfl, hv2⟩ := bnd hv
  split at hv2
  case isFalse => cases hv2
  case isTrue hi =>
  cases hv2
  obtain ⟨p, l, e, R, s, m, args, below, meth, c, H0, A, Q, nL0, G, ad0, n0⟩ := C
  obtain ⟨hx, hb, hml, hnl, hown, hts, hKK, hH0, hA, hlk, hrt, hR, hQ, hxt⟩ := hC
  intro ad H locs ls hW hAa hag hn hvl hvs hS hl
  have he := pool_at (G := G) (ad := ad) hi.1
  rw [ent_1 hi.2] at he
  have k2 := kk ad H locs ls hW hAa hag hn hvl (vs_c Vok_int (vs_t hvs)) hS hl
  skip
  exact va_get (D := G.1) (ci := 1) (C := RX1) (T := TX1) (N := 5) hx hb hts inB1 hown hKK.1.1 hW.1 i he rfl 3 (by decide) (hts _ hw) (fun _ h9 => h9) rfl hdg k2
theorem J_p1_3 {C : JC} {x : Bool} {cc : ByteArray} {nL : Nat} {rm : Room} {rt : Option FieldType} {own : String} {res : Res} {ce sl : Nat} {M : Mem} {pc : Nat} {lv : List (Nat × Value)} {st : List Value} {β : Type} {r0 : β} {f : Mem → Option β} {index : Nat} {a : Option Nat} {v : Int32} (hC : Ok C x cc nL rm rt own res) (hw : Cond.fieldLink own index RX1 (TX1 3).2.1 (TX1 3).2.2.1 ∈ BIG) (hdg : decode cc pc = .ok (.putfield index, 3)) (h : (pI 1 3 M a v).bind f = some r0)
    (kk : ∀ M', pI 1 3 M a v = some M' → f M' = some r0 → J C ce sl M' (pc + 3) lv st) : J C ce sl M pc lv (.int v :: va_rf a :: st) := by
  obtain ⟨M', hv, hf⟩ := bnd h
  have kk := kk M' hv hf
  obtain ⟨i, rfl, hv2⟩ := bnd hv
  split at hv2
  case isFalse => cases hv2
  case isTrue hi =>
  cases hv2
  obtain ⟨p, l, e, R, s, m, args, below, meth, c, H0, A, Q, nL0, G, ad0, n0⟩ := C
  obtain ⟨hx, hb, hml, hnl, hown, hts, hKK, hH0, hA, hlk, hrt, hR, hQ, hxt⟩ := hC
  intro ad H locs ls hW hAa hag hn hvl hvs hS hl
  have he := pool_at (G := G) (ad := ad) hi.1
  rw [ent_1 hi.2] at he
  have hD := pool_D hW hAa
  have e2 : (pool G ad M).set i (ad i, .inr (1, [re ad (mR M i 0), re ad (mR M i 1), .int (mI M i 2), .int v, .int (mI M i 4)])) = pool G ad (sI M i 3 v) := pool_set rfl hi.1 (by rw [ent_1 hi.2]; simp [sI, mI, mJ, mR, up2]) (fun j hj => ent_sI_ne hj)
  skip
  skip
  skip
  exact va_put (D := G.1) (ci := 1) (C := RX1) (T := TX1) (N := 5) (ty := tyX1 3) (v := .int v) hx hb hts inB1 tyX1 tyX1_ok nmX1 hown hKK.1.1 hW.1 hD hS i he rfl 3 (by decide) (hts _ hw) (fun _ h9 => h9) rfl (by decide +kernel) rfl rfl (Nat.le_of_ble_eq_true rfl) hdg (fun H1 locs1 hP1 hD1 hS1 => kk ad H1 locs1 ls ⟨by rw [← e2]; exact hP1, hW.2⟩ hAa hag hn hvl (vs_t (vs_t hvs)) hS1 hl)
theorem J_g1_4 {C : JC} {x : Bool} {cc : ByteArray} {nL : Nat} {rm : Room} {rt : Option FieldType} {own : String} {res : Res} {ce sl : Nat} {M : Mem} {pc : Nat} {lv : List (Nat × Value)} {st : List Value} {β : Type} {r0 : β} {f : Int32 → Option β} {index : Nat} {a : Option Nat} (hC : Ok C x cc nL rm rt own res) (hw : Cond.fieldLink own index RX1 (TX1 4).2.1 (TX1 4).2.2.1 ∈ BIG) (hdg : decode cc pc = .ok (.getfield index, 3)) (h : (gI 1 4 M a).bind f = some r0)
    (kk : ∀ v, gI 1 4 M a = some v → f v = some r0 → J C ce sl M (pc + 3) lv (.int v :: st)) : J C ce sl M pc lv (va_rf a :: st) := by
  obtain ⟨v, hv, hf⟩ := bnd h
  have kk := kk v hv hf
  obtain ⟨i, rfl, hv2⟩ := bnd hv
  split at hv2
  case isFalse => cases hv2
  case isTrue hi =>
  cases hv2
  obtain ⟨p, l, e, R, s, m, args, below, meth, c, H0, A, Q, nL0, G, ad0, n0⟩ := C
  obtain ⟨hx, hb, hml, hnl, hown, hts, hKK, hH0, hA, hlk, hrt, hR, hQ, hxt⟩ := hC
  intro ad H locs ls hW hAa hag hn hvl hvs hS hl
  have he := pool_at (G := G) (ad := ad) hi.1
  rw [ent_1 hi.2] at he
  have k2 := kk ad H locs ls hW hAa hag hn hvl (vs_c Vok_int (vs_t hvs)) hS hl
  skip
  exact va_get (D := G.1) (ci := 1) (C := RX1) (T := TX1) (N := 5) hx hb hts inB1 hown hKK.1.1 hW.1 i he rfl 4 (by decide) (hts _ hw) (fun _ h9 => h9) rfl hdg k2
theorem J_p1_4 {C : JC} {x : Bool} {cc : ByteArray} {nL : Nat} {rm : Room} {rt : Option FieldType} {own : String} {res : Res} {ce sl : Nat} {M : Mem} {pc : Nat} {lv : List (Nat × Value)} {st : List Value} {β : Type} {r0 : β} {f : Mem → Option β} {index : Nat} {a : Option Nat} {v : Int32} (hC : Ok C x cc nL rm rt own res) (hw : Cond.fieldLink own index RX1 (TX1 4).2.1 (TX1 4).2.2.1 ∈ BIG) (hdg : decode cc pc = .ok (.putfield index, 3)) (h : (pI 1 4 M a v).bind f = some r0)
    (kk : ∀ M', pI 1 4 M a v = some M' → f M' = some r0 → J C ce sl M' (pc + 3) lv st) : J C ce sl M pc lv (.int v :: va_rf a :: st) := by
  obtain ⟨M', hv, hf⟩ := bnd h
  have kk := kk M' hv hf
  obtain ⟨i, rfl, hv2⟩ := bnd hv
  split at hv2
  case isFalse => cases hv2
  case isTrue hi =>
  cases hv2
  obtain ⟨p, l, e, R, s, m, args, below, meth, c, H0, A, Q, nL0, G, ad0, n0⟩ := C
  obtain ⟨hx, hb, hml, hnl, hown, hts, hKK, hH0, hA, hlk, hrt, hR, hQ, hxt⟩ := hC
  intro ad H locs ls hW hAa hag hn hvl hvs hS hl
  have he := pool_at (G := G) (ad := ad) hi.1
  rw [ent_1 hi.2] at he
  have hD := pool_D hW hAa
  have e2 : (pool G ad M).set i (ad i, .inr (1, [re ad (mR M i 0), re ad (mR M i 1), .int (mI M i 2), .int (mI M i 3), .int v])) = pool G ad (sI M i 4 v) := pool_set rfl hi.1 (by rw [ent_1 hi.2]; simp [sI, mI, mJ, mR, up2]) (fun j hj => ent_sI_ne hj)
  skip
  skip
  skip
  exact va_put (D := G.1) (ci := 1) (C := RX1) (T := TX1) (N := 5) (ty := tyX1 4) (v := .int v) hx hb hts inB1 tyX1 tyX1_ok nmX1 hown hKK.1.1 hW.1 hD hS i he rfl 4 (by decide) (hts _ hw) (fun _ h9 => h9) rfl (by decide +kernel) rfl rfl (Nat.le_of_ble_eq_true rfl) hdg (fun H1 locs1 hP1 hD1 hS1 => kk ad H1 locs1 ls ⟨by rw [← e2]; exact hP1, hW.2⟩ hAa hag hn hvl (vs_t (vs_t hvs)) hS1 hl)
theorem J_g2_0 {C : JC} {x : Bool} {cc : ByteArray} {nL : Nat} {rm : Room} {rt : Option FieldType} {own : String} {res : Res} {ce sl : Nat} {M : Mem} {pc : Nat} {lv : List (Nat × Value)} {st : List Value} {β : Type} {r0 : β} {f : Option Nat → Option β} {index : Nat} {a : Option Nat} (hC : Ok C x cc nL rm rt own res) (hw : Cond.fieldLink own index RX2 (TX2 0).2.1 (TX2 0).2.2.1 ∈ BIG) (hdg : decode cc pc = .ok (.getfield index, 3)) (h : (gR 2 0 M a).bind f = some r0)
    (kk : ∀ v, gR 2 0 M a = some v → f v = some r0 → J C ce sl M (pc + 3) lv (va_rf v :: st)) : J C ce sl M pc lv (va_rf a :: st) := by
  obtain ⟨v, hv, hf⟩ := bnd h
  have kk := kk v hv hf
  obtain ⟨i, rfl, hv2⟩ := bnd hv
  split at hv2
  case isFalse => cases hv2
  case isTrue hi =>
  cases hv2
  obtain ⟨p, l, e, R, s, m, args, below, meth, c, H0, A, Q, nL0, G, ad0, n0⟩ := C
  obtain ⟨hx, hb, hml, hnl, hown, hts, hKK, hH0, hA, hlk, hrt, hR, hQ, hxt⟩ := hC
  intro ad H locs ls hW hAa hag hn hvl hvs hS hl
  have he := pool_at (G := G) (ad := ad) hi.1
  rw [ent_2 hi.2.1] at he
  have k2 := kk ad H locs ls hW hAa hag hn hvl (vs_c (Vok_rf (okR_j hi.2.2)) (vs_t hvs)) hS hl
  rw [List.map_cons, phys_rf] at k2
  exact va_get (D := G.1) (ci := 2) (C := RX2) (T := TX2) (N := 9) hx hb hts inB2 hown hKK.1.1 hW.1 i he rfl 0 (by decide) (hts _ hw) (fun _ h9 => h9) rfl hdg k2
theorem J_p2_0 {C : JC} {x : Bool} {cc : ByteArray} {nL : Nat} {rm : Room} {rt : Option FieldType} {own : String} {res : Res} {ce sl : Nat} {M : Mem} {pc : Nat} {lv : List (Nat × Value)} {st : List Value} {β : Type} {r0 : β} {f : Mem → Option β} {index : Nat} {a : Option Nat} {v : Option Nat} (hC : Ok C x cc nL rm rt own res) (hin : isInit C) (hdc : (TX2 0).1 = own) (hw : Cond.fieldLink own index RX2 (TX2 0).2.1 (TX2 0).2.2.1 ∈ BIG) (hdg : decode cc pc = .ok (.putfield index, 3)) (h : (pR 2 0 M a v).bind f = some r0)
    (kk : ∀ M', pR 2 0 M a v = some M' → f M' = some r0 → J C ce sl M' (pc + 3) lv st) : J C ce sl M pc lv (va_rf v :: va_rf a :: st) := by
  obtain ⟨M', hv, hf⟩ := bnd h
  have kk := kk M' hv hf
  obtain ⟨i, rfl, hv2⟩ := bnd hv
  split at hv2
  case isFalse => cases hv2
  case isTrue hi =>
  cases hv2
  obtain ⟨p, l, e, R, s, m, args, below, meth, c, H0, A, Q, nL0, G, ad0, n0⟩ := C
  obtain ⟨hx, hb, hml, hnl, hown, hts, hKK, hH0, hA, hlk, hrt, hR, hQ, hxt⟩ := hC
  intro ad H locs ls hW hAa hag hn hvl hvs hS hl
  have he := pool_at (G := G) (ad := ad) hi.1
  rw [ent_2 hi.2] at he
  have hD := pool_D hW hAa
  have e2 : (pool G ad M).set i (ad i, .inr (2, [re ad v, re ad (mR M i 1), .int (mI M i 2), re ad (mR M i 3), re ad (mR M i 4), re ad (mR M i 5), .int (mI M i 6), re ad (mR M i 7), re ad (mR M i 8)])) = pool G ad (sR M i 0 v) := pool_set rfl hi.1 (by rw [ent_2 hi.2]; simp [sR, mI, mJ, mR, up2]) (fun j hj => ent_sR_ne hj)
  have e3 : phys ad (va_rf v) = re ad v := phys_rf ad v
  rw [List.map_cons, e3]
  skip
  exact va_putF (D := G.1) (ci := 2) (C := RX2) (T := TX2) (N := 9) (ty := tyX2 0) (v := re ad v) hx hb hts inB2 tyX2 tyX2_ok nmX2 hown hKK.1.1 hW.1 hD hS i he rfl 0 (by decide) (hts _ hw) (fun _ h9 => h9) rfl hin hdc (by decide +kernel) (by cases v <;> rfl) (by cases v <;> rfl) (Nat.le_of_ble_eq_true rfl) hdg (fun H1 locs1 hP1 hD1 hS1 => kk ad H1 locs1 ls ⟨by rw [← e2]; exact hP1, hW.2⟩ hAa hag hn hvl (vs_t (vs_t hvs)) hS1 hl)
theorem J_g2_1 {C : JC} {x : Bool} {cc : ByteArray} {nL : Nat} {rm : Room} {rt : Option FieldType} {own : String} {res : Res} {ce sl : Nat} {M : Mem} {pc : Nat} {lv : List (Nat × Value)} {st : List Value} {β : Type} {r0 : β} {f : Option Nat → Option β} {index : Nat} {a : Option Nat} (hC : Ok C x cc nL rm rt own res) (hw : Cond.fieldLink own index RX2 (TX2 1).2.1 (TX2 1).2.2.1 ∈ BIG) (hdg : decode cc pc = .ok (.getfield index, 3)) (h : (gR 2 1 M a).bind f = some r0)
    (kk : ∀ v, gR 2 1 M a = some v → f v = some r0 → J C ce sl M (pc + 3) lv (va_rf v :: st)) : J C ce sl M pc lv (va_rf a :: st) := by
  obtain ⟨v, hv, hf⟩ := bnd h
  have kk := kk v hv hf
  obtain ⟨i, rfl, hv2⟩ := bnd hv
  split at hv2
  case isFalse => cases hv2
  case isTrue hi =>
  cases hv2
  obtain ⟨p, l, e, R, s, m, args, below, meth, c, H0, A, Q, nL0, G, ad0, n0⟩ := C
  obtain ⟨hx, hb, hml, hnl, hown, hts, hKK, hH0, hA, hlk, hrt, hR, hQ, hxt⟩ := hC
  intro ad H locs ls hW hAa hag hn hvl hvs hS hl
  have he := pool_at (G := G) (ad := ad) hi.1
  rw [ent_2 hi.2.1] at he
  have k2 := kk ad H locs ls hW hAa hag hn hvl (vs_c (Vok_rf (okR_j hi.2.2)) (vs_t hvs)) hS hl
  rw [List.map_cons, phys_rf] at k2
  exact va_get (D := G.1) (ci := 2) (C := RX2) (T := TX2) (N := 9) hx hb hts inB2 hown hKK.1.1 hW.1 i he rfl 1 (by decide) (hts _ hw) (fun _ h9 => h9) rfl hdg k2
theorem J_p2_1 {C : JC} {x : Bool} {cc : ByteArray} {nL : Nat} {rm : Room} {rt : Option FieldType} {own : String} {res : Res} {ce sl : Nat} {M : Mem} {pc : Nat} {lv : List (Nat × Value)} {st : List Value} {β : Type} {r0 : β} {f : Mem → Option β} {index : Nat} {a : Option Nat} {v : Option Nat} (hC : Ok C x cc nL rm rt own res) (hin : isInit C) (hdc : (TX2 1).1 = own) (hw : Cond.fieldLink own index RX2 (TX2 1).2.1 (TX2 1).2.2.1 ∈ BIG) (hdg : decode cc pc = .ok (.putfield index, 3)) (h : (pR 2 1 M a v).bind f = some r0)
    (kk : ∀ M', pR 2 1 M a v = some M' → f M' = some r0 → J C ce sl M' (pc + 3) lv st) : J C ce sl M pc lv (va_rf v :: va_rf a :: st) := by
  obtain ⟨M', hv, hf⟩ := bnd h
  have kk := kk M' hv hf
  obtain ⟨i, rfl, hv2⟩ := bnd hv
  split at hv2
  case isFalse => cases hv2
  case isTrue hi =>
  cases hv2
  obtain ⟨p, l, e, R, s, m, args, below, meth, c, H0, A, Q, nL0, G, ad0, n0⟩ := C
  obtain ⟨hx, hb, hml, hnl, hown, hts, hKK, hH0, hA, hlk, hrt, hR, hQ, hxt⟩ := hC
  intro ad H locs ls hW hAa hag hn hvl hvs hS hl
  have he := pool_at (G := G) (ad := ad) hi.1
  rw [ent_2 hi.2] at he
  have hD := pool_D hW hAa
  have e2 : (pool G ad M).set i (ad i, .inr (2, [re ad (mR M i 0), re ad v, .int (mI M i 2), re ad (mR M i 3), re ad (mR M i 4), re ad (mR M i 5), .int (mI M i 6), re ad (mR M i 7), re ad (mR M i 8)])) = pool G ad (sR M i 1 v) := pool_set rfl hi.1 (by rw [ent_2 hi.2]; simp [sR, mI, mJ, mR, up2]) (fun j hj => ent_sR_ne hj)
  have e3 : phys ad (va_rf v) = re ad v := phys_rf ad v
  rw [List.map_cons, e3]
  skip
  exact va_putF (D := G.1) (ci := 2) (C := RX2) (T := TX2) (N := 9) (ty := tyX2 1) (v := re ad v) hx hb hts inB2 tyX2 tyX2_ok nmX2 hown hKK.1.1 hW.1 hD hS i he rfl 1 (by decide) (hts _ hw) (fun _ h9 => h9) rfl hin hdc (by decide +kernel) (by cases v <;> rfl) (by cases v <;> rfl) (Nat.le_of_ble_eq_true rfl) hdg (fun H1 locs1 hP1 hD1 hS1 => kk ad H1 locs1 ls ⟨by rw [← e2]; exact hP1, hW.2⟩ hAa hag hn hvl (vs_t (vs_t hvs)) hS1 hl)
theorem J_g2_2 {C : JC} {x : Bool} {cc : ByteArray} {nL : Nat} {rm : Room} {rt : Option FieldType} {own : String} {res : Res} {ce sl : Nat} {M : Mem} {pc : Nat} {lv : List (Nat × Value)} {st : List Value} {β : Type} {r0 : β} {f : Int32 → Option β} {index : Nat} {a : Option Nat} (hC : Ok C x cc nL rm rt own res) (hw : Cond.fieldLink own index RX2 (TX2 2).2.1 (TX2 2).2.2.1 ∈ BIG) (hdg : decode cc pc = .ok (.getfield index, 3)) (h : (gI 2 2 M a).bind f = some r0)
    (kk : ∀ v, gI 2 2 M a = some v → f v = some r0 → J C ce sl M (pc + 3) lv (.int v :: st)) : J C ce sl M pc lv (va_rf a :: st) := by
  obtain ⟨v, hv, hf⟩ := bnd h
  have kk := kk v hv hf
  obtain ⟨i, rfl, hv2⟩ := bnd hv
  split at hv2
  case isFalse => cases hv2
  case isTrue hi =>
  cases hv2
  obtain ⟨p, l, e, R, s, m, args, below, meth, c, H0, A, Q, nL0, G, ad0, n0⟩ := C
  obtain ⟨hx, hb, hml, hnl, hown, hts, hKK, hH0, hA, hlk, hrt, hR, hQ, hxt⟩ := hC
  intro ad H locs ls hW hAa hag hn hvl hvs hS hl
  have he := pool_at (G := G) (ad := ad) hi.1
  rw [ent_2 hi.2] at he
  have k2 := kk ad H locs ls hW hAa hag hn hvl (vs_c Vok_int (vs_t hvs)) hS hl
  skip
  exact va_get (D := G.1) (ci := 2) (C := RX2) (T := TX2) (N := 9) hx hb hts inB2 hown hKK.1.1 hW.1 i he rfl 2 (by decide) (hts _ hw) (fun _ h9 => h9) rfl hdg k2
theorem J_p2_2 {C : JC} {x : Bool} {cc : ByteArray} {nL : Nat} {rm : Room} {rt : Option FieldType} {own : String} {res : Res} {ce sl : Nat} {M : Mem} {pc : Nat} {lv : List (Nat × Value)} {st : List Value} {β : Type} {r0 : β} {f : Mem → Option β} {index : Nat} {a : Option Nat} {v : Int32} (hC : Ok C x cc nL rm rt own res) (hw : Cond.fieldLink own index RX2 (TX2 2).2.1 (TX2 2).2.2.1 ∈ BIG) (hdg : decode cc pc = .ok (.putfield index, 3)) (h : (pI 2 2 M a v).bind f = some r0)
    (kk : ∀ M', pI 2 2 M a v = some M' → f M' = some r0 → J C ce sl M' (pc + 3) lv st) : J C ce sl M pc lv (.int v :: va_rf a :: st) := by
  obtain ⟨M', hv, hf⟩ := bnd h
  have kk := kk M' hv hf
  obtain ⟨i, rfl, hv2⟩ := bnd hv
  split at hv2
  case isFalse => cases hv2
  case isTrue hi =>
  cases hv2
  obtain ⟨p, l, e, R, s, m, args, below, meth, c, H0, A, Q, nL0, G, ad0, n0⟩ := C
  obtain ⟨hx, hb, hml, hnl, hown, hts, hKK, hH0, hA, hlk, hrt, hR, hQ, hxt⟩ := hC
  intro ad H locs ls hW hAa hag hn hvl hvs hS hl
  have he := pool_at (G := G) (ad := ad) hi.1
  rw [ent_2 hi.2] at he
  have hD := pool_D hW hAa
  have e2 : (pool G ad M).set i (ad i, .inr (2, [re ad (mR M i 0), re ad (mR M i 1), .int v, re ad (mR M i 3), re ad (mR M i 4), re ad (mR M i 5), .int (mI M i 6), re ad (mR M i 7), re ad (mR M i 8)])) = pool G ad (sI M i 2 v) := pool_set rfl hi.1 (by rw [ent_2 hi.2]; simp [sI, mI, mJ, mR, up2]) (fun j hj => ent_sI_ne hj)
  skip
  skip
  skip
  exact va_put (D := G.1) (ci := 2) (C := RX2) (T := TX2) (N := 9) (ty := tyX2 2) (v := .int v) hx hb hts inB2 tyX2 tyX2_ok nmX2 hown hKK.1.1 hW.1 hD hS i he rfl 2 (by decide) (hts _ hw) (fun _ h9 => h9) rfl (by decide +kernel) rfl rfl (Nat.le_of_ble_eq_true rfl) hdg (fun H1 locs1 hP1 hD1 hS1 => kk ad H1 locs1 ls ⟨by rw [← e2]; exact hP1, hW.2⟩ hAa hag hn hvl (vs_t (vs_t hvs)) hS1 hl)
theorem J_g2_3 {C : JC} {x : Bool} {cc : ByteArray} {nL : Nat} {rm : Room} {rt : Option FieldType} {own : String} {res : Res} {ce sl : Nat} {M : Mem} {pc : Nat} {lv : List (Nat × Value)} {st : List Value} {β : Type} {r0 : β} {f : Option Nat → Option β} {index : Nat} {a : Option Nat} (hC : Ok C x cc nL rm rt own res) (hw : Cond.fieldLink own index RX2 (TX2 3).2.1 (TX2 3).2.2.1 ∈ BIG) (hdg : decode cc pc = .ok (.getfield index, 3)) (h : (gR 2 3 M a).bind f = some r0)
    (kk : ∀ v, gR 2 3 M a = some v → f v = some r0 → J C ce sl M (pc + 3) lv (va_rf v :: st)) : J C ce sl M pc lv (va_rf a :: st) := by
  obtain ⟨v, hv, hf⟩ := bnd h
  have kk := kk v hv hf
  obtain ⟨i, rfl, hv2⟩ := bnd hv
  split at hv2
  case isFalse => cases hv2
  case isTrue hi =>
  cases hv2
  obtain ⟨p, l, e, R, s, m, args, below, meth, c, H0, A, Q, nL0, G, ad0, n0⟩ := C
  obtain ⟨hx, hb, hml, hnl, hown, hts, hKK, hH0, hA, hlk, hrt, hR, hQ, hxt⟩ := hC
  intro ad H locs ls hW hAa hag hn hvl hvs hS hl
  have he := pool_at (G := G) (ad := ad) hi.1
  rw [ent_2 hi.2.1] at he
  have k2 := kk ad H locs ls hW hAa hag hn hvl (vs_c (Vok_rf (okR_j hi.2.2)) (vs_t hvs)) hS hl
  rw [List.map_cons, phys_rf] at k2
  exact va_get (D := G.1) (ci := 2) (C := RX2) (T := TX2) (N := 9) hx hb hts inB2 hown hKK.1.1 hW.1 i he rfl 3 (by decide) (hts _ hw) (fun _ h9 => h9) rfl hdg k2
theorem J_p2_3 {C : JC} {x : Bool} {cc : ByteArray} {nL : Nat} {rm : Room} {rt : Option FieldType} {own : String} {res : Res} {ce sl : Nat} {M : Mem} {pc : Nat} {lv : List (Nat × Value)} {st : List Value} {β : Type} {r0 : β} {f : Mem → Option β} {index : Nat} {a : Option Nat} {v : Option Nat} (hC : Ok C x cc nL rm rt own res) (hin : isInit C) (hdc : (TX2 3).1 = own) (hw : Cond.fieldLink own index RX2 (TX2 3).2.1 (TX2 3).2.2.1 ∈ BIG) (hdg : decode cc pc = .ok (.putfield index, 3)) (h : (pR 2 3 M a v).bind f = some r0)
    (kk : ∀ M', pR 2 3 M a v = some M' → f M' = some r0 → J C ce sl M' (pc + 3) lv st) : J C ce sl M pc lv (va_rf v :: va_rf a :: st) := by
  obtain ⟨M', hv, hf⟩ := bnd h
  have kk := kk M' hv hf
  obtain ⟨i, rfl, hv2⟩ := bnd hv
  split at hv2
  case isFalse => cases hv2
  case isTrue hi =>
  cases hv2
  obtain ⟨p, l, e, R, s, m, args, below, meth, c, H0, A, Q, nL0, G, ad0, n0⟩ := C
  obtain ⟨hx, hb, hml, hnl, hown, hts, hKK, hH0, hA, hlk, hrt, hR, hQ, hxt⟩ := hC
  intro ad H locs ls hW hAa hag hn hvl hvs hS hl
  have he := pool_at (G := G) (ad := ad) hi.1
  rw [ent_2 hi.2] at he
  have hD := pool_D hW hAa
  have e2 : (pool G ad M).set i (ad i, .inr (2, [re ad (mR M i 0), re ad (mR M i 1), .int (mI M i 2), re ad v, re ad (mR M i 4), re ad (mR M i 5), .int (mI M i 6), re ad (mR M i 7), re ad (mR M i 8)])) = pool G ad (sR M i 3 v) := pool_set rfl hi.1 (by rw [ent_2 hi.2]; simp [sR, mI, mJ, mR, up2]) (fun j hj => ent_sR_ne hj)
  have e3 : phys ad (va_rf v) = re ad v := phys_rf ad v
  rw [List.map_cons, e3]
  skip
  exact va_putF (D := G.1) (ci := 2) (C := RX2) (T := TX2) (N := 9) (ty := tyX2 3) (v := re ad v) hx hb hts inB2 tyX2 tyX2_ok nmX2 hown hKK.1.1 hW.1 hD hS i he rfl 3 (by decide) (hts _ hw) (fun _ h9 => h9) rfl hin hdc (by decide +kernel) (by cases v <;> rfl) (by cases v <;> rfl) (Nat.le_of_ble_eq_true rfl) hdg (fun H1 locs1 hP1 hD1 hS1 => kk ad H1 locs1 ls ⟨by rw [← e2]; exact hP1, hW.2⟩ hAa hag hn hvl (vs_t (vs_t hvs)) hS1 hl)
theorem J_g2_4 {C : JC} {x : Bool} {cc : ByteArray} {nL : Nat} {rm : Room} {rt : Option FieldType} {own : String} {res : Res} {ce sl : Nat} {M : Mem} {pc : Nat} {lv : List (Nat × Value)} {st : List Value} {β : Type} {r0 : β} {f : Option Nat → Option β} {index : Nat} {a : Option Nat} (hC : Ok C x cc nL rm rt own res) (hw : Cond.fieldLink own index RX2 (TX2 4).2.1 (TX2 4).2.2.1 ∈ BIG) (hdg : decode cc pc = .ok (.getfield index, 3)) (h : (gR 2 4 M a).bind f = some r0)
    (kk : ∀ v, gR 2 4 M a = some v → f v = some r0 → J C ce sl M (pc + 3) lv (va_rf v :: st)) : J C ce sl M pc lv (va_rf a :: st) := by
  obtain ⟨v, hv, hf⟩ := bnd h
  have kk := kk v hv hf
  obtain ⟨i, rfl, hv2⟩ := bnd hv
  split at hv2
  case isFalse => cases hv2
  case isTrue hi =>
  cases hv2
  obtain ⟨p, l, e, R, s, m, args, below, meth, c, H0, A, Q, nL0, G, ad0, n0⟩ := C
  obtain ⟨hx, hb, hml, hnl, hown, hts, hKK, hH0, hA, hlk, hrt, hR, hQ, hxt⟩ := hC
  intro ad H locs ls hW hAa hag hn hvl hvs hS hl
  have he := pool_at (G := G) (ad := ad) hi.1
  rw [ent_2 hi.2.1] at he
  have k2 := kk ad H locs ls hW hAa hag hn hvl (vs_c (Vok_rf (okR_j hi.2.2)) (vs_t hvs)) hS hl
  rw [List.map_cons, phys_rf] at k2
  exact va_get (D := G.1) (ci := 2) (C := RX2) (T := TX2) (N := 9) hx hb hts inB2 hown hKK.1.1 hW.1 i he rfl 4 (by decide) (hts _ hw) (fun _ h9 => h9) rfl hdg k2
theorem J_p2_4 {C : JC} {x : Bool} {cc : ByteArray} {nL : Nat} {rm : Room} {rt : Option FieldType} {own : String} {res : Res} {ce sl : Nat} {M : Mem} {pc : Nat} {lv : List (Nat × Value)} {st : List Value} {β : Type} {r0 : β} {f : Mem → Option β} {index : Nat} {a : Option Nat} {v : Option Nat} (hC : Ok C x cc nL rm rt own res) (hin : isInit C) (hdc : (TX2 4).1 = own) (hw : Cond.fieldLink own index RX2 (TX2 4).2.1 (TX2 4).2.2.1 ∈ BIG) (hdg : decode cc pc = .ok (.putfield index, 3)) (h : (pR 2 4 M a v).bind f = some r0)
    (kk : ∀ M', pR 2 4 M a v = some M' → f M' = some r0 → J C ce sl M' (pc + 3) lv st) : J C ce sl M pc lv (va_rf v :: va_rf a :: st) := by
  obtain ⟨M', hv, hf⟩ := bnd h
  have kk := kk M' hv hf
  obtain ⟨i, rfl, hv2⟩ := bnd hv
  split at hv2
  case isFalse => cases hv2
  case isTrue hi =>
  cases hv2
  obtain ⟨p, l, e, R, s, m, args, below, meth, c, H0, A, Q, nL0, G, ad0, n0⟩ := C
  obtain ⟨hx, hb, hml, hnl, hown, hts, hKK, hH0, hA, hlk, hrt, hR, hQ, hxt⟩ := hC
  intro ad H locs ls hW hAa hag hn hvl hvs hS hl
  have he := pool_at (G := G) (ad := ad) hi.1
  rw [ent_2 hi.2] at he
  have hD := pool_D hW hAa
  have e2 : (pool G ad M).set i (ad i, .inr (2, [re ad (mR M i 0), re ad (mR M i 1), .int (mI M i 2), re ad (mR M i 3), re ad v, re ad (mR M i 5), .int (mI M i 6), re ad (mR M i 7), re ad (mR M i 8)])) = pool G ad (sR M i 4 v) := pool_set rfl hi.1 (by rw [ent_2 hi.2]; simp [sR, mI, mJ, mR, up2]) (fun j hj => ent_sR_ne hj)
  have e3 : phys ad (va_rf v) = re ad v := phys_rf ad v
  rw [List.map_cons, e3]
  skip
  exact va_putF (D := G.1) (ci := 2) (C := RX2) (T := TX2) (N := 9) (ty := tyX2 4) (v := re ad v) hx hb hts inB2 tyX2 tyX2_ok nmX2 hown hKK.1.1 hW.1 hD hS i he rfl 4 (by decide) (hts _ hw) (fun _ h9 => h9) rfl hin hdc (by decide +kernel) (by cases v <;> rfl) (by cases v <;> rfl) (Nat.le_of_ble_eq_true rfl) hdg (fun H1 locs1 hP1 hD1 hS1 => kk ad H1 locs1 ls ⟨by rw [← e2]; exact hP1, hW.2⟩ hAa hag hn hvl (vs_t (vs_t hvs)) hS1 hl)
theorem J_g2_5 {C : JC} {x : Bool} {cc : ByteArray} {nL : Nat} {rm : Room} {rt : Option FieldType} {own : String} {res : Res} {ce sl : Nat} {M : Mem} {pc : Nat} {lv : List (Nat × Value)} {st : List Value} {β : Type} {r0 : β} {f : Option Nat → Option β} {index : Nat} {a : Option Nat} (hC : Ok C x cc nL rm rt own res) (hw : Cond.fieldLink own index RX2 (TX2 5).2.1 (TX2 5).2.2.1 ∈ BIG) (hdg : decode cc pc = .ok (.getfield index, 3)) (h : (gR 2 5 M a).bind f = some r0)
    (kk : ∀ v, gR 2 5 M a = some v → f v = some r0 → J C ce sl M (pc + 3) lv (va_rf v :: st)) : J C ce sl M pc lv (va_rf a :: st) := by
  obtain ⟨v, hv, hf⟩ := bnd h
  have kk := kk v hv hf
  obtain ⟨i, rfl, hv2⟩ := bnd hv
  split at hv2
  case isFalse => cases hv2
  case isTrue hi =>
  cases hv2
  obtain ⟨p, l, e, R, s, m, args, below, meth, c, H0, A, Q, nL0, G, ad0, n0⟩ := C
  obtain ⟨hx, hb, hml, hnl, hown, hts, hKK, hH0, hA, hlk, hrt, hR, hQ, hxt⟩ := hC
  intro ad H locs ls hW hAa hag hn hvl hvs hS hl
  have he := pool_at (G := G) (ad := ad) hi.1
  rw [ent_2 hi.2.1] at he
  have k2 := kk ad H locs ls hW hAa hag hn hvl (vs_c (Vok_rf (okR_j hi.2.2)) (vs_t hvs)) hS hl
  rw [List.map_cons, phys_rf] at k2
  exact va_get (D := G.1) (ci := 2) (C := RX2) (T := TX2) (N := 9) hx hb hts inB2 hown hKK.1.1 hW.1 i he rfl 5 (by decide) (hts _ hw) (fun _ h9 => h9) rfl hdg k2
theorem J_p2_5 {C : JC} {x : Bool} {cc : ByteArray} {nL : Nat} {rm : Room} {rt : Option FieldType} {own : String} {res : Res} {ce sl : Nat} {M : Mem} {pc : Nat} {lv : List (Nat × Value)} {st : List Value} {β : Type} {r0 : β} {f : Mem → Option β} {index : Nat} {a : Option Nat} {v : Option Nat} (hC : Ok C x cc nL rm rt own res) (hin : isInit C) (hdc : (TX2 5).1 = own) (hw : Cond.fieldLink own index RX2 (TX2 5).2.1 (TX2 5).2.2.1 ∈ BIG) (hdg : decode cc pc = .ok (.putfield index, 3)) (h : (pR 2 5 M a v).bind f = some r0)
    (kk : ∀ M', pR 2 5 M a v = some M' → f M' = some r0 → J C ce sl M' (pc + 3) lv st) : J C ce sl M pc lv (va_rf v :: va_rf a :: st) := by
  obtain ⟨M', hv, hf⟩ := bnd h
  have kk := kk M' hv hf
  obtain ⟨i, rfl, hv2⟩ := bnd hv
  split at hv2
  case isFalse => cases hv2
  case isTrue hi =>
  cases hv2
  obtain ⟨p, l, e, R, s, m, args, below, meth, c, H0, A, Q, nL0, G, ad0, n0⟩ := C
  obtain ⟨hx, hb, hml, hnl, hown, hts, hKK, hH0, hA, hlk, hrt, hR, hQ, hxt⟩ := hC
  intro ad H locs ls hW hAa hag hn hvl hvs hS hl
  have he := pool_at (G := G) (ad := ad) hi.1
  rw [ent_2 hi.2] at he
  have hD := pool_D hW hAa
  have e2 : (pool G ad M).set i (ad i, .inr (2, [re ad (mR M i 0), re ad (mR M i 1), .int (mI M i 2), re ad (mR M i 3), re ad (mR M i 4), re ad v, .int (mI M i 6), re ad (mR M i 7), re ad (mR M i 8)])) = pool G ad (sR M i 5 v) := pool_set rfl hi.1 (by rw [ent_2 hi.2]; simp [sR, mI, mJ, mR, up2]) (fun j hj => ent_sR_ne hj)
  have e3 : phys ad (va_rf v) = re ad v := phys_rf ad v
  rw [List.map_cons, e3]
  skip
  exact va_putF (D := G.1) (ci := 2) (C := RX2) (T := TX2) (N := 9) (ty := tyX2 5) (v := re ad v) hx hb hts inB2 tyX2 tyX2_ok nmX2 hown hKK.1.1 hW.1 hD hS i he rfl 5 (by decide) (hts _ hw) (fun _ h9 => h9) rfl hin hdc (by decide +kernel) (by cases v <;> rfl) (by cases v <;> rfl) (Nat.le_of_ble_eq_true rfl) hdg (fun H1 locs1 hP1 hD1 hS1 => kk ad H1 locs1 ls ⟨by rw [← e2]; exact hP1, hW.2⟩ hAa hag hn hvl (vs_t (vs_t hvs)) hS1 hl)
theorem J_g2_6 {C : JC} {x : Bool} {cc : ByteArray} {nL : Nat} {rm : Room} {rt : Option FieldType} {own : String} {res : Res} {ce sl : Nat} {M : Mem} {pc : Nat} {lv : List (Nat × Value)} {st : List Value} {β : Type} {r0 : β} {f : Int32 → Option β} {index : Nat} {a : Option Nat} (hC : Ok C x cc nL rm rt own res) (hw : Cond.fieldLink own index RX2 (TX2 6).2.1 (TX2 6).2.2.1 ∈ BIG) (hdg : decode cc pc = .ok (.getfield index, 3)) (h : (gI 2 6 M a).bind f = some r0)
    (kk : ∀ v, gI 2 6 M a = some v → f v = some r0 → J C ce sl M (pc + 3) lv (.int v :: st)) : J C ce sl M pc lv (va_rf a :: st) := by
  obtain ⟨v, hv, hf⟩ := bnd h
  have kk := kk v hv hf
  obtain ⟨i, rfl, hv2⟩ := bnd hv
  split at hv2
  case isFalse => cases hv2
  case isTrue hi =>
  cases hv2
  obtain ⟨p, l, e, R, s, m, args, below, meth, c, H0, A, Q, nL0, G, ad0, n0⟩ := C
  obtain ⟨hx, hb, hml, hnl, hown, hts, hKK, hH0, hA, hlk, hrt, hR, hQ, hxt⟩ := hC
  intro ad H locs ls hW hAa hag hn hvl hvs hS hl
  have he := pool_at (G := G) (ad := ad) hi.1
  rw [ent_2 hi.2] at he
  have k2 := kk ad H locs ls hW hAa hag hn hvl (vs_c Vok_int (vs_t hvs)) hS hl
  skip
  exact va_get (D := G.1) (ci := 2) (C := RX2) (T := TX2) (N := 9) hx hb hts inB2 hown hKK.1.1 hW.1 i he rfl 6 (by decide) (hts _ hw) (fun _ h9 => h9) rfl hdg k2
theorem J_p2_6 {C : JC} {x : Bool} {cc : ByteArray} {nL : Nat} {rm : Room} {rt : Option FieldType} {own : String} {res : Res} {ce sl : Nat} {M : Mem} {pc : Nat} {lv : List (Nat × Value)} {st : List Value} {β : Type} {r0 : β} {f : Mem → Option β} {index : Nat} {a : Option Nat} {v : Int32} (hC : Ok C x cc nL rm rt own res) (hw : Cond.fieldLink own index RX2 (TX2 6).2.1 (TX2 6).2.2.1 ∈ BIG) (hdg : decode cc pc = .ok (.putfield index, 3)) (h : (pI 2 6 M a v).bind f = some r0)
    (kk : ∀ M', pI 2 6 M a v = some M' → f M' = some r0 → J C ce sl M' (pc + 3) lv st) : J C ce sl M pc lv (.int v :: va_rf a :: st) := by
  obtain ⟨M', hv, hf⟩ := bnd h
  have kk := kk M' hv hf
  obtain ⟨i, rfl, hv2⟩ := bnd hv
  split at hv2
  case isFalse => cases hv2
  case isTrue hi =>
  cases hv2
  obtain ⟨p, l, e, R, s, m, args, below, meth, c, H0, A, Q, nL0, G, ad0, n0⟩ := C
  obtain ⟨hx, hb, hml, hnl, hown, hts, hKK, hH0, hA, hlk, hrt, hR, hQ, hxt⟩ := hC
  intro ad H locs ls hW hAa hag hn hvl hvs hS hl
  have he := pool_at (G := G) (ad := ad) hi.1
  rw [ent_2 hi.2] at he
  have hD := pool_D hW hAa
  have e2 : (pool G ad M).set i (ad i, .inr (2, [re ad (mR M i 0), re ad (mR M i 1), .int (mI M i 2), re ad (mR M i 3), re ad (mR M i 4), re ad (mR M i 5), .int v, re ad (mR M i 7), re ad (mR M i 8)])) = pool G ad (sI M i 6 v) := pool_set rfl hi.1 (by rw [ent_2 hi.2]; simp [sI, mI, mJ, mR, up2]) (fun j hj => ent_sI_ne hj)
  skip
  skip
  skip
  exact va_put (D := G.1) (ci := 2) (C := RX2) (T := TX2) (N := 9) (ty := tyX2 6) (v := .int v) hx hb hts inB2 tyX2 tyX2_ok nmX2 hown hKK.1.1 hW.1 hD hS i he rfl 6 (by decide) (hts _ hw) (fun _ h9 => h9) rfl (by decide +kernel) rfl rfl (Nat.le_of_ble_eq_true rfl) hdg (fun H1 locs1 hP1 hD1 hS1 => kk ad H1 locs1 ls ⟨by rw [← e2]; exact hP1, hW.2⟩ hAa hag hn hvl (vs_t (vs_t hvs)) hS1 hl)
theorem J_g2_7 {C : JC} {x : Bool} {cc : ByteArray} {nL : Nat} {rm : Room} {rt : Option FieldType} {own : String} {res : Res} {ce sl : Nat} {M : Mem} {pc : Nat} {lv : List (Nat × Value)} {st : List Value} {β : Type} {r0 : β} {f : Option Nat → Option β} {index : Nat} {a : Option Nat} (hC : Ok C x cc nL rm rt own res) (hw : Cond.fieldLink own index RX2 (TX2 7).2.1 (TX2 7).2.2.1 ∈ BIG) (hdg : decode cc pc = .ok (.getfield index, 3)) (h : (gR 2 7 M a).bind f = some r0)
    (kk : ∀ v, gR 2 7 M a = some v → f v = some r0 → J C ce sl M (pc + 3) lv (va_rf v :: st)) : J C ce sl M pc lv (va_rf a :: st) := by
  obtain ⟨v, hv, hf⟩ := bnd h
  have kk := kk v hv hf
  obtain ⟨i, rfl, hv2⟩ := bnd hv
  split at hv2
  case isFalse => cases hv2
  case isTrue hi =>
  cases hv2
  obtain ⟨p, l, e, R, s, m, args, below, meth, c, H0, A, Q, nL0, G, ad0, n0⟩ := C
  obtain ⟨hx, hb, hml, hnl, hown, hts, hKK, hH0, hA, hlk, hrt, hR, hQ, hxt⟩ := hC
  intro ad H locs ls hW hAa hag hn hvl hvs hS hl
  have he := pool_at (G := G) (ad := ad) hi.1
  rw [ent_2 hi.2.1] at he
  have k2 := kk ad H locs ls hW hAa hag hn hvl (vs_c (Vok_rf (okR_j hi.2.2)) (vs_t hvs)) hS hl
  rw [List.map_cons, phys_rf] at k2
  exact va_get (D := G.1) (ci := 2) (C := RX2) (T := TX2) (N := 9) hx hb hts inB2 hown hKK.1.1 hW.1 i he rfl 7 (by decide) (hts _ hw) (fun _ h9 => h9) rfl hdg k2
theorem J_p2_7 {C : JC} {x : Bool} {cc : ByteArray} {nL : Nat} {rm : Room} {rt : Option FieldType} {own : String} {res : Res} {ce sl : Nat} {M : Mem} {pc : Nat} {lv : List (Nat × Value)} {st : List Value} {β : Type} {r0 : β} {f : Mem → Option β} {index : Nat} {a : Option Nat} {v : Option Nat} (hC : Ok C x cc nL rm rt own res) (hin : isInit C) (hdc : (TX2 7).1 = own) (hw : Cond.fieldLink own index RX2 (TX2 7).2.1 (TX2 7).2.2.1 ∈ BIG) (hdg : decode cc pc = .ok (.putfield index, 3)) (h : (pR 2 7 M a v).bind f = some r0)
    (kk : ∀ M', pR 2 7 M a v = some M' → f M' = some r0 → J C ce sl M' (pc + 3) lv st) : J C ce sl M pc lv (va_rf v :: va_rf a :: st) := by
  obtain ⟨M', hv, hf⟩ := bnd h
  have kk := kk M' hv hf
  obtain ⟨i, rfl, hv2⟩ := bnd hv
  split at hv2
  case isFalse => cases hv2
  case isTrue hi =>
  cases hv2
  obtain ⟨p, l, e, R, s, m, args, below, meth, c, H0, A, Q, nL0, G, ad0, n0⟩ := C
  obtain ⟨hx, hb, hml, hnl, hown, hts, hKK, hH0, hA, hlk, hrt, hR, hQ, hxt⟩ := hC
  intro ad H locs ls hW hAa hag hn hvl hvs hS hl
  have he := pool_at (G := G) (ad := ad) hi.1
  rw [ent_2 hi.2] at he
  have hD := pool_D hW hAa
  have e2 : (pool G ad M).set i (ad i, .inr (2, [re ad (mR M i 0), re ad (mR M i 1), .int (mI M i 2), re ad (mR M i 3), re ad (mR M i 4), re ad (mR M i 5), .int (mI M i 6), re ad v, re ad (mR M i 8)])) = pool G ad (sR M i 7 v) := pool_set rfl hi.1 (by rw [ent_2 hi.2]; simp [sR, mI, mJ, mR, up2]) (fun j hj => ent_sR_ne hj)
  have e3 : phys ad (va_rf v) = re ad v := phys_rf ad v
  rw [List.map_cons, e3]
  skip
  exact va_putF (D := G.1) (ci := 2) (C := RX2) (T := TX2) (N := 9) (ty := tyX2 7) (v := re ad v) hx hb hts inB2 tyX2 tyX2_ok nmX2 hown hKK.1.1 hW.1 hD hS i he rfl 7 (by decide) (hts _ hw) (fun _ h9 => h9) rfl hin hdc (by decide +kernel) (by cases v <;> rfl) (by cases v <;> rfl) (Nat.le_of_ble_eq_true rfl) hdg (fun H1 locs1 hP1 hD1 hS1 => kk ad H1 locs1 ls ⟨by rw [← e2]; exact hP1, hW.2⟩ hAa hag hn hvl (vs_t (vs_t hvs)) hS1 hl)
theorem J_g2_8 {C : JC} {x : Bool} {cc : ByteArray} {nL : Nat} {rm : Room} {rt : Option FieldType} {own : String} {res : Res} {ce sl : Nat} {M : Mem} {pc : Nat} {lv : List (Nat × Value)} {st : List Value} {β : Type} {r0 : β} {f : Option Nat → Option β} {index : Nat} {a : Option Nat} (hC : Ok C x cc nL rm rt own res) (hw : Cond.fieldLink own index RX2 (TX2 8).2.1 (TX2 8).2.2.1 ∈ BIG) (hdg : decode cc pc = .ok (.getfield index, 3)) (h : (gR 2 8 M a).bind f = some r0)
    (kk : ∀ v, gR 2 8 M a = some v → f v = some r0 → J C ce sl M (pc + 3) lv (va_rf v :: st)) : J C ce sl M pc lv (va_rf a :: st) := by
  obtain ⟨v, hv, hf⟩ := bnd h
  have kk := kk v hv hf
  obtain ⟨i, rfl, hv2⟩ := bnd hv
  split at hv2
  case isFalse => cases hv2
  case isTrue hi =>
  cases hv2
  obtain ⟨p, l, e, R, s, m, args, below, meth, c, H0, A, Q, nL0, G, ad0, n0⟩ := C
  obtain ⟨hx, hb, hml, hnl, hown, hts, hKK, hH0, hA, hlk, hrt, hR, hQ, hxt⟩ := hC
  intro ad H locs ls hW hAa hag hn hvl hvs hS hl
  have he := pool_at (G := G) (ad := ad) hi.1
  rw [ent_2 hi.2.1] at he
  have k2 := kk ad H locs ls hW hAa hag hn hvl (vs_c (Vok_rf (okR_j hi.2.2)) (vs_t hvs)) hS hl
  rw [List.map_cons, phys_rf] at k2
  exact va_get (D := G.1) (ci := 2) (C := RX2) (T := TX2) (N := 9) hx hb hts inB2 hown hKK.1.1 hW.1 i he rfl 8 (by decide) (hts _ hw) (fun _ h9 => h9) rfl hdg k2
theorem J_p2_8 {C : JC} {x : Bool} {cc : ByteArray} {nL : Nat} {rm : Room} {rt : Option FieldType} {own : String} {res : Res} {ce sl : Nat} {M : Mem} {pc : Nat} {lv : List (Nat × Value)} {st : List Value} {β : Type} {r0 : β} {f : Mem → Option β} {index : Nat} {a : Option Nat} {v : Option Nat} (hC : Ok C x cc nL rm rt own res) (hin : isInit C) (hdc : (TX2 8).1 = own) (hw : Cond.fieldLink own index RX2 (TX2 8).2.1 (TX2 8).2.2.1 ∈ BIG) (hdg : decode cc pc = .ok (.putfield index, 3)) (h : (pR 2 8 M a v).bind f = some r0)
    (kk : ∀ M', pR 2 8 M a v = some M' → f M' = some r0 → J C ce sl M' (pc + 3) lv st) : J C ce sl M pc lv (va_rf v :: va_rf a :: st) := by
  obtain ⟨M', hv, hf⟩ := bnd h
  have kk := kk M' hv hf
  obtain ⟨i, rfl, hv2⟩ := bnd hv
  split at hv2
  case isFalse => cases hv2
  case isTrue hi =>
  cases hv2
  obtain ⟨p, l, e, R, s, m, args, below, meth, c, H0, A, Q, nL0, G, ad0, n0⟩ := C
  obtain ⟨hx, hb, hml, hnl, hown, hts, hKK, hH0, hA, hlk, hrt, hR, hQ, hxt⟩ := hC
  intro ad H locs ls hW hAa hag hn hvl hvs hS hl
  have he := pool_at (G := G) (ad := ad) hi.1
  rw [ent_2 hi.2] at he
  have hD := pool_D hW hAa
  have e2 : (pool G ad M).set i (ad i, .inr (2, [re ad (mR M i 0), re ad (mR M i 1), .int (mI M i 2), re ad (mR M i 3), re ad (mR M i 4), re ad (mR M i 5), .int (mI M i 6), re ad (mR M i 7), re ad v])) = pool G ad (sR M i 8 v) := pool_set rfl hi.1 (by rw [ent_2 hi.2]; simp [sR, mI, mJ, mR, up2]) (fun j hj => ent_sR_ne hj)
  have e3 : phys ad (va_rf v) = re ad v := phys_rf ad v
  rw [List.map_cons, e3]
  skip
  exact va_putF (D := G.1) (ci := 2) (C := RX2) (T := TX2) (N := 9) (ty := tyX2 8) (v := re ad v) hx hb hts inB2 tyX2 tyX2_ok nmX2 hown hKK.1.1 hW.1 hD hS i he rfl 8 (by decide) (hts _ hw) (fun _ h9 => h9) rfl hin hdc (by decide +kernel) (by cases v <;> rfl) (by cases v <;> rfl) (Nat.le_of_ble_eq_true rfl) hdg (fun H1 locs1 hP1 hD1 hS1 => kk ad H1 locs1 ls ⟨by rw [← e2]; exact hP1, hW.2⟩ hAa hag hn hvl (vs_t (vs_t hvs)) hS1 hl)
theorem J_g3_0 {C : JC} {x : Bool} {cc : ByteArray} {nL : Nat} {rm : Room} {rt : Option FieldType} {own : String} {res : Res} {ce sl : Nat} {M : Mem} {pc : Nat} {lv : List (Nat × Value)} {st : List Value} {β : Type} {r0 : β} {f : Int32 → Option β} {index : Nat} {a : Option Nat} (hC : Ok C x cc nL rm rt own res) (hw : Cond.fieldLink own index RX3 (TX3 0).2.1 (TX3 0).2.2.1 ∈ BIG) (hdg : decode cc pc = .ok (.getfield index, 3)) (h : (gI 3 0 M a).bind f = some r0)
    (kk : ∀ v, gI 3 0 M a = some v → f v = some r0 → J C ce sl M (pc + 3) lv (.int v :: st)) : J C ce sl M pc lv (va_rf a :: st) := by
  obtain ⟨v, hv, hf⟩ := bnd h
  have kk := kk v hv hf
  obtain ⟨i, rfl, hv2⟩ := bnd hv
  split at hv2
  case isFalse => cases hv2
  case isTrue hi =>
  cases hv2
  obtain ⟨p, l, e, R, s, m, args, below, meth, c, H0, A, Q, nL0, G, ad0, n0⟩ := C
  obtain ⟨hx, hb, hml, hnl, hown, hts, hKK, hH0, hA, hlk, hrt, hR, hQ, hxt⟩ := hC
  intro ad H locs ls hW hAa hag hn hvl hvs hS hl
  have he := pool_at (G := G) (ad := ad) hi.1
  rw [ent_3 hi.2] at he
  have k2 := kk ad H locs ls hW hAa hag hn hvl (vs_c Vok_int (vs_t hvs)) hS hl
  skip
  exact va_get (D := G.1) (ci := 3) (C := RX3) (T := TX3) (N := 13) hx hb hts inB3 hown hKK.1.1 hW.1 i he rfl 0 (by decide) (hts _ hw) (fun _ h9 => h9) rfl hdg k2
theorem J_p3_0 {C : JC} {x : Bool} {cc : ByteArray} {nL : Nat} {rm : Room} {rt : Option FieldType} {own : String} {res : Res} {ce sl : Nat} {M : Mem} {pc : Nat} {lv : List (Nat × Value)} {st : List Value} {β : Type} {r0 : β} {f : Mem → Option β} {index : Nat} {a : Option Nat} {v : Int32} (hC : Ok C x cc nL rm rt own res) (hw : Cond.fieldLink own index RX3 (TX3 0).2.1 (TX3 0).2.2.1 ∈ BIG) (hdg : decode cc pc = .ok (.putfield index, 3)) (h : (pI 3 0 M a v).bind f = some r0)
    (kk : ∀ M', pI 3 0 M a v = some M' → f M' = some r0 → J C ce sl M' (pc + 3) lv st) : J C ce sl M pc lv (.int v :: va_rf a :: st) := by
  obtain ⟨M', hv, hf⟩ := bnd h
  have kk := kk M' hv hf
  obtain ⟨i, rfl, hv2⟩ := bnd hv
  split at hv2
  case isFalse => cases hv2
  case isTrue hi =>
  cases hv2
  obtain ⟨p, l, e, R, s, m, args, below, meth, c, H0, A, Q, nL0, G, ad0, n0⟩ := C
  obtain ⟨hx, hb, hml, hnl, hown, hts, hKK, hH0, hA, hlk, hrt, hR, hQ, hxt⟩ := hC
  intro ad H locs ls hW hAa hag hn hvl hvs hS hl
  have he := pool_at (G := G) (ad := ad) hi.1
  rw [ent_3 hi.2] at he
  have hD := pool_D hW hAa
  have e2 : (pool G ad M).set i (ad i, .inr (3, [.int v, re ad (mR M i 1), re ad (mR M i 2), .int (mI M i 3), re ad (mR M i 4), re ad (mR M i 5), re ad (mR M i 6), .int (mI M i 7), re ad (mR M i 8), re ad (mR M i 9), .int (mI M i 10), re ad (mR M i 11), .long (mJ M i 12)])) = pool G ad (sI M i 0 v) := pool_set rfl hi.1 (by rw [ent_3 hi.2]; simp [sI, mI, mJ, mR, up2]) (fun j hj => ent_sI_ne hj)
  skip
  skip
  skip
  exact va_put (D := G.1) (ci := 3) (C := RX3) (T := TX3) (N := 13) (ty := tyX3 0) (v := .int v) hx hb hts inB3 tyX3 tyX3_ok nmX3 hown hKK.1.1 hW.1 hD hS i he rfl 0 (by decide) (hts _ hw) (fun _ h9 => h9) rfl (by decide +kernel) rfl rfl (Nat.le_of_ble_eq_true rfl) hdg (fun H1 locs1 hP1 hD1 hS1 => kk ad H1 locs1 ls ⟨by rw [← e2]; exact hP1, hW.2⟩ hAa hag hn hvl (vs_t (vs_t hvs)) hS1 hl)
theorem J_g3_1 {C : JC} {x : Bool} {cc : ByteArray} {nL : Nat} {rm : Room} {rt : Option FieldType} {own : String} {res : Res} {ce sl : Nat} {M : Mem} {pc : Nat} {lv : List (Nat × Value)} {st : List Value} {β : Type} {r0 : β} {f : Option Nat → Option β} {index : Nat} {a : Option Nat} (hC : Ok C x cc nL rm rt own res) (hw : Cond.fieldLink own index RX3 (TX3 1).2.1 (TX3 1).2.2.1 ∈ BIG) (hdg : decode cc pc = .ok (.getfield index, 3)) (h : (gR 3 1 M a).bind f = some r0)
    (kk : ∀ v, gR 3 1 M a = some v → f v = some r0 → J C ce sl M (pc + 3) lv (va_rf v :: st)) : J C ce sl M pc lv (va_rf a :: st) := by
  obtain ⟨v, hv, hf⟩ := bnd h
  have kk := kk v hv hf
  obtain ⟨i, rfl, hv2⟩ := bnd hv
  split at hv2
  case isFalse => cases hv2
  case isTrue hi =>
  cases hv2
  obtain ⟨p, l, e, R, s, m, args, below, meth, c, H0, A, Q, nL0, G, ad0, n0⟩ := C
  obtain ⟨hx, hb, hml, hnl, hown, hts, hKK, hH0, hA, hlk, hrt, hR, hQ, hxt⟩ := hC
  intro ad H locs ls hW hAa hag hn hvl hvs hS hl
  have he := pool_at (G := G) (ad := ad) hi.1
  rw [ent_3 hi.2.1] at he
  have k2 := kk ad H locs ls hW hAa hag hn hvl (vs_c (Vok_rf (okR_j hi.2.2)) (vs_t hvs)) hS hl
  rw [List.map_cons, phys_rf] at k2
  exact va_get (D := G.1) (ci := 3) (C := RX3) (T := TX3) (N := 13) hx hb hts inB3 hown hKK.1.1 hW.1 i he rfl 1 (by decide) (hts _ hw) (fun _ h9 => h9) rfl hdg k2
theorem J_p3_1 {C : JC} {x : Bool} {cc : ByteArray} {nL : Nat} {rm : Room} {rt : Option FieldType} {own : String} {res : Res} {ce sl : Nat} {M : Mem} {pc : Nat} {lv : List (Nat × Value)} {st : List Value} {β : Type} {r0 : β} {f : Mem → Option β} {index : Nat} {a : Option Nat} {v : Option Nat} (hC : Ok C x cc nL rm rt own res) (hin : isInit C) (hdc : (TX3 1).1 = own) (hw : Cond.fieldLink own index RX3 (TX3 1).2.1 (TX3 1).2.2.1 ∈ BIG) (hdg : decode cc pc = .ok (.putfield index, 3)) (h : (pR 3 1 M a v).bind f = some r0)
    (kk : ∀ M', pR 3 1 M a v = some M' → f M' = some r0 → J C ce sl M' (pc + 3) lv st) : J C ce sl M pc lv (va_rf v :: va_rf a :: st) := by
  obtain ⟨M', hv, hf⟩ := bnd h
  have kk := kk M' hv hf
  obtain ⟨i, rfl, hv2⟩ := bnd hv
  split at hv2
  case isFalse => cases hv2
  case isTrue hi =>
  cases hv2
  obtain ⟨p, l, e, R, s, m, args, below, meth, c, H0, A, Q, nL0, G, ad0, n0⟩ := C
  obtain ⟨hx, hb, hml, hnl, hown, hts, hKK, hH0, hA, hlk, hrt, hR, hQ, hxt⟩ := hC
  intro ad H locs ls hW hAa hag hn hvl hvs hS hl
  have he := pool_at (G := G) (ad := ad) hi.1
  rw [ent_3 hi.2] at he
  have hD := pool_D hW hAa
  have e2 : (pool G ad M).set i (ad i, .inr (3, [.int (mI M i 0), re ad v, re ad (mR M i 2), .int (mI M i 3), re ad (mR M i 4), re ad (mR M i 5), re ad (mR M i 6), .int (mI M i 7), re ad (mR M i 8), re ad (mR M i 9), .int (mI M i 10), re ad (mR M i 11), .long (mJ M i 12)])) = pool G ad (sR M i 1 v) := pool_set rfl hi.1 (by rw [ent_3 hi.2]; simp [sR, mI, mJ, mR, up2]) (fun j hj => ent_sR_ne hj)
  have e3 : phys ad (va_rf v) = re ad v := phys_rf ad v
  rw [List.map_cons, e3]
  skip
  exact va_putF (D := G.1) (ci := 3) (C := RX3) (T := TX3) (N := 13) (ty := tyX3 1) (v := re ad v) hx hb hts inB3 tyX3 tyX3_ok nmX3 hown hKK.1.1 hW.1 hD hS i he rfl 1 (by decide) (hts _ hw) (fun _ h9 => h9) rfl hin hdc (by decide +kernel) (by cases v <;> rfl) (by cases v <;> rfl) (Nat.le_of_ble_eq_true rfl) hdg (fun H1 locs1 hP1 hD1 hS1 => kk ad H1 locs1 ls ⟨by rw [← e2]; exact hP1, hW.2⟩ hAa hag hn hvl (vs_t (vs_t hvs)) hS1 hl)
theorem J_g3_2 {C : JC} {x : Bool} {cc : ByteArray} {nL : Nat} {rm : Room} {rt : Option FieldType} {own : String} {res : Res} {ce sl : Nat} {M : Mem} {pc : Nat} {lv : List (Nat × Value)} {st : List Value} {β : Type} {r0 : β} {f : Option Nat → Option β} {index : Nat} {a : Option Nat} (hC : Ok C x cc nL rm rt own res) (hw : Cond.fieldLink own index RX3 (TX3 2).2.1 (TX3 2).2.2.1 ∈ BIG) (hdg : decode cc pc = .ok (.getfield index, 3)) (h : (gR 3 2 M a).bind f = some r0)
    (kk : ∀ v, gR 3 2 M a = some v → f v = some r0 → J C ce sl M (pc + 3) lv (va_rf v :: st)) : J C ce sl M pc lv (va_rf a :: st) := by
  obtain ⟨v, hv, hf⟩ := bnd h
  have kk := kk v hv hf
  obtain ⟨i, rfl, hv2⟩ := bnd hv
  split at hv2
  case isFalse => cases hv2
  case isTrue hi =>
  cases hv2
  obtain ⟨p, l, e, R, s, m, args, below, meth, c, H0, A, Q, nL0, G, ad0, n0⟩ := C
  obtain ⟨hx, hb, hml, hnl, hown, hts, hKK, hH0, hA, hlk, hrt, hR, hQ, hxt⟩ := hC
  intro ad H locs ls hW hAa hag hn hvl hvs hS hl
  have he := pool_at (G := G) (ad := ad) hi.1
  rw [ent_3 hi.2.1] at he
  have k2 := kk ad H locs ls hW hAa hag hn hvl (vs_c (Vok_rf (okR_j hi.2.2)) (vs_t hvs)) hS hl
  rw [List.map_cons, phys_rf] at k2
  exact va_get (D := G.1) (ci := 3) (C := RX3) (T := TX3) (N := 13) hx hb hts inB3 hown hKK.1.1 hW.1 i he rfl 2 (by decide) (hts _ hw) (fun _ h9 => h9) rfl hdg k2
theorem J_p3_2 {C : JC} {x : Bool} {cc : ByteArray} {nL : Nat} {rm : Room} {rt : Option FieldType} {own : String} {res : Res} {ce sl : Nat} {M : Mem} {pc : Nat} {lv : List (Nat × Value)} {st : List Value} {β : Type} {r0 : β} {f : Mem → Option β} {index : Nat} {a : Option Nat} {v : Option Nat} (hC : Ok C x cc nL rm rt own res) (hin : isInit C) (hdc : (TX3 2).1 = own) (hw : Cond.fieldLink own index RX3 (TX3 2).2.1 (TX3 2).2.2.1 ∈ BIG) (hdg : decode cc pc = .ok (.putfield index, 3)) (h : (pR 3 2 M a v).bind f = some r0)
    (kk : ∀ M', pR 3 2 M a v = some M' → f M' = some r0 → J C ce sl M' (pc + 3) lv st) : J C ce sl M pc lv (va_rf v :: va_rf a :: st) := by
  obtain ⟨M', hv, hf⟩ := bnd h
  have kk := kk M' hv hf
  obtain ⟨i, rfl, hv2⟩ := bnd hv
  split at hv2
  case isFalse => cases hv2
  case isTrue hi =>
  cases hv2
  obtain ⟨p, l, e, R, s, m, args, below, meth, c, H0, A, Q, nL0, G, ad0, n0⟩ := C
  obtain ⟨hx, hb, hml, hnl, hown, hts, hKK, hH0, hA, hlk, hrt, hR, hQ, hxt⟩ := hC
  intro ad H locs ls hW hAa hag hn hvl hvs hS hl
  have he := pool_at (G := G) (ad := ad) hi.1
  rw [ent_3 hi.2] at he
  have hD := pool_D hW hAa
  have e2 : (pool G ad M).set i (ad i, .inr (3, [.int (mI M i 0), re ad (mR M i 1), re ad v, .int (mI M i 3), re ad (mR M i 4), re ad (mR M i 5), re ad (mR M i 6), .int (mI M i 7), re ad (mR M i 8), re ad (mR M i 9), .int (mI M i 10), re ad (mR M i 11), .long (mJ M i 12)])) = pool G ad (sR M i 2 v) := pool_set rfl hi.1 (by rw [ent_3 hi.2]; simp [sR, mI, mJ, mR, up2]) (fun j hj => ent_sR_ne hj)
  have e3 : phys ad (va_rf v) = re ad v := phys_rf ad v
  rw [List.map_cons, e3]
  skip
  exact va_putF (D := G.1) (ci := 3) (C := RX3) (T := TX3) (N := 13) (ty := tyX3 2) (v := re ad v) hx hb hts inB3 tyX3 tyX3_ok nmX3 hown hKK.1.1 hW.1 hD hS i he rfl 2 (by decide) (hts _ hw) (fun _ h9 => h9) rfl hin hdc (by decide +kernel) (by cases v <;> rfl) (by cases v <;> rfl) (Nat.le_of_ble_eq_true rfl) hdg (fun H1 locs1 hP1 hD1 hS1 => kk ad H1 locs1 ls ⟨by rw [← e2]; exact hP1, hW.2⟩ hAa hag hn hvl (vs_t (vs_t hvs)) hS1 hl)
theorem J_g3_3 {C : JC} {x : Bool} {cc : ByteArray} {nL : Nat} {rm : Room} {rt : Option FieldType} {own : String} {res : Res} {ce sl : Nat} {M : Mem} {pc : Nat} {lv : List (Nat × Value)} {st : List Value} {β : Type} {r0 : β} {f : Int32 → Option β} {index : Nat} {a : Option Nat} (hC : Ok C x cc nL rm rt own res) (hw : Cond.fieldLink own index RX3 (TX3 3).2.1 (TX3 3).2.2.1 ∈ BIG) (hdg : decode cc pc = .ok (.getfield index, 3)) (h : (gI 3 3 M a).bind f = some r0)
    (kk : ∀ v, gI 3 3 M a = some v → f v = some r0 → J C ce sl M (pc + 3) lv (.int v :: st)) : J C ce sl M pc lv (va_rf a :: st) := by
  obtain ⟨v, hv, hf⟩ := bnd h
  have kk := kk v hv hf
  obtain ⟨i, rfl, hv2⟩ := bnd hv
  split at hv2
  case isFalse => cases hv2
  case isTrue hi =>
  cases hv2
  obtain ⟨p, l, e, R, s, m, args, below, meth, c, H0, A, Q, nL0, G, ad0, n0⟩ := C
  obtain ⟨hx, hb, hml, hnl, hown, hts, hKK, hH0, hA, hlk, hrt, hR, hQ, hxt⟩ := hC
  intro ad H locs ls hW hAa hag hn hvl hvs hS hl
  have he := pool_at (G := G) (ad := ad) hi.1
  rw [ent_3 hi.2] at he
  have k2 := kk ad H locs ls hW hAa hag hn hvl (vs_c Vok_int (vs_t hvs)) hS hl
  skip
  exact va_get (D := G.1) (ci := 3) (C := RX3) (T := TX3) (N := 13) hx hb hts inB3 hown hKK.1.1 hW.1 i he rfl 3 (by decide) (hts _ hw) (fun _ h9 => h9) rfl hdg k2
theorem J_p3_3 {C : JC} {x : Bool} {cc : ByteArray} {nL : Nat} {rm : Room} {rt : Option FieldType} {own : String} {res : Res} {ce sl : Nat} {M : Mem} {pc : Nat} {lv : List (Nat × Value)} {st : List Value} {β : Type} {r0 : β} {f : Mem → Option β} {index : Nat} {a : Option Nat} {v : Int32} (hC : Ok C x cc nL rm rt own res) (hw : Cond.fieldLink own index RX3 (TX3 3).2.1 (TX3 3).2.2.1 ∈ BIG) (hdg : decode cc pc = .ok (.putfield index, 3)) (h : (pI 3 3 M a v).bind f = some r0)
    (kk : ∀ M', pI 3 3 M a v = some M' → f M' = some r0 → J C ce sl M' (pc + 3) lv st) : J C ce sl M pc lv (.int v :: va_rf a :: st) := by
  obtain ⟨M', hv, hf⟩ := bnd h
  have kk := kk M' hv hf
  obtain ⟨i, rfl, hv2⟩ := bnd hv
  split at hv2
  case isFalse => cases hv2
  case isTrue hi =>
  cases hv2
  obtain ⟨p, l, e, R, s, m, args, below, meth, c, H0, A, Q, nL0, G, ad0, n0⟩ := C
  obtain ⟨hx, hb, hml, hnl, hown, hts, hKK, hH0, hA, hlk, hrt, hR, hQ, hxt⟩ := hC
  intro ad H locs ls hW hAa hag hn hvl hvs hS hl
  have he := pool_at (G := G) (ad := ad) hi.1
  rw [ent_3 hi.2] at he
  have hD := pool_D hW hAa
  have e2 : (pool G ad M).set i (ad i, .inr (3, [.int (mI M i 0), re ad (mR M i 1), re ad (mR M i 2), .int v, re ad (mR M i 4), re ad (mR M i 5), re ad (mR M i 6), .int (mI M i 7), re ad (mR M i 8), re ad (mR M i 9), .int (mI M i 10), re ad (mR M i 11), .long (mJ M i 12)])) = pool G ad (sI M i 3 v) := pool_set rfl hi.1 (by rw [ent_3 hi.2]; simp [sI, mI, mJ, mR, up2]) (fun j hj => ent_sI_ne hj)
  skip
  skip
  skip
  exact va_put (D := G.1) (ci := 3) (C := RX3) (T := TX3) (N := 13) (ty := tyX3 3) (v := .int v) hx hb hts inB3 tyX3 tyX3_ok nmX3 hown hKK.1.1 hW.1 hD hS i he rfl 3 (by decide) (hts _ hw) (fun _ h9 => h9) rfl (by decide +kernel) rfl rfl (Nat.le_of_ble_eq_true rfl) hdg (fun H1 locs1 hP1 hD1 hS1 => kk ad H1 locs1 ls ⟨by rw [← e2]; exact hP1, hW.2⟩ hAa hag hn hvl (vs_t (vs_t hvs)) hS1 hl)
theorem J_g3_4 {C : JC} {x : Bool} {cc : ByteArray} {nL : Nat} {rm : Room} {rt : Option FieldType} {own : String} {res : Res} {ce sl : Nat} {M : Mem} {pc : Nat} {lv : List (Nat × Value)} {st : List Value} {β : Type} {r0 : β} {f : Option Nat → Option β} {index : Nat} {a : Option Nat} (hC : Ok C x cc nL rm rt own res) (hw : Cond.fieldLink own index RX3 (TX3 4).2.1 (TX3 4).2.2.1 ∈ BIG) (hdg : decode cc pc = .ok (.getfield index, 3)) (h : (gR 3 4 M a).bind f = some r0)
    (kk : ∀ v, gR 3 4 M a = some v → f v = some r0 → J C ce sl M (pc + 3) lv (va_rf v :: st)) : J C ce sl M pc lv (va_rf a :: st) := by
  obtain ⟨v, hv, hf⟩ := bnd h
  have kk := kk v hv hf
  obtain ⟨i, rfl, hv2⟩ := bnd hv
  split at hv2
  case isFalse => cases hv2
  case isTrue hi =>
  cases hv2
  obtain ⟨p, l, e, R, s, m, args, below, meth, c, H0, A, Q, nL0, G, ad0, n0⟩ := C
  obtain ⟨hx, hb, hml, hnl, hown, hts, hKK, hH0, hA, hlk, hrt, hR, hQ, hxt⟩ := hC
  intro ad H locs ls hW hAa hag hn hvl hvs hS hl
  have he := pool_at (G := G) (ad := ad) hi.1
  rw [ent_3 hi.2.1] at he
  have k2 := kk ad H locs ls hW hAa hag hn hvl (vs_c (Vok_rf (okR_j hi.2.2)) (vs_t hvs)) hS hl
  rw [List.map_cons, phys_rf] at k2
  exact va_get (D := G.1) (ci := 3) (C := RX3) (T := TX3) (N := 13) hx hb hts inB3 hown hKK.1.1 hW.1 i he rfl 4 (by decide) (hts _ hw) (fun _ h9 => h9) rfl hdg k2
theorem J_p3_4 {C : JC} {x : Bool} {cc : ByteArray} {nL : Nat} {rm : Room} {rt : Option FieldType} {own : String} {res : Res} {ce sl : Nat} {M : Mem} {pc : Nat} {lv : List (Nat × Value)} {st : List Value} {β : Type} {r0 : β} {f : Mem → Option β} {index : Nat} {a : Option Nat} {v : Option Nat} (hC : Ok C x cc nL rm rt own res) (hin : isInit C) (hdc : (TX3 4).1 = own) (hw : Cond.fieldLink own index RX3 (TX3 4).2.1 (TX3 4).2.2.1 ∈ BIG) (hdg : decode cc pc = .ok (.putfield index, 3)) (h : (pR 3 4 M a v).bind f = some r0)
    (kk : ∀ M', pR 3 4 M a v = some M' → f M' = some r0 → J C ce sl M' (pc + 3) lv st) : J C ce sl M pc lv (va_rf v :: va_rf a :: st) := by
  obtain ⟨M', hv, hf⟩ := bnd h
  have kk := kk M' hv hf
  obtain ⟨i, rfl, hv2⟩ := bnd hv
  split at hv2
  case isFalse => cases hv2
  case isTrue hi =>
  cases hv2
  obtain ⟨p, l, e, R, s, m, args, below, meth, c, H0, A, Q, nL0, G, ad0, n0⟩ := C
  obtain ⟨hx, hb, hml, hnl, hown, hts, hKK, hH0, hA, hlk, hrt, hR, hQ, hxt⟩ := hC
  intro ad H locs ls hW hAa hag hn hvl hvs hS hl
  have he := pool_at (G := G) (ad := ad) hi.1
  rw [ent_3 hi.2] at he
  have hD := pool_D hW hAa
  have e2 : (pool G ad M).set i (ad i, .inr (3, [.int (mI M i 0), re ad (mR M i 1), re ad (mR M i 2), .int (mI M i 3), re ad v, re ad (mR M i 5), re ad (mR M i 6), .int (mI M i 7), re ad (mR M i 8), re ad (mR M i 9), .int (mI M i 10), re ad (mR M i 11), .long (mJ M i 12)])) = pool G ad (sR M i 4 v) := pool_set rfl hi.1 (by rw [ent_3 hi.2]; simp [sR, mI, mJ, mR, up2]) (fun j hj => ent_sR_ne hj)
  have e3 : phys ad (va_rf v) = re ad v := phys_rf ad v
  rw [List.map_cons, e3]
  skip
  exact va_putF (D := G.1) (ci := 3) (C := RX3) (T := TX3) (N := 13) (ty := tyX3 4) (v := re ad v) hx hb hts inB3 tyX3 tyX3_ok nmX3 hown hKK.1.1 hW.1 hD hS i he rfl 4 (by decide) (hts _ hw) (fun _ h9 => h9) rfl hin hdc (by decide +kernel) (by cases v <;> rfl) (by cases v <;> rfl) (Nat.le_of_ble_eq_true rfl) hdg (fun H1 locs1 hP1 hD1 hS1 => kk ad H1 locs1 ls ⟨by rw [← e2]; exact hP1, hW.2⟩ hAa hag hn hvl (vs_t (vs_t hvs)) hS1 hl)
theorem J_g3_5 {C : JC} {x : Bool} {cc : ByteArray} {nL : Nat} {rm : Room} {rt : Option FieldType} {own : String} {res : Res} {ce sl : Nat} {M : Mem} {pc : Nat} {lv : List (Nat × Value)} {st : List Value} {β : Type} {r0 : β} {f : Option Nat → Option β} {index : Nat} {a : Option Nat} (hC : Ok C x cc nL rm rt own res) (hw : Cond.fieldLink own index RX3 (TX3 5).2.1 (TX3 5).2.2.1 ∈ BIG) (hdg : decode cc pc = .ok (.getfield index, 3)) (h : (gR 3 5 M a).bind f = some r0)
    (kk : ∀ v, gR 3 5 M a = some v → f v = some r0 → J C ce sl M (pc + 3) lv (va_rf v :: st)) : J C ce sl M pc lv (va_rf a :: st) := by
  obtain ⟨v, hv, hf⟩ := bnd h
  have kk := kk v hv hf
  obtain ⟨i, rfl, hv2⟩ := bnd hv
  split at hv2
  case isFalse => cases hv2
  case isTrue hi =>
  cases hv2
  obtain ⟨p, l, e, R, s, m, args, below, meth, c, H0, A, Q, nL0, G, ad0, n0⟩ := C
  obtain ⟨hx, hb, hml, hnl, hown, hts, hKK, hH0, hA, hlk, hrt, hR, hQ, hxt⟩ := hC
  intro ad H locs ls hW hAa hag hn hvl hvs hS hl
  have he := pool_at (G := G) (ad := ad) hi.1
  rw [ent_3 hi.2.1] at he
  have k2 := kk ad H locs ls hW hAa hag hn hvl (vs_c (Vok_rf (okR_j hi.2.2)) (vs_t hvs)) hS hl
  rw [List.map_cons, phys_rf] at k2
  exact va_get (D := G.1) (ci := 3) (C := RX3) (T := TX3) (N := 13) hx hb hts inB3 hown hKK.1.1 hW.1 i he rfl 5 (by decide) (hts _ hw) (fun _ h9 => h9) rfl hdg k2
theorem J_p3_5 {C : JC} {x : Bool} {cc : ByteArray} {nL : Nat} {rm : Room} {rt : Option FieldType} {own : String} {res : Res} {ce sl : Nat} {M : Mem} {pc : Nat} {lv : List (Nat × Value)} {st : List Value} {β : Type} {r0 : β} {f : Mem → Option β} {index : Nat} {a : Option Nat} {v : Option Nat} (hC : Ok C x cc nL rm rt own res) (hin : isInit C) (hdc : (TX3 5).1 = own) (hw : Cond.fieldLink own index RX3 (TX3 5).2.1 (TX3 5).2.2.1 ∈ BIG) (hdg : decode cc pc = .ok (.putfield index, 3)) (h : (pR 3 5 M a v).bind f = some r0)
    (kk : ∀ M', pR 3 5 M a v = some M' → f M' = some r0 → J C ce sl M' (pc + 3) lv st) : J C ce sl M pc lv (va_rf v :: va_rf a :: st) := by
  obtain ⟨M', hv, hf⟩ := bnd h
  have kk := kk M' hv hf
  obtain ⟨i, rfl, hv2⟩ := bnd hv
  split at hv2
  case isFalse => cases hv2
  case isTrue hi =>
  cases hv2
  obtain ⟨p, l, e, R, s, m, args, below, meth, c, H0, A, Q, nL0, G, ad0, n0⟩ := C
  obtain ⟨hx, hb, hml, hnl, hown, hts, hKK, hH0, hA, hlk, hrt, hR, hQ, hxt⟩ := hC
  intro ad H locs ls hW hAa hag hn hvl hvs hS hl
  have he := pool_at (G := G) (ad := ad) hi.1
  rw [ent_3 hi.2] at he
  have hD := pool_D hW hAa
  have e2 : (pool G ad M).set i (ad i, .inr (3, [.int (mI M i 0), re ad (mR M i 1), re ad (mR M i 2), .int (mI M i 3), re ad (mR M i 4), re ad v, re ad (mR M i 6), .int (mI M i 7), re ad (mR M i 8), re ad (mR M i 9), .int (mI M i 10), re ad (mR M i 11), .long (mJ M i 12)])) = pool G ad (sR M i 5 v) := pool_set rfl hi.1 (by rw [ent_3 hi.2]; simp [sR, mI, mJ, mR, up2]) (fun j hj => ent_sR_ne hj)
  have e3 : phys ad (va_rf v) = re ad v := phys_rf ad v
  rw [List.map_cons, e3]
  skip
  exact va_putF (D := G.1) (ci := 3) (C := RX3) (T := TX3) (N := 13) (ty := tyX3 5) (v := re ad v) hx hb hts inB3 tyX3 tyX3_ok nmX3 hown hKK.1.1 hW.1 hD hS i he rfl 5 (by decide) (hts _ hw) (fun _ h9 => h9) rfl hin hdc (by decide +kernel) (by cases v <;> rfl) (by cases v <;> rfl) (Nat.le_of_ble_eq_true rfl) hdg (fun H1 locs1 hP1 hD1 hS1 => kk ad H1 locs1 ls ⟨by rw [← e2]; exact hP1, hW.2⟩ hAa hag hn hvl (vs_t (vs_t hvs)) hS1 hl)
theorem J_g3_6 {C : JC} {x : Bool} {cc : ByteArray} {nL : Nat} {rm : Room} {rt : Option FieldType} {own : String} {res : Res} {ce sl : Nat} {M : Mem} {pc : Nat} {lv : List (Nat × Value)} {st : List Value} {β : Type} {r0 : β} {f : Option Nat → Option β} {index : Nat} {a : Option Nat} (hC : Ok C x cc nL rm rt own res) (hw : Cond.fieldLink own index RX3 (TX3 6).2.1 (TX3 6).2.2.1 ∈ BIG) (hdg : decode cc pc = .ok (.getfield index, 3)) (h : (gR 3 6 M a).bind f = some r0)
    (kk : ∀ v, gR 3 6 M a = some v → f v = some r0 → J C ce sl M (pc + 3) lv (va_rf v :: st)) : J C ce sl M pc lv (va_rf a :: st) := by
  obtain ⟨v, hv, hf⟩ := bnd h
  have kk := kk v hv hf
  obtain ⟨i, rfl, hv2⟩ := bnd hv
  split at hv2
  case isFalse => cases hv2
  case isTrue hi =>
  cases hv2
  obtain ⟨p, l, e, R, s, m, args, below, meth, c, H0, A, Q, nL0, G, ad0, n0⟩ := C
  obtain ⟨hx, hb, hml, hnl, hown, hts, hKK, hH0, hA, hlk, hrt, hR, hQ, hxt⟩ := hC
  intro ad H locs ls hW hAa hag hn hvl hvs hS hl
  have he := pool_at (G := G) (ad := ad) hi.1
  rw [ent_3 hi.2.1] at he
  have k2 := kk ad H locs ls hW hAa hag hn hvl (vs_c (Vok_rf (okR_j hi.2.2)) (vs_t hvs)) hS hl
  rw [List.map_cons, phys_rf] at k2
  exact va_get (D := G.1) (ci := 3) (C := RX3) (T := TX3) (N := 13) hx hb hts inB3 hown hKK.1.1 hW.1 i he rfl 6 (by decide) (hts _ hw) (fun _ h9 => h9) rfl hdg k2
theorem J_p3_6 {C : JC} {x : Bool} {cc : ByteArray} {nL : Nat} {rm : Room} {rt : Option FieldType} {own : String} {res : Res} {ce sl : Nat} {M : Mem} {pc : Nat} {lv : List (Nat × Value)} {st : List Value} {β : Type} {r0 : β} {f : Mem → Option β} {index : Nat} {a : Option Nat} {v : Option Nat} (hC : Ok C x cc nL rm rt own res) (hin : isInit C) (hdc : (TX3 6).1 = own) (hw : Cond.fieldLink own index RX3 (TX3 6).2.1 (TX3 6).2.2.1 ∈ BIG) (hdg : decode cc pc = .ok (.putfield index, 3)) (h : (pR 3 6 M a v).bind f = some r0)
    (kk : ∀ M', pR 3 6 M a v = some M' → f M' = some r0 → J C ce sl M' (pc + 3) lv st) : J C ce sl M pc lv (va_rf v :: va_rf a :: st) := by
  obtain ⟨M', hv, hf⟩ := bnd h
  have kk := kk M' hv hf
  obtain ⟨i, rfl, hv2⟩ := bnd hv
  split at hv2
  case isFalse => cases hv2
  case isTrue hi =>
  cases hv2
  obtain ⟨p, l, e, R, s, m, args, below, meth, c, H0, A, Q, nL0, G, ad0, n0⟩ := C
  obtain ⟨hx, hb, hml, hnl, hown, hts, hKK, hH0, hA, hlk, hrt, hR, hQ, hxt⟩ := hC
  intro ad H locs ls hW hAa hag hn hvl hvs hS hl
  have he := pool_at (G := G) (ad := ad) hi.1
  rw [ent_3 hi.2] at he
  have hD := pool_D hW hAa
  have e2 : (pool G ad M).set i (ad i, .inr (3, [.int (mI M i 0), re ad (mR M i 1), re ad (mR M i 2), .int (mI M i 3), re ad (mR M i 4), re ad (mR M i 5), re ad v, .int (mI M i 7), re ad (mR M i 8), re ad (mR M i 9), .int (mI M i 10), re ad (mR M i 11), .long (mJ M i 12)])) = pool G ad (sR M i 6 v) := pool_set rfl hi.1 (by rw [ent_3 hi.2]; simp [sR, mI, mJ, mR, up2]) (fun j hj => ent_sR_ne hj)
  have e3 : phys ad (va_rf v) = re ad v := phys_rf ad v
  rw [List.map_cons, e3]
  skip
  exact va_putF (D := G.1) (ci := 3) (C := RX3) (T := TX3) (N := 13) (ty := tyX3 6) (v := re ad v) hx hb hts inB3 tyX3 tyX3_ok nmX3 hown hKK.1.1 hW.1 hD hS i he rfl 6 (by decide) (hts _ hw) (fun _ h9 => h9) rfl hin hdc (by decide +kernel) (by cases v <;> rfl) (by cases v <;> rfl) (Nat.le_of_ble_eq_true rfl) hdg (fun H1 locs1 hP1 hD1 hS1 => kk ad H1 locs1 ls ⟨by rw [← e2]; exact hP1, hW.2⟩ hAa hag hn hvl (vs_t (vs_t hvs)) hS1 hl)
theorem J_g3_7 {C : JC} {x : Bool} {cc : ByteArray} {nL : Nat} {rm : Room} {rt : Option FieldType} {own : String} {res : Res} {ce sl : Nat} {M : Mem} {pc : Nat} {lv : List (Nat × Value)} {st : List Value} {β : Type} {r0 : β} {f : Int32 → Option β} {index : Nat} {a : Option Nat} (hC : Ok C x cc nL rm rt own res) (hw : Cond.fieldLink own index RX3 (TX3 7).2.1 (TX3 7).2.2.1 ∈ BIG) (hdg : decode cc pc = .ok (.getfield index, 3)) (h : (gI 3 7 M a).bind f = some r0)
    (kk : ∀ v, gI 3 7 M a = some v → f v = some r0 → J C ce sl M (pc + 3) lv (.int v :: st)) : J C ce sl M pc lv (va_rf a :: st) := by
  obtain ⟨v, hv, hf⟩ := bnd h
  have kk := kk v hv hf
  obtain ⟨i, rfl, hv2⟩ := bnd hv
  split at hv2
  case isFalse => cases hv2
  case isTrue hi =>
  cases hv2
  obtain ⟨p, l, e, R, s, m, args, below, meth, c, H0, A, Q, nL0, G, ad0, n0⟩ := C
  obtain ⟨hx, hb, hml, hnl, hown, hts, hKK, hH0, hA, hlk, hrt, hR, hQ, hxt⟩ := hC
  intro ad H locs ls hW hAa hag hn hvl hvs hS hl
  have he := pool_at (G := G) (ad := ad) hi.1
  rw [ent_3 hi.2] at he
  have k2 := kk ad H locs ls hW hAa hag hn hvl (vs_c Vok_int (vs_t hvs)) hS hl
  skip
  exact va_get (D := G.1) (ci := 3) (C := RX3) (T := TX3) (N := 13) hx hb hts inB3 hown hKK.1.1 hW.1 i he rfl 7 (by decide) (hts _ hw) (fun _ h9 => h9) rfl hdg k2
theorem J_p3_7 {C : JC} {x : Bool} {cc : ByteArray} {nL : Nat} {rm : Room} {rt : Option FieldType} {own : String} {res : Res} {ce sl : Nat} {M : Mem} {pc : Nat} {lv : List (Nat × Value)} {st : List Value} {β : Type} {r0 : β} {f : Mem → Option β} {index : Nat} {a : Option Nat} {v : Int32} (hC : Ok C x cc nL rm rt own res) (hw : Cond.fieldLink own index RX3 (TX3 7).2.1 (TX3 7).2.2.1 ∈ BIG) (hdg : decode cc pc = .ok (.putfield index, 3)) (h : (pI 3 7 M a v).bind f = some r0)
    (kk : ∀ M', pI 3 7 M a v = some M' → f M' = some r0 → J C ce sl M' (pc + 3) lv st) : J C ce sl M pc lv (.int v :: va_rf a :: st) := by
  obtain ⟨M', hv, hf⟩ := bnd h
  have kk := kk M' hv hf
  obtain ⟨i, rfl, hv2⟩ := bnd hv
  split at hv2
  case isFalse => cases hv2
  case isTrue hi =>
  cases hv2
  obtain ⟨p, l, e, R, s, m, args, below, meth, c, H0, A, Q, nL0, G, ad0, n0⟩ := C
  obtain ⟨hx, hb, hml, hnl, hown, hts, hKK, hH0, hA, hlk, hrt, hR, hQ, hxt⟩ := hC
  intro ad H locs ls hW hAa hag hn hvl hvs hS hl
  have he := pool_at (G := G) (ad := ad) hi.1
  rw [ent_3 hi.2] at he
  have hD := pool_D hW hAa
  have e2 : (pool G ad M).set i (ad i, .inr (3, [.int (mI M i 0), re ad (mR M i 1), re ad (mR M i 2), .int (mI M i 3), re ad (mR M i 4), re ad (mR M i 5), re ad (mR M i 6), .int v, re ad (mR M i 8), re ad (mR M i 9), .int (mI M i 10), re ad (mR M i 11), .long (mJ M i 12)])) = pool G ad (sI M i 7 v) := pool_set rfl hi.1 (by rw [ent_3 hi.2]; simp [sI, mI, mJ, mR, up2]) (fun j hj => ent_sI_ne hj)
  skip
  skip
  skip
  exact va_put (D := G.1) (ci := 3) (C := RX3) (T := TX3) (N := 13) (ty := tyX3 7) (v := .int v) hx hb hts inB3 tyX3 tyX3_ok nmX3 hown hKK.1.1 hW.1 hD hS i he rfl 7 (by decide) (hts _ hw) (fun _ h9 => h9) rfl (by decide +kernel) rfl rfl (Nat.le_of_ble_eq_true rfl) hdg (fun H1 locs1 hP1 hD1 hS1 => kk ad H1 locs1 ls ⟨by rw [← e2]; exact hP1, hW.2⟩ hAa hag hn hvl (vs_t (vs_t hvs)) hS1 hl)
theorem J_g3_8 {C : JC} {x : Bool} {cc : ByteArray} {nL : Nat} {rm : Room} {rt : Option FieldType} {own : String} {res : Res} {ce sl : Nat} {M : Mem} {pc : Nat} {lv : List (Nat × Value)} {st : List Value} {β : Type} {r0 : β} {f : Option Nat → Option β} {index : Nat} {a : Option Nat} (hC : Ok C x cc nL rm rt own res) (hw : Cond.fieldLink own index RX3 (TX3 8).2.1 (TX3 8).2.2.1 ∈ BIG) (hdg : decode cc pc = .ok (.getfield index, 3)) (h : (gR 3 8 M a).bind f = some r0)
    (kk : ∀ v, gR 3 8 M a = some v → f v = some r0 → J C ce sl M (pc + 3) lv (va_rf v :: st)) : J C ce sl M pc lv (va_rf a :: st) := by
  obtain ⟨v, hv, hf⟩ := bnd h
  have kk := kk v hv hf
  obtain ⟨i, rfl, hv2⟩ := bnd hv
  split at hv2
  case isFalse => cases hv2
  case isTrue hi =>
  cases hv2
  obtain ⟨p, l, e, R, s, m, args, below, meth, c, H0, A, Q, nL0, G, ad0, n0⟩ := C
  obtain ⟨hx, hb, hml, hnl, hown, hts, hKK, hH0, hA, hlk, hrt, hR, hQ, hxt⟩ := hC
  intro ad H locs ls hW hAa hag hn hvl hvs hS hl
  have he := pool_at (G := G) (ad := ad) hi.1
  rw [ent_3 hi.2.1] at he
  have k2 := kk ad H locs ls hW hAa hag hn hvl (vs_c (Vok_rf (okR_j hi.2.2)) (vs_t hvs)) hS hl
  rw [List.map_cons, phys_rf] at k2
  exact va_get (D := G.1) (ci := 3) (C := RX3) (T := TX3) (N := 13) hx hb hts inB3 hown hKK.1.1 hW.1 i he rfl 8 (by decide) (hts _ hw) (fun _ h9 => h9) rfl hdg k2
theorem J_p3_8 {C : JC} {x : Bool} {cc : ByteArray} {nL : Nat} {rm : Room} {rt : Option FieldType} {own : String} {res : Res} {ce sl : Nat} {M : Mem} {pc : Nat} {lv : List (Nat × Value)} {st : List Value} {β : Type} {r0 : β} {f : Mem → Option β} {index : Nat} {a : Option Nat} {v : Option Nat} (hC : Ok C x cc nL rm rt own res) (hin : isInit C) (hdc : (TX3 8).1 = own) (hw : Cond.fieldLink own index RX3 (TX3 8).2.1 (TX3 8).2.2.1 ∈ BIG) (hdg : decode cc pc = .ok (.putfield index, 3)) (h : (pR 3 8 M a v).bind f = some r0)
    (kk : ∀ M', pR 3 8 M a v = some M' → f M' = some r0 → J C ce sl M' (pc + 3) lv st) : J C ce sl M pc lv (va_rf v :: va_rf a :: st) := by
  obtain ⟨M', hv, hf⟩ := bnd h
  have kk := kk M' hv hf
  obtain ⟨i, rfl, hv2⟩ := bnd hv
  split at hv2
  case isFalse => cases hv2
  case isTrue hi =>
  cases hv2
  obtain ⟨p, l, e, R, s, m, args, below, meth, c, H0, A, Q, nL0, G, ad0, n0⟩ := C
  obtain ⟨hx, hb, hml, hnl, hown, hts, hKK, hH0, hA, hlk, hrt, hR, hQ, hxt⟩ := hC
  intro ad H locs ls hW hAa hag hn hvl hvs hS hl
  have he := pool_at (G := G) (ad := ad) hi.1
  rw [ent_3 hi.2] at he
  have hD := pool_D hW hAa
  have e2 : (pool G ad M).set i (ad i, .inr (3, [.int (mI M i 0), re ad (mR M i 1), re ad (mR M i 2), .int (mI M i 3), re ad (mR M i 4), re ad (mR M i 5), re ad (mR M i 6), .int (mI M i 7), re ad v, re ad (mR M i 9), .int (mI M i 10), re ad (mR M i 11), .long (mJ M i 12)])) = pool G ad (sR M i 8 v) := pool_set rfl hi.1 (by rw [ent_3 hi.2]; simp [sR, mI, mJ, mR, up2]) (fun j hj => ent_sR_ne hj)
  have e3 : phys ad (va_rf v) = re ad v := phys_rf ad v
  rw [List.map_cons, e3]
  skip
  exact va_putF (D := G.1) (ci := 3) (C := RX3) (T := TX3) (N := 13) (ty := tyX3 8) (v := re ad v) hx hb hts inB3 tyX3 tyX3_ok nmX3 hown hKK.1.1 hW.1 hD hS i he rfl 8 (by decide) (hts _ hw) (fun _ h9 => h9) rfl hin hdc (by decide +kernel) (by cases v <;> rfl) (by cases v <;> rfl) (Nat.le_of_ble_eq_true rfl) hdg (fun H1 locs1 hP1 hD1 hS1 => kk ad H1 locs1 ls ⟨by rw [← e2]; exact hP1, hW.2⟩ hAa hag hn hvl (vs_t (vs_t hvs)) hS1 hl)
theorem J_g3_9 {C : JC} {x : Bool} {cc : ByteArray} {nL : Nat} {rm : Room} {rt : Option FieldType} {own : String} {res : Res} {ce sl : Nat} {M : Mem} {pc : Nat} {lv : List (Nat × Value)} {st : List Value} {β : Type} {r0 : β} {f : Option Nat → Option β} {index : Nat} {a : Option Nat} (hC : Ok C x cc nL rm rt own res) (hw : Cond.fieldLink own index RX3 (TX3 9).2.1 (TX3 9).2.2.1 ∈ BIG) (hdg : decode cc pc = .ok (.getfield index, 3)) (h : (gR 3 9 M a).bind f = some r0)
    (kk : ∀ v, gR 3 9 M a = some v → f v = some r0 → J C ce sl M (pc + 3) lv (va_rf v :: st)) : J C ce sl M pc lv (va_rf a :: st) := by
  obtain ⟨v, hv, hf⟩ := bnd h
  have kk := kk v hv hf
  obtain ⟨i, rfl, hv2⟩ := bnd hv
  split at hv2
  case isFalse => cases hv2
  case isTrue hi =>
  cases hv2
  obtain ⟨p, l, e, R, s, m, args, below, meth, c, H0, A, Q, nL0, G, ad0, n0⟩ := C
  obtain ⟨hx, hb, hml, hnl, hown, hts, hKK, hH0, hA, hlk, hrt, hR, hQ, hxt⟩ := hC
  intro ad H locs ls hW hAa hag hn hvl hvs hS hl
  have he := pool_at (G := G) (ad := ad) hi.1
  rw [ent_3 hi.2.1] at he
  have k2 := kk ad H locs ls hW hAa hag hn hvl (vs_c (Vok_rf (okR_j hi.2.2)) (vs_t hvs)) hS hl
  rw [List.map_cons, phys_rf] at k2
  exact va_get (D := G.1) (ci := 3) (C := RX3) (T := TX3) (N := 13) hx hb hts inB3 hown hKK.1.1 hW.1 i he rfl 9 (by decide) (hts _ hw) (fun _ h9 => h9) rfl hdg k2
theorem J_p3_9 {C : JC} {x : Bool} {cc : ByteArray} {nL : Nat} {rm : Room} {rt : Option FieldType} {own : String} {res : Res} {ce sl : Nat} {M : Mem} {pc : Nat} {lv : List (Nat × Value)} {st : List Value} {β : Type} {r0 : β} {f : Mem → Option β} {index : Nat} {a : Option Nat} {v : Option Nat} (hC : Ok C x cc nL rm rt own res) (hin : isInit C) (hdc : (TX3 9).1 = own) (hw : Cond.fieldLink own index RX3 (TX3 9).2.1 (TX3 9).2.2.1 ∈ BIG) (hdg : decode cc pc = .ok (.putfield index, 3)) (h : (pR 3 9 M a v).bind f = some r0)
    (kk : ∀ M', pR 3 9 M a v = some M' → f M' = some r0 → J C ce sl M' (pc + 3) lv st) : J C ce sl M pc lv (va_rf v :: va_rf a :: st) := by
  obtain ⟨M', hv, hf⟩ := bnd h
  have kk := kk M' hv hf
  obtain ⟨i, rfl, hv2⟩ := bnd hv
  split at hv2
  case isFalse => cases hv2
  case isTrue hi =>
  cases hv2
  obtain ⟨p, l, e, R, s, m, args, below, meth, c, H0, A, Q, nL0, G, ad0, n0⟩ := C
  obtain ⟨hx, hb, hml, hnl, hown, hts, hKK, hH0, hA, hlk, hrt, hR, hQ, hxt⟩ := hC
  intro ad H locs ls hW hAa hag hn hvl hvs hS hl
  have he := pool_at (G := G) (ad := ad) hi.1
  rw [ent_3 hi.2] at he
  have hD := pool_D hW hAa
  have e2 : (pool G ad M).set i (ad i, .inr (3, [.int (mI M i 0), re ad (mR M i 1), re ad (mR M i 2), .int (mI M i 3), re ad (mR M i 4), re ad (mR M i 5), re ad (mR M i 6), .int (mI M i 7), re ad (mR M i 8), re ad v, .int (mI M i 10), re ad (mR M i 11), .long (mJ M i 12)])) = pool G ad (sR M i 9 v) := pool_set rfl hi.1 (by rw [ent_3 hi.2]; simp [sR, mI, mJ, mR, up2]) (fun j hj => ent_sR_ne hj)
  have e3 : phys ad (va_rf v) = re ad v := phys_rf ad v
  rw [List.map_cons, e3]
  skip
  exact va_putF (D := G.1) (ci := 3) (C := RX3) (T := TX3) (N := 13) (ty := tyX3 9) (v := re ad v) hx hb hts inB3 tyX3 tyX3_ok nmX3 hown hKK.1.1 hW.1 hD hS i he rfl 9 (by decide) (hts _ hw) (fun _ h9 => h9) rfl hin hdc (by decide +kernel) (by cases v <;> rfl) (by cases v <;> rfl) (Nat.le_of_ble_eq_true rfl) hdg (fun H1 locs1 hP1 hD1 hS1 => kk ad H1 locs1 ls ⟨by rw [← e2]; exact hP1, hW.2⟩ hAa hag hn hvl (vs_t (vs_t hvs)) hS1 hl)
theorem J_g3_10 {C : JC} {x : Bool} {cc : ByteArray} {nL : Nat} {rm : Room} {rt : Option FieldType} {own : String} {res : Res} {ce sl : Nat} {M : Mem} {pc : Nat} {lv : List (Nat × Value)} {st : List Value} {β : Type} {r0 : β} {f : Int32 → Option β} {index : Nat} {a : Option Nat} (hC : Ok C x cc nL rm rt own res) (hw : Cond.fieldLink own index RX3 (TX3 10).2.1 (TX3 10).2.2.1 ∈ BIG) (hdg : decode cc pc = .ok (.getfield index, 3)) (h : (gI 3 10 M a).bind f = some r0)
    (kk : ∀ v, gI 3 10 M a = some v → f v = some r0 → J C ce sl M (pc + 3) lv (.int v :: st)) : J C ce sl M pc lv (va_rf a :: st) := by
  obtain ⟨v, hv, hf⟩ := bnd h
  have kk := kk v hv hf
  obtain ⟨i, rfl, hv2⟩ := bnd hv
  split at hv2
  case isFalse => cases hv2
  case isTrue hi =>
  cases hv2
  obtain ⟨p, l, e, R, s, m, args, below, meth, c, H0, A, Q, nL0, G, ad0, n0⟩ := C
  obtain ⟨hx, hb, hml, hnl, hown, hts, hKK, hH0, hA, hlk, hrt, hR, hQ, hxt⟩ := hC
  intro ad H locs ls hW hAa hag hn hvl hvs hS hl
  have he := pool_at (G := G) (ad := ad) hi.1
  rw [ent_3 hi.2] at he
  have k2 := kk ad H locs ls hW hAa hag hn hvl (vs_c Vok_int (vs_t hvs)) hS hl
  skip
  exact va_get (D := G.1) (ci := 3) (C := RX3) (T := TX3) (N := 13) hx hb hts inB3 hown hKK.1.1 hW.1 i he rfl 10 (by decide) (hts _ hw) (fun _ h9 => h9) rfl hdg k2
theorem J_p3_10 {C : JC} {x : Bool} {cc : ByteArray} {nL : Nat} {rm : Room} {rt : Option FieldType} {own : String} {res : Res} {ce sl : Nat} {M : Mem} {pc : Nat} {lv : List (Nat × Value)} {st : List Value} {β : Type} {r0 : β} {f : Mem → Option β} {index : Nat} {a : Option Nat} {v : Int32} (hC : Ok C x cc nL rm rt own res) (hw : Cond.fieldLink own index RX3 (TX3 10).2.1 (TX3 10).2.2.1 ∈ BIG) (hdg : decode cc pc = .ok (.putfield index, 3)) (h : (pI 3 10 M a v).bind f = some r0)
    (kk : ∀ M', pI 3 10 M a v = some M' → f M' = some r0 → J C ce sl M' (pc + 3) lv st) : J C ce sl M pc lv (.int v :: va_rf a :: st) := by
  obtain ⟨M', hv, hf⟩ := bnd h
  have kk := kk M' hv hf
  obtain ⟨i, rfl, hv2⟩ := bnd hv
  split at hv2
  case isFalse => cases hv2
  case isTrue hi =>
  cases hv2
  obtain ⟨p, l, e, R, s, m, args, below, meth, c, H0, A, Q, nL0, G, ad0, n0⟩ := C
  obtain ⟨hx, hb, hml, hnl, hown, hts, hKK, hH0, hA, hlk, hrt, hR, hQ, hxt⟩ := hC
  intro ad H locs ls hW hAa hag hn hvl hvs hS hl
  have he := pool_at (G := G) (ad := ad) hi.1
  rw [ent_3 hi.2] at he
  have hD := pool_D hW hAa
  have e2 : (pool G ad M).set i (ad i, .inr (3, [.int (mI M i 0), re ad (mR M i 1), re ad (mR M i 2), .int (mI M i 3), re ad (mR M i 4), re ad (mR M i 5), re ad (mR M i 6), .int (mI M i 7), re ad (mR M i 8), re ad (mR M i 9), .int v, re ad (mR M i 11), .long (mJ M i 12)])) = pool G ad (sI M i 10 v) := pool_set rfl hi.1 (by rw [ent_3 hi.2]; simp [sI, mI, mJ, mR, up2]) (fun j hj => ent_sI_ne hj)
  skip
  skip
  skip
  exact va_put (D := G.1) (ci := 3) (C := RX3) (T := TX3) (N := 13) (ty := tyX3 10) (v := .int v) hx hb hts inB3 tyX3 tyX3_ok nmX3 hown hKK.1.1 hW.1 hD hS i he rfl 10 (by decide) (hts _ hw) (fun _ h9 => h9) rfl (by decide +kernel) rfl rfl (Nat.le_of_ble_eq_true rfl) hdg (fun H1 locs1 hP1 hD1 hS1 => kk ad H1 locs1 ls ⟨by rw [← e2]; exact hP1, hW.2⟩ hAa hag hn hvl (vs_t (vs_t hvs)) hS1 hl)
theorem J_g3_11 {C : JC} {x : Bool} {cc : ByteArray} {nL : Nat} {rm : Room} {rt : Option FieldType} {own : String} {res : Res} {ce sl : Nat} {M : Mem} {pc : Nat} {lv : List (Nat × Value)} {st : List Value} {β : Type} {r0 : β} {f : Option Nat → Option β} {index : Nat} {a : Option Nat} (hC : Ok C x cc nL rm rt own res) (hw : Cond.fieldLink own index RX3 (TX3 11).2.1 (TX3 11).2.2.1 ∈ BIG) (hdg : decode cc pc = .ok (.getfield index, 3)) (h : (gR 3 11 M a).bind f = some r0)
    (kk : ∀ v, gR 3 11 M a = some v → f v = some r0 → J C ce sl M (pc + 3) lv (va_rf v :: st)) : J C ce sl M pc lv (va_rf a :: st) := by
  obtain ⟨v, hv, hf⟩ := bnd h
  have kk := kk v hv hf
  obtain ⟨i, rfl, hv2⟩ := bnd hv
  split at hv2
  case isFalse => cases hv2
  case isTrue hi =>
  cases hv2
  obtain ⟨p, l, e, R, s, m, args, below, meth, c, H0, A, Q, nL0, G, ad0, n0⟩ := C
  obtain ⟨hx, hb, hml, hnl, hown, hts, hKK, hH0, hA, hlk, hrt, hR, hQ, hxt⟩ := hC
  intro ad H locs ls hW hAa hag hn hvl hvs hS hl
  have he := pool_at (G := G) (ad := ad) hi.1
  rw [ent_3 hi.2.1] at he
  have k2 := kk ad H locs ls hW hAa hag hn hvl (vs_c (Vok_rf (okR_j hi.2.2)) (vs_t hvs)) hS hl
  rw [List.map_cons, phys_rf] at k2
  exact va_get (D := G.1) (ci := 3) (C := RX3) (T := TX3) (N := 13) hx hb hts inB3 hown hKK.1.1 hW.1 i he rfl 11 (by decide) (hts _ hw) (fun _ h9 => h9) rfl hdg k2
theorem J_p3_11 {C : JC} {x : Bool} {cc : ByteArray} {nL : Nat} {rm : Room} {rt : Option FieldType} {own : String} {res : Res} {ce sl : Nat} {M : Mem} {pc : Nat} {lv : List (Nat × Value)} {st : List Value} {β : Type} {r0 : β} {f : Mem → Option β} {index : Nat} {a : Option Nat} {v : Option Nat} (hC : Ok C x cc nL rm rt own res) (hin : isInit C) (hdc : (TX3 11).1 = own) (hw : Cond.fieldLink own index RX3 (TX3 11).2.1 (TX3 11).2.2.1 ∈ BIG) (hdg : decode cc pc = .ok (.putfield index, 3)) (h : (pR 3 11 M a v).bind f = some r0)
    (kk : ∀ M', pR 3 11 M a v = some M' → f M' = some r0 → J C ce sl M' (pc + 3) lv st) : J C ce sl M pc lv (va_rf v :: va_rf a :: st) := by
  obtain ⟨M', hv, hf⟩ := bnd h
  have kk := kk M' hv hf
  obtain ⟨i, rfl, hv2⟩ := bnd hv
  split at hv2
  case isFalse => cases hv2
  case isTrue hi =>
  cases hv2
  obtain ⟨p, l, e, R, s, m, args, below, meth, c, H0, A, Q, nL0, G, ad0, n0⟩ := C
  obtain ⟨hx, hb, hml, hnl, hown, hts, hKK, hH0, hA, hlk, hrt, hR, hQ, hxt⟩ := hC
  intro ad H locs ls hW hAa hag hn hvl hvs hS hl
  have he := pool_at (G := G) (ad := ad) hi.1
  rw [ent_3 hi.2] at he
  have hD := pool_D hW hAa
  have e2 : (pool G ad M).set i (ad i, .inr (3, [.int (mI M i 0), re ad (mR M i 1), re ad (mR M i 2), .int (mI M i 3), re ad (mR M i 4), re ad (mR M i 5), re ad (mR M i 6), .int (mI M i 7), re ad (mR M i 8), re ad (mR M i 9), .int (mI M i 10), re ad v, .long (mJ M i 12)])) = pool G ad (sR M i 11 v) := pool_set rfl hi.1 (by rw [ent_3 hi.2]; simp [sR, mI, mJ, mR, up2]) (fun j hj => ent_sR_ne hj)
  have e3 : phys ad (va_rf v) = re ad v := phys_rf ad v
  rw [List.map_cons, e3]
  skip
  exact va_putF (D := G.1) (ci := 3) (C := RX3) (T := TX3) (N := 13) (ty := tyX3 11) (v := re ad v) hx hb hts inB3 tyX3 tyX3_ok nmX3 hown hKK.1.1 hW.1 hD hS i he rfl 11 (by decide) (hts _ hw) (fun _ h9 => h9) rfl hin hdc (by decide +kernel) (by cases v <;> rfl) (by cases v <;> rfl) (Nat.le_of_ble_eq_true rfl) hdg (fun H1 locs1 hP1 hD1 hS1 => kk ad H1 locs1 ls ⟨by rw [← e2]; exact hP1, hW.2⟩ hAa hag hn hvl (vs_t (vs_t hvs)) hS1 hl)
theorem J_g3_12 {C : JC} {x : Bool} {cc : ByteArray} {nL : Nat} {rm : Room} {rt : Option FieldType} {own : String} {res : Res} {ce sl : Nat} {M : Mem} {pc : Nat} {lv : List (Nat × Value)} {st : List Value} {β : Type} {r0 : β} {f : Int64 → Option β} {index : Nat} {a : Option Nat} (hC : Ok C x cc nL rm rt own res) (hw : Cond.fieldLink own index RX3 (TX3 12).2.1 (TX3 12).2.2.1 ∈ BIG) (hdg : decode cc pc = .ok (.getfield index, 3)) (h : (gJ 3 12 M a).bind f = some r0)
    (kk : ∀ v, gJ 3 12 M a = some v → f v = some r0 → J C ce sl M (pc + 3) lv (.long v :: st)) : J C ce sl M pc lv (va_rf a :: st) := by
  obtain ⟨v, hv, hf⟩ := bnd h
  have kk := kk v hv hf
  obtain ⟨i, rfl, hv2⟩ := bnd hv
  split at hv2
  case isFalse => cases hv2
  case isTrue hi =>
  cases hv2
  obtain ⟨p, l, e, R, s, m, args, below, meth, c, H0, A, Q, nL0, G, ad0, n0⟩ := C
  obtain ⟨hx, hb, hml, hnl, hown, hts, hKK, hH0, hA, hlk, hrt, hR, hQ, hxt⟩ := hC
  intro ad H locs ls hW hAa hag hn hvl hvs hS hl
  have he := pool_at (G := G) (ad := ad) hi.1
  rw [ent_3 hi.2] at he
  have k2 := kk ad H locs ls hW hAa hag hn hvl (vs_c Vok_long (vs_t hvs)) hS hl
  skip
  exact va_get (D := G.1) (ci := 3) (C := RX3) (T := TX3) (N := 13) hx hb hts inB3 hown hKK.1.1 hW.1 i he rfl 12 (by decide) (hts _ hw) (fun _ h9 => h9) rfl hdg k2
theorem J_p3_12 {C : JC} {x : Bool} {cc : ByteArray} {nL : Nat} {rm : Room} {rt : Option FieldType} {own : String} {res : Res} {ce sl : Nat} {M : Mem} {pc : Nat} {lv : List (Nat × Value)} {st : List Value} {β : Type} {r0 : β} {f : Mem → Option β} {index : Nat} {a : Option Nat} {v : Int64} (hC : Ok C x cc nL rm rt own res) (hw : Cond.fieldLink own index RX3 (TX3 12).2.1 (TX3 12).2.2.1 ∈ BIG) (hdg : decode cc pc = .ok (.putfield index, 3)) (h : (pJ 3 12 M a v).bind f = some r0)
    (kk : ∀ M', pJ 3 12 M a v = some M' → f M' = some r0 → J C ce sl M' (pc + 3) lv st) : J C ce sl M pc lv (.long v :: va_rf a :: st) := by
  obtain ⟨M', hv, hf⟩ := bnd h
  have kk := kk M' hv hf
  obtain ⟨i, rfl, hv2⟩ := bnd hv
  split at hv2
  case isFalse => cases hv2
  case isTrue hi =>
  cases hv2
  obtain ⟨p, l, e, R, s, m, args, below, meth, c, H0, A, Q, nL0, G, ad0, n0⟩ := C
  obtain ⟨hx, hb, hml, hnl, hown, hts, hKK, hH0, hA, hlk, hrt, hR, hQ, hxt⟩ := hC
  intro ad H locs ls hW hAa hag hn hvl hvs hS hl
  have he := pool_at (G := G) (ad := ad) hi.1
  rw [ent_3 hi.2] at he
  have hD := pool_D hW hAa
  have e2 : (pool G ad M).set i (ad i, .inr (3, [.int (mI M i 0), re ad (mR M i 1), re ad (mR M i 2), .int (mI M i 3), re ad (mR M i 4), re ad (mR M i 5), re ad (mR M i 6), .int (mI M i 7), re ad (mR M i 8), re ad (mR M i 9), .int (mI M i 10), re ad (mR M i 11), .long v])) = pool G ad (sJ M i 12 v) := pool_set rfl hi.1 (by rw [ent_3 hi.2]; simp [sJ, mI, mJ, mR, up2]) (fun j hj => ent_sJ_ne hj)
  skip
  skip
  skip
  exact va_put (D := G.1) (ci := 3) (C := RX3) (T := TX3) (N := 13) (ty := tyX3 12) (v := .long v) hx hb hts inB3 tyX3 tyX3_ok nmX3 hown hKK.1.1 hW.1 hD hS i he rfl 12 (by decide) (hts _ hw) (fun _ h9 => h9) rfl (by decide +kernel) rfl rfl (Nat.le_of_ble_eq_true rfl) hdg (fun H1 locs1 hP1 hD1 hS1 => kk ad H1 locs1 ls ⟨by rw [← e2]; exact hP1, hW.2⟩ hAa hag hn hvl (vs_t (vs_t hvs)) hS1 hl)
theorem J_iald {C : JC} {x : Bool} {cc : ByteArray} {nL : Nat} {rm : Room} {rt : Option FieldType} {own : String} {res : Res} {ce sl : Nat} {M : Mem} {pc : Nat} {lv : List (Nat × Value)} {st : List Value} {β : Type} {r0 : β} {f : Int32 → Option β} {a : Option Nat} {z : Int32} (hC : Ok C x cc nL rm rt own res) (hdg : decode cc pc = .ok (.iaload, 1)) (h : (aI M a z).bind f = some r0)
    (kk : ∀ v, aI M a z = some v → f v = some r0 → J C ce sl M (pc + 1) lv (.int v :: st)) : J C ce sl M pc lv (.int z :: va_rf a :: st) := by
  obtain ⟨v, hv, hf⟩ := bnd h
  have kk := kk v hv hf
  obtain ⟨i, rfl, hv2⟩ := bnd hv
  split at hv2
  case isFalse => cases hv2
  case isTrue hi =>
  cases hv2
  obtain ⟨p, l, e, R, s, m, args, below, meth, c, H0, A, Q, nL0, G, ad0, n0⟩ := C
  obtain ⟨hx, hb, hml, hnl, hown, hts, hKK, hH0, hA, hlk, hrt, hR, hQ, hxt⟩ := hC
  intro ad H locs ls hW hAa hag hn hvl hvs hS hl
  have he := pool_at (G := G) (ad := ad) hi.1
  rw [ent_4 hi.2.1] at he
  have k2 := kk ad H locs ls hW hAa hag hn hvl (vs_c Vok_int (vs_t (vs_t hvs))) hS hl
  skip
  exact va_iald hx hb hKK.1.1 hW.1 i 0 he rfl (inRb_vp hi.2.2) hdg k2
theorem J_lald {C : JC} {x : Bool} {cc : ByteArray} {nL : Nat} {rm : Room} {rt : Option FieldType} {own : String} {res : Res} {ce sl : Nat} {M : Mem} {pc : Nat} {lv : List (Nat × Value)} {st : List Value} {β : Type} {r0 : β} {f : Int64 → Option β} {a : Option Nat} {z : Int32} (hC : Ok C x cc nL rm rt own res) (hdg : decode cc pc = .ok (.laload, 1)) (h : (aJ M a z).bind f = some r0)
    (kk : ∀ v, aJ M a z = some v → f v = some r0 → J C ce sl M (pc + 1) lv (.long v :: st)) : J C ce sl M pc lv (.int z :: va_rf a :: st) := by
  obtain ⟨v, hv, hf⟩ := bnd h
  have kk := kk v hv hf
  obtain ⟨i, rfl, hv2⟩ := bnd hv
  split at hv2
  case isFalse => cases hv2
  case isTrue hi =>
  cases hv2
  obtain ⟨p, l, e, R, s, m, args, below, meth, c, H0, A, Q, nL0, G, ad0, n0⟩ := C
  obtain ⟨hx, hb, hml, hnl, hown, hts, hKK, hH0, hA, hlk, hrt, hR, hQ, hxt⟩ := hC
  intro ad H locs ls hW hAa hag hn hvl hvs hS hl
  have he := pool_at (G := G) (ad := ad) hi.1
  rw [ent_5 hi.2.1] at he
  have k2 := kk ad H locs ls hW hAa hag hn hvl (vs_c Vok_long (vs_t (vs_t hvs))) hS hl
  skip
  exact va_lald hx hb hKK.1.1 hW.1 i 1 he rfl (inRb_vp hi.2.2) hdg k2
theorem J_zald {C : JC} {x : Bool} {cc : ByteArray} {nL : Nat} {rm : Room} {rt : Option FieldType} {own : String} {res : Res} {ce sl : Nat} {M : Mem} {pc : Nat} {lv : List (Nat × Value)} {st : List Value} {β : Type} {r0 : β} {f : Int32 → Option β} {a : Option Nat} {z : Int32} (hC : Ok C x cc nL rm rt own res) (hdg : decode cc pc = .ok (.baload, 1)) (h : (aZ M a z).bind f = some r0)
    (kk : ∀ v, aZ M a z = some v → f v = some r0 → J C ce sl M (pc + 1) lv (.int v :: st)) : J C ce sl M pc lv (.int z :: va_rf a :: st) := by
  obtain ⟨v, hv, hf⟩ := bnd h
  have kk := kk v hv hf
  obtain ⟨i, rfl, hv2⟩ := bnd hv
  split at hv2
  case isFalse => cases hv2
  case isTrue hi =>
  cases hv2
  obtain ⟨p, l, e, R, s, m, args, below, meth, c, H0, A, Q, nL0, G, ad0, n0⟩ := C
  obtain ⟨hx, hb, hml, hnl, hown, hts, hKK, hH0, hA, hlk, hrt, hR, hQ, hxt⟩ := hC
  intro ad H locs ls hW hAa hag hn hvl hvs hS hl
  have he := pool_at (G := G) (ad := ad) hi.1
  rw [ent_6 hi.2.1] at he
  have k2 := kk ad H locs ls hW hAa hag hn hvl (vs_c Vok_int (vs_t (vs_t hvs))) hS hl
  skip
  exact va_zald hx hb hKK.1.1 hW.1 i 2 he rfl (inRb_vp hi.2.2) hdg k2
theorem J_dald {C : JC} {x : Bool} {cc : ByteArray} {nL : Nat} {rm : Room} {rt : Option FieldType} {own : String} {res : Res} {ce sl : Nat} {M : Mem} {pc : Nat} {lv : List (Nat × Value)} {st : List Value} {β : Type} {r0 : β} {f : UInt64 → Option β} {a : Option Nat} {z : Int32} (hC : Ok C x cc nL rm rt own res) (hdg : decode cc pc = .ok (.daload, 1)) (h : (aD M a z).bind f = some r0)
    (kk : ∀ v, aD M a z = some v → f v = some r0 → J C ce sl M (pc + 1) lv (.double v :: st)) : J C ce sl M pc lv (.int z :: va_rf a :: st) := by
  obtain ⟨v, hv, hf⟩ := bnd h
  have kk := kk v hv hf
  obtain ⟨i, rfl, hv2⟩ := bnd hv
  split at hv2
  case isFalse => cases hv2
  case isTrue hi =>
  cases hv2
  obtain ⟨p, l, e, R, s, m, args, below, meth, c, H0, A, Q, nL0, G, ad0, n0⟩ := C
  obtain ⟨hx, hb, hml, hnl, hown, hts, hKK, hH0, hA, hlk, hrt, hR, hQ, hxt⟩ := hC
  intro ad H locs ls hW hAa hag hn hvl hvs hS hl
  have he := pool_at (G := G) (ad := ad) hi.1
  rw [ent_10 hi.2.1] at he
  have k2 := kk ad H locs ls hW hAa hag hn hvl (vs_c Vok_double (vs_t (vs_t hvs))) hS hl
  skip
  exact va_dald hx hb hKK.1.1 hW.1 i 6 he rfl (inRb_vp hi.2.2) hdg k2
theorem J_aald7 {C : JC} {x : Bool} {cc : ByteArray} {nL : Nat} {rm : Room} {rt : Option FieldType} {own : String} {res : Res} {ce sl : Nat} {M : Mem} {pc : Nat} {lv : List (Nat × Value)} {st : List Value} {β : Type} {r0 : β} {f : Option Nat → Option β} {a : Option Nat} {z : Int32} (hC : Ok C x cc nL rm rt own res) (hdg : decode cc pc = .ok (.aaload, 1)) (h : (aR 7 M a z).bind f = some r0)
    (kk : ∀ v, aR 7 M a z = some v → f v = some r0 → J C ce sl M (pc + 1) lv (va_rf v :: st)) : J C ce sl M pc lv (.int z :: va_rf a :: st) := by
  obtain ⟨v, hv, hf⟩ := bnd h
  have kk := kk v hv hf
  obtain ⟨i, rfl, hv2⟩ := bnd hv
  split at hv2
  case isFalse => cases hv2
  case isTrue hi =>
  cases hv2
  obtain ⟨p, l, e, R, s, m, args, below, meth, c, H0, A, Q, nL0, G, ad0, n0⟩ := C
  obtain ⟨hx, hb, hml, hnl, hown, hts, hKK, hH0, hA, hlk, hrt, hR, hQ, hxt⟩ := hC
  intro ad H locs ls hW hAa hag hn hvl hvs hS hl
  have he := pool_at (G := G) (ad := ad) hi.1
  rw [ent_7 hi.2.1] at he
  have k2 := kk ad H locs ls hW hAa hag hn hvl (vs_c (Vok_rf (okR_j hi.2.2.2)) (vs_t (vs_t hvs))) hS hl
  rw [List.map_cons, phys_rf] at k2
  exact va_aldq hx hb hKK.1.1 hW.1 i 3 he rfl (inRb_vp hi.2.2.1) hdg k2
theorem J_aald8 {C : JC} {x : Bool} {cc : ByteArray} {nL : Nat} {rm : Room} {rt : Option FieldType} {own : String} {res : Res} {ce sl : Nat} {M : Mem} {pc : Nat} {lv : List (Nat × Value)} {st : List Value} {β : Type} {r0 : β} {f : Option Nat → Option β} {a : Option Nat} {z : Int32} (hC : Ok C x cc nL rm rt own res) (hdg : decode cc pc = .ok (.aaload, 1)) (h : (aR 8 M a z).bind f = some r0)
    (kk : ∀ v, aR 8 M a z = some v → f v = some r0 → J C ce sl M (pc + 1) lv (va_rf v :: st)) : J C ce sl M pc lv (.int z :: va_rf a :: st) := by
  obtain ⟨v, hv, hf⟩ := bnd h
  have kk := kk v hv hf
  obtain ⟨i, rfl, hv2⟩ := bnd hv
  split at hv2
  case isFalse => cases hv2
  case isTrue hi =>
  cases hv2
  obtain ⟨p, l, e, R, s, m, args, below, meth, c, H0, A, Q, nL0, G, ad0, n0⟩ := C
  obtain ⟨hx, hb, hml, hnl, hown, hts, hKK, hH0, hA, hlk, hrt, hR, hQ, hxt⟩ := hC
  intro ad H locs ls hW hAa hag hn hvl hvs hS hl
  have he := pool_at (G := G) (ad := ad) hi.1
  rw [ent_8 hi.2.1] at he
  have k2 := kk ad H locs ls hW hAa hag hn hvl (vs_c (Vok_rf (okR_j hi.2.2.2)) (vs_t (vs_t hvs))) hS hl
  rw [List.map_cons, phys_rf] at k2
  exact va_aldq hx hb hKK.1.1 hW.1 i 4 he rfl (inRb_vp hi.2.2.1) hdg k2
theorem va_aldA {p : Program} {l : Launch} {e : Env} {R : Room} {s : State} {m : MethodId} {args : Array Value} {below : List Frame} {meth : Method} {c : Code} {H : Heap} {locs : List Loc} {cells slots : Nat} {Q : State → Prop} {cc : ByteArray} {pc : Nat} {ls : Array Slot} {rest : List Value} {D : va_G} {cl : List vw_C} {a : Nat} {tys : List (ClassId × FieldType)} {ws : va_W} (hexec : p.tables.exec = Jvm.exec) (hb : c.code = cc) (hK : va_K D cl tys s) (hP : va_P D cl ws H) (q0 t0 : Nat) {cA : ClassId} {ty : FieldType} {n : Nat} {f : Nat → Option Nat} (ha : ws[q0]? = some (a, .inl (cA, n, .inr (.inr (.inr (.inr f)))))) (ht : tys[t0]? = some (cA, .array ty)) {i : Int32} (hin : vp_in i n) (hdg : decode cc pc = .ok (.aaload, 1))
    (kk : W p l e R s m args below meth c H locs cells slots Q (F0 m (pc + 1) ls (va_rf (f i.toNatClampNeg) :: rest))) : W p l e R s m args below meth c H locs cells slots Q (F0 m pc ls (.int i :: .ref a :: rest)) := by
  have hlt : i.toNatClampNeg < n := Nat.not_le.mp fun q => hin (Or.inr q)
  exact W.aald (v := va_rf (f i.toNatClampNeg)) (ty := .array ty) hexec hb (hP q0 _ ha) ((hK.2 t0 _ ht).1 n (fun j => va_rf (f j))) rfl (fun q => by cases q) (by show ¬ (i < 0 ∨ (arrV _ _ _).slots.size ≤ _); rw [arrV_size]; exact hin) (by show (arrV _ _ _).slots[_]? = _; rw [arrV_read _ _ hlt]) rfl rfl hdg kk
theorem J_aald9 {C : JC} {x : Bool} {cc : ByteArray} {nL : Nat} {rm : Room} {rt : Option FieldType} {own : String} {res : Res} {ce sl : Nat} {M : Mem} {pc : Nat} {lv : List (Nat × Value)} {st : List Value} {β : Type} {r0 : β} {f : Option Nat → Option β} {a : Option Nat} {z : Int32} (hC : Ok C x cc nL rm rt own res) (hdg : decode cc pc = .ok (.aaload, 1)) (h : (aR 9 M a z).bind f = some r0)
    (kk : ∀ v, aR 9 M a z = some v → f v = some r0 → J C ce sl M (pc + 1) lv (va_rf v :: st)) : J C ce sl M pc lv (.int z :: va_rf a :: st) := by
  obtain ⟨v, hv, hf⟩ := bnd h
  have kk := kk v hv hf
  obtain ⟨i, rfl, hv2⟩ := bnd hv
  split at hv2
  case isFalse => cases hv2
  case isTrue hi =>
  cases hv2
  obtain ⟨p, l, e, R, s, m, args, below, meth, c, H0, A, Q, nL0, G, ad0, n0⟩ := C
  obtain ⟨hx, hb, hml, hnl, hown, hts, hKK, hH0, hA, hlk, hrt, hR, hQ, hxt⟩ := hC
  intro ad H locs ls hW hAa hag hn hvl hvs hS hl
  have he := pool_at (G := G) (ad := ad) hi.1
  rw [ent_9 hi.2.1] at he
  have k2 := kk ad H locs ls hW hAa hag hn hvl (vs_c (Vok_rf (okR_j hi.2.2.2)) (vs_t (vs_t hvs))) hS hl
  rw [List.map_cons, phys_rf] at k2
  exact va_aldA hx hb hKK.1.1 hW.1 i 5 he rfl (inRb_vp hi.2.2.1) hdg k2
theorem J_iast {C : JC} {x : Bool} {cc : ByteArray} {nL : Nat} {rm : Room} {rt : Option FieldType} {own : String} {res : Res} {ce sl : Nat} {M : Mem} {pc : Nat} {lv : List (Nat × Value)} {st : List Value} {β : Type} {r0 : β} {f : Mem → Option β} {a : Option Nat} {z : Int32} {v : Int32} (hC : Ok C x cc nL rm rt own res) (hdg : decode cc pc = .ok (.iastore, 1)) (h : (wI M a z v).bind f = some r0)
    (kk : ∀ M', wI M a z v = some M' → f M' = some r0 → J C ce sl M' (pc + 1) lv st) : J C ce sl M pc lv (.int v :: .int z :: va_rf a :: st) := by
  obtain ⟨M', hv, hf⟩ := bnd h
  have kk := kk M' hv hf
  obtain ⟨i, rfl, hv2⟩ := bnd hv
  split at hv2
  case isFalse => cases hv2
  case isTrue hi =>
  cases hv2
  obtain ⟨p, l, e, R, s, m, args, below, meth, c, H0, A, Q, nL0, G, ad0, n0⟩ := C
  obtain ⟨hx, hb, hml, hnl, hown, hts, hKK, hH0, hA, hlk, hrt, hR, hQ, hxt⟩ := hC
  intro ad H locs ls hW hAa hag hn hvl hvs hS hl
  have he := pool_at (G := G) (ad := ad) hi.1
  rw [ent_4 hi.2.1] at he
  have hD := pool_D hW hAa
  skip
  have e2 : (pool G ad M).set i (ad i, .inl (G.2 0, ln i, .inl (upd (mI M i) z.toNatClampNeg v))) = pool G ad (sI M i z.toNatClampNeg v) := pool_set rfl hi.1 (by rw [ent_4 hi.2.1]; rw [show mI (sI M i z.toNatClampNeg v) i = upd (mI M i) z.toNatClampNeg v from (funext fun q => by simp [sI, mI, mJ, mR, mD, up2, upd, vp_updL, vf_upd])]) (fun j hj => ent_sI_ne hj)
  exact va_iast hx hb hKK.1.1 hW.1 hD hS i 0 he rfl (inRb_vp hi.2.2) hdg (fun H1 locs1 hP1 hD1 hS1 => kk ad H1 locs1 ls ⟨by rw [← e2]; exact hP1, hW.2⟩ hAa hag hn hvl (vs_t (vs_t (vs_t hvs))) hS1 hl)
theorem J_last {C : JC} {x : Bool} {cc : ByteArray} {nL : Nat} {rm : Room} {rt : Option FieldType} {own : String} {res : Res} {ce sl : Nat} {M : Mem} {pc : Nat} {lv : List (Nat × Value)} {st : List Value} {β : Type} {r0 : β} {f : Mem → Option β} {a : Option Nat} {z : Int32} {v : Int64} (hC : Ok C x cc nL rm rt own res) (hdg : decode cc pc = .ok (.lastore, 1)) (h : (wJ M a z v).bind f = some r0)
    (kk : ∀ M', wJ M a z v = some M' → f M' = some r0 → J C ce sl M' (pc + 1) lv st) : J C ce sl M pc lv (.long v :: .int z :: va_rf a :: st) := by
  obtain ⟨M', hv, hf⟩ := bnd h
  have kk := kk M' hv hf
  obtain ⟨i, rfl, hv2⟩ := bnd hv
  split at hv2
  case isFalse => cases hv2
  case isTrue hi =>
  cases hv2
  obtain ⟨p, l, e, R, s, m, args, below, meth, c, H0, A, Q, nL0, G, ad0, n0⟩ := C
  obtain ⟨hx, hb, hml, hnl, hown, hts, hKK, hH0, hA, hlk, hrt, hR, hQ, hxt⟩ := hC
  intro ad H locs ls hW hAa hag hn hvl hvs hS hl
  have he := pool_at (G := G) (ad := ad) hi.1
  rw [ent_5 hi.2.1] at he
  have hD := pool_D hW hAa
  skip
  have e2 : (pool G ad M).set i (ad i, .inl (G.2 1, ln i, .inr (.inl (vp_updL (mJ M i) z.toNatClampNeg v)))) = pool G ad (sJ M i z.toNatClampNeg v) := pool_set rfl hi.1 (by rw [ent_5 hi.2.1]; rw [show mJ (sJ M i z.toNatClampNeg v) i = vp_updL (mJ M i) z.toNatClampNeg v from (funext fun q => by simp [sJ, mI, mJ, mR, mD, up2, upd, vp_updL, vf_upd])]) (fun j hj => ent_sJ_ne hj)
  exact va_last hx hb hKK.1.1 hW.1 hD hS i 1 he rfl (inRb_vp hi.2.2) hdg (fun H1 locs1 hP1 hD1 hS1 => kk ad H1 locs1 ls ⟨by rw [← e2]; exact hP1, hW.2⟩ hAa hag hn hvl (vs_t (vs_t (vs_t hvs))) hS1 hl)
theorem J_dast {C : JC} {x : Bool} {cc : ByteArray} {nL : Nat} {rm : Room} {rt : Option FieldType} {own : String} {res : Res} {ce sl : Nat} {M : Mem} {pc : Nat} {lv : List (Nat × Value)} {st : List Value} {β : Type} {r0 : β} {f : Mem → Option β} {a : Option Nat} {z : Int32} {v : UInt64} (hC : Ok C x cc nL rm rt own res) (hdg : decode cc pc = .ok (.dastore, 1)) (h : (wD M a z v).bind f = some r0)
    (kk : ∀ M', wD M a z v = some M' → f M' = some r0 → J C ce sl M' (pc + 1) lv st) : J C ce sl M pc lv (.double v :: .int z :: va_rf a :: st) := by
  obtain ⟨M', hv, hf⟩ := bnd h
  have kk := kk M' hv hf
  obtain ⟨i, rfl, hv2⟩ := bnd hv
  split at hv2
  case isFalse => cases hv2
  case isTrue hi =>
  cases hv2
  obtain ⟨p, l, e, R, s, m, args, below, meth, c, H0, A, Q, nL0, G, ad0, n0⟩ := C
  obtain ⟨hx, hb, hml, hnl, hown, hts, hKK, hH0, hA, hlk, hrt, hR, hQ, hxt⟩ := hC
  intro ad H locs ls hW hAa hag hn hvl hvs hS hl
  have he := pool_at (G := G) (ad := ad) hi.1
  rw [ent_10 hi.2.1] at he
  have hD := pool_D hW hAa
  skip
  have e2 : (pool G ad M).set i (ad i, .inl (G.2 6, ln i, .inr (.inr (.inr (.inl (vf_upd (mD M i) z.toNatClampNeg v)))))) = pool G ad (sD M i z.toNatClampNeg v) := pool_set rfl hi.1 (by rw [ent_10 hi.2.1]; rw [show mD (sD M i z.toNatClampNeg v) i = vf_upd (mD M i) z.toNatClampNeg v from (funext fun q => by simp [sD, mI, mJ, mR, mD, up2, upd, vp_updL, vf_upd])]) (fun j hj => ent_sD_ne hj)
  exact va_dast hx hb hKK.1.1 hW.1 hD hS i 6 he rfl (inRb_vp hi.2.2) hdg (fun H1 locs1 hP1 hD1 hS1 => kk ad H1 locs1 ls ⟨by rw [← e2]; exact hP1, hW.2⟩ hAa hag hn hvl (vs_t (vs_t (vs_t hvs))) hS1 hl)
theorem J_zast {C : JC} {x : Bool} {cc : ByteArray} {nL : Nat} {rm : Room} {rt : Option FieldType} {own : String} {res : Res} {ce sl : Nat} {M : Mem} {pc : Nat} {lv : List (Nat × Value)} {st : List Value} {β : Type} {r0 : β} {f : Mem → Option β} {a : Option Nat} {z : Int32} {v : Int32} (hC : Ok C x cc nL rm rt own res) (hdg : decode cc pc = .ok (.bastore, 1)) (h : (wZ M a z v).bind f = some r0)
    (kk : ∀ M', wZ M a z v = some M' → f M' = some r0 → J C ce sl M' (pc + 1) lv st) : J C ce sl M pc lv (.int v :: .int z :: va_rf a :: st) := by
  obtain ⟨M', hv, hf⟩ := bnd h
  have kk := kk M' hv hf
  obtain ⟨i, rfl, hv2⟩ := bnd hv
  split at hv2
  case isFalse => cases hv2
  case isTrue hi =>
  cases hv2
  obtain ⟨p, l, e, R, s, m, args, below, meth, c, H0, A, Q, nL0, G, ad0, n0⟩ := C
  obtain ⟨hx, hb, hml, hnl, hown, hts, hKK, hH0, hA, hlk, hrt, hR, hQ, hxt⟩ := hC
  intro ad H locs ls hW hAa hag hn hvl hvs hS hl
  have he := pool_at (G := G) (ad := ad) hi.1
  rw [ent_6 hi.2.1] at he
  have hD := pool_D hW hAa
  have hn1 : vp_nar .boolean v = v := by rw [hi.2.2.2]; decide
  have e2 : (pool G ad M).set i (ad i, .inl (G.2 2, ln i, .inl (upd (mI M i) z.toNatClampNeg (vp_nar .boolean v)))) = pool G ad (sI M i z.toNatClampNeg v) := pool_set rfl hi.1 (by rw [ent_6 hi.2.1]; rw [show mI (sI M i z.toNatClampNeg v) i = upd (mI M i) z.toNatClampNeg (vp_nar .boolean v) from (funext fun q => by simp [hn1, sI, mI, mJ, mR, mD, up2, upd, vp_updL, vf_upd])]) (fun j hj => ent_sI_ne hj)
  exact va_zast hx hb hKK.1.1 hW.1 hD hS i 2 he rfl (inRb_vp hi.2.2.1) hdg (fun H1 locs1 hP1 hD1 hS1 => kk ad H1 locs1 ls ⟨by rw [← e2]; exact hP1, hW.2⟩ hAa hag hn hvl (vs_t (vs_t (vs_t hvs))) hS1 hl)
theorem J_aast7 {C : JC} {x : Bool} {cc : ByteArray} {nL : Nat} {rm : Room} {rt : Option FieldType} {own : String} {res : Res} {ce sl : Nat} {M : Mem} {pc : Nat} {lv : List (Nat × Value)} {st : List Value} {β : Type} {r0 : β} {f : Mem → Option β} {a v : Option Nat} {z : Int32} (hC : Ok C x cc nL rm rt own res) (hdg : decode cc pc = .ok (.aastore, 1)) (h : (wR 7 0 M a z v).bind f = some r0)
    (kk : ∀ M', wR 7 0 M a z v = some M' → f M' = some r0 → J C ce sl M' (pc + 1) lv st) : J C ce sl M pc lv (va_rf v :: .int z :: va_rf a :: st) := by
  obtain ⟨M', hv, hf⟩ := bnd h
  have kk := kk M' hv hf
  obtain ⟨i, rfl, hv2⟩ := bnd hv
  obtain ⟨j, rfl, hv3⟩ := bnd hv2
  split at hv3
  case isFalse => cases hv3
  case isTrue hi =>
  cases hv3
  obtain ⟨p, l, e, R, s, m, args, below, meth, c, H0, A, Q, nL0, G, ad0, n0⟩ := C
  obtain ⟨hx, hb, hml, hnl, hown, hts, hKK, hH0, hA, hlk, hrt, hR, hQ, hxt⟩ := hC
  intro ad H locs ls hW hAa hag hn hvl hvs hS hl
  have he := pool_at (G := G) (ad := ad) hi.1
  rw [ent_7 hi.2.1] at he
  have hej := pool_at (G := G) (ad := ad) hi.2.2.2.1
  rw [ent_0 hi.2.2.2.2] at hej
  have hD := pool_D hW hAa
  have e2 : (pool G ad M).set i (ad i, .inl (G.2 3, ln i, .inr (.inr (.inr (.inr (va_up (fun k => (mR M i k).map ad) z.toNatClampNeg (some (ad j)))))))) = pool G ad (sR M i z.toNatClampNeg (some j)) := pool_set rfl hi.1 (by rw [ent_7 hi.2.1]; congr 7; funext q; by_cases hq : q = z.toNatClampNeg <;> simp [sR, mR, up2, va_up, hq]) (fun j hj => ent_sR_ne hj)
  exact va_astq (r := (RX0, TX0, 6)) hx hb hKK.1.1 hW.1 hD hS i 3 j 0 he rfl hej rfl (inRb_vp hi.2.2.1) hdg (fun H1 locs1 hP1 hD1 hS1 => kk ad H1 locs1 ls ⟨by rw [← e2]; exact hP1, hW.2⟩ hAa hag hn hvl (vs_t (vs_t (vs_t hvs))) hS1 hl)
theorem J_aast8 {C : JC} {x : Bool} {cc : ByteArray} {nL : Nat} {rm : Room} {rt : Option FieldType} {own : String} {res : Res} {ce sl : Nat} {M : Mem} {pc : Nat} {lv : List (Nat × Value)} {st : List Value} {β : Type} {r0 : β} {f : Mem → Option β} {a v : Option Nat} {z : Int32} (hC : Ok C x cc nL rm rt own res) (hdg : decode cc pc = .ok (.aastore, 1)) (h : (wR 8 1 M a z v).bind f = some r0)
    (kk : ∀ M', wR 8 1 M a z v = some M' → f M' = some r0 → J C ce sl M' (pc + 1) lv st) : J C ce sl M pc lv (va_rf v :: .int z :: va_rf a :: st) := by
  obtain ⟨M', hv, hf⟩ := bnd h
  have kk := kk M' hv hf
  obtain ⟨i, rfl, hv2⟩ := bnd hv
  obtain ⟨j, rfl, hv3⟩ := bnd hv2
  split at hv3
  case isFalse => cases hv3
  case isTrue hi =>
  cases hv3
  obtain ⟨p, l, e, R, s, m, args, below, meth, c, H0, A, Q, nL0, G, ad0, n0⟩ := C
  obtain ⟨hx, hb, hml, hnl, hown, hts, hKK, hH0, hA, hlk, hrt, hR, hQ, hxt⟩ := hC
  intro ad H locs ls hW hAa hag hn hvl hvs hS hl
  have he := pool_at (G := G) (ad := ad) hi.1
  rw [ent_8 hi.2.1] at he
  have hej := pool_at (G := G) (ad := ad) hi.2.2.2.1
  rw [ent_1 hi.2.2.2.2] at hej
  have hD := pool_D hW hAa
  have e2 : (pool G ad M).set i (ad i, .inl (G.2 4, ln i, .inr (.inr (.inr (.inr (va_up (fun k => (mR M i k).map ad) z.toNatClampNeg (some (ad j)))))))) = pool G ad (sR M i z.toNatClampNeg (some j)) := pool_set rfl hi.1 (by rw [ent_8 hi.2.1]; congr 7; funext q; by_cases hq : q = z.toNatClampNeg <;> simp [sR, mR, up2, va_up, hq]) (fun j hj => ent_sR_ne hj)
  exact va_astq (r := (RX1, TX1, 5)) hx hb hKK.1.1 hW.1 hD hS i 4 j 1 he rfl hej rfl (inRb_vp hi.2.2.1) hdg (fun H1 locs1 hP1 hD1 hS1 => kk ad H1 locs1 ls ⟨by rw [← e2]; exact hP1, hW.2⟩ hAa hag hn hvl (vs_t (vs_t (vs_t hvs))) hS1 hl)
theorem J_copyi {C : JC} {x : Bool} {cc : ByteArray} {nL : Nat} {rm : Room} {rt : Option FieldType} {own : String} {res : Res} {ce sl : Nat} {M : Mem} {pc : Nat} {lv : List (Nat × Value)} {st : List Value} {β : Type} {r0 : β} {f : Mem → Option β} {index : Nat} {a b : Option Nat} {sp dp n : Int32} (hC : Ok C x cc nL rm rt own res) (hw : Cond.methodLink own index arraycopyName ∈ BIG) (hcat : (st.map fun v => v.category).sum ≤ 8) (hfr : 1 ≤ rm.frames) (hlo : 8 + (nativeFrameWords "java/lang/System" "arraycopy" 5 + 11) ≤ rm.locals) (hdg : decode cc pc = .ok (.invokestatic index, 3)) (h : (cpI M a sp b dp n).bind f = some r0)
    (kk : ∀ M', cpI M a sp b dp n = some M' → f M' = some r0 → J C ce sl M' (pc + 3) lv st) : J C ce sl M pc lv (.int n :: .int dp :: va_rf b :: .int sp :: va_rf a :: st) := by
  obtain ⟨M', hv, hf⟩ := bnd h
  have kk := kk M' hv hf
  obtain ⟨i, rfl, hv2⟩ := bnd hv
  obtain ⟨j, rfl, hv3⟩ := bnd hv2
  split at hv3
  case isFalse => cases hv3
  case isTrue hi =>
  cases hv3
  obtain ⟨p, l, e, R, s, m, args, below, meth, c, H0, A, Q, nL0, G, ad0, n0⟩ := C
  obtain ⟨hx, hb, hml, hnl, hown, hts, hKK, hH0, hA, hlk, hrt, hR, hQ, hxt⟩ := hC
  intro ad H locs ls hW hAa hag hn hvl hvs hS hl
  obtain ⟨⟨i1, i2, i3, i4⟩, ⟨s1, s2, s3⟩, g1, g2⟩ := hi
  have he := pool_at (G := G) (ad := ad) i1
  rw [ent_4 i2] at he
  have hej := pool_at (G := G) (ad := ad) i3
  rw [ent_4 i4] at hej
  have hD := pool_D hW hAa
  subst hR
  have hcat2 : ((st.map (phys ad)).map fun v => v.category).sum ≤ 8 := by rw [List.map_map, show ((fun v : Value => v.category) ∘ phys ad) = (fun v => v.category) from funext (cat_phys ad)]; exact hcat
  have e2 : (pool G ad M).set j (ad j, .inl (G.2 0, ln j, .inl (va_cpy (mI M i) (mI M j) sp.toNatClampNeg dp.toNatClampNeg n.toNatClampNeg))) = pool G ad (sRow M j (va_cpy (mI M i) (mI M j) sp.toNatClampNeg dp.toNatClampNeg n.toNatClampNeg)) := pool_set rfl i3 (by rw [ent_4 i4]; congr 4; funext q; simp [sRow, mI]) (fun j hj => ent_sRow_ne hj)
  exact va_copyi hx hb (by rw [hml, ← hnl]; exact hl.1.symm) hown (hts _ hw) (hts _ w_acn) (hts _ w_acs) (hts _ w_aci) hKK.1.1 hW.1 hD hS i j 0 0 he hej rfl rfl rfl s1 s2 s3 g1 g2 (fun _ _ => rfl) hfr (by omega) hdg (fun H1 locs1 hP1 hD1 hS1 => kk ad H1 locs1 ls ⟨by rw [← e2]; exact hP1, hW.2⟩ hAa hag hn hvl (vs_t (vs_t (vs_t (vs_t (vs_t hvs))))) hS1 hl)
end
section
theorem lv_args_phys (ad : Nat → Nat) (vs : List Value) : ∀ i : Nat, lv_args i (vs.map (phys ad)) = (lv_args i vs).map fun q => (q.1, phys ad q.2) := by
  induction vs with
  | nil => intro i; rfl
  | cons v vs ih => intro i; simp only [List.map_cons, lv_args, cat_phys, ih]
theorem lg_sl_len (ad : Nat → Nat) (vs : List Value) : (lg_sl (vs.map (phys ad))).length = (lg_sl vs).length := by
  induction vs with
  | nil => rfl
  | cons v vs ih =>
    simp only [List.map_cons, lg_sl, List.flatMap_cons, List.length_append, cat_phys] at ih ⊢
    rw [ih]
    split <;> rfl
theorem vl_args {n : Nat} (vs : List Value) (h : ∀ v ∈ vs, Vok n v) : ∀ i : Nat, ∀ q ∈ lv_args i vs, Vok n q.2 := by
  induction vs with
  | nil => intro i q hq; cases hq
  | cons v vs ih =>
    intro i q hq
    rcases List.mem_cons.mp hq with e | e
    · rw [e]; exact vs_h h
    · exact ih (vs_t h) _ q e
theorem Con.enter {l : Launch} {y : MethodName} {cc : ByteArray} {maxL : Nat} {ret : Option FieldType} {rm : Room} {As : List Value} {M : Mem} {res : Res} {own : String} (hy : plainName y.cls = true) (ho : y.cls = own) (hlen : (lg_sl As).length ≤ maxL) {lv0 : List (Nat × Value)} (hlv : lv_args 0 As = lv0)
    (k : ∀ C : JC, Ok C false cc maxL rm ret own res → (y.name = "<init>" → isInit C) → J C 0 0 M 0 lv0 []) : Con false l y cc maxL ret rm As M res := by
  intro G ad sz
  rw [if_neg (by decide)]
  refine Met.ofW (cc := cc) (maxL := maxL) (ret := ret) hy rfl ?_
  intro p e s m args below meth c s₁ B hml hv
  obtain ⟨rfl, hsz, hW, hKK, hVok⟩ := hv
  subst hsz
  have hts := atoms_spec (ws := .code y cc maxL ret :: BIG) B.pre
  have hown : s.vm.findClass y.cls = some m.cls := findClass_of_methodNamed B.named
  have hnm : meth.name = y.name := (name_of_methodNamed B.named B.method).1
  have hl := lv_entry (As.map (phys ad)) (n := maxL) (by rw [lg_sl_len]; exact hlen)
  rw [lg_entry_eq]
  generalize (lg_sl (As.map (phys ad)) ++ List.replicate (maxL - (lg_sl (As.map (phys ad))).length) Slot.unset).toArray = ls at hl ⊢
  rw [lv_args_phys, hlv] at hl
  exact k (p, l, e, (headSpec (.code y cc maxL ret :: BIG) rm).room, s, m, (As.map (phys ad)).toArray, below, meth, c, s.heap, Aset ad M.1 s.heap.size, MQ below (Qret G ad M.1 (Aset ad M.1 s.heap.size) res) (As.map (phys ad)).toArray s rm.cells rm.slots (Aset ad M.1 s.heap.size), maxL, G, ad, M.1)
    ⟨B.exec, B.bytes, hml, rfl, ho ▸ hown, fun w hw => hts w (List.mem_cons_of_mem _ hw), hKK, rfl, fun q h => Or.inr h, B.notSynchronized, B.returns, rfl, rfl, fun h => by cases h⟩ (fun h => hnm.trans h)
    ad s.heap [] ls hW (fun i hi => Or.inl ⟨i, hi, rfl⟩) (fun _ _ => rfl) (Nat.le_refl _) (hlv ▸ vl_args As hVok 0) (fun v hv => by cases hv) va_S.rf hl
theorem Con.enterX {l : Launch} (hst : l.stackTraces = false) {y : MethodName} {cc : ByteArray} {maxL : Nat} {ret : Option FieldType} {rm : Room} {As : List Value} {M : Mem} {res : Res} {own : String} (hy : plainName y.cls = true) (ho : y.cls = own) (hlen : (lg_sl As).length ≤ maxL) {lv0 : List (Nat × Value)} (hlv : lv_args 0 As = lv0)
    (k : ∀ C : JC, Ok C true cc maxL rm ret own res → J C 0 0 M 0 lv0 []) : Con true l y cc maxL ret rm As M res := by
  intro G ad sz
  rw [if_pos rfl]
  refine vx_ofW (cc := cc) (maxL := maxL) (ret := ret) hy rfl ?_
  intro p e s m args below meth c s₁ B hml hex hv
  obtain ⟨rfl, hsz, hW, hKK, hVok⟩ := hv
  subst hsz
  have hts := atoms_spec (ws := .code y cc maxL ret :: BIG) B.pre
  have hown : s.vm.findClass y.cls = some m.cls := findClass_of_methodNamed B.named
  have hl := lv_entry (As.map (phys ad)) (n := maxL) (by rw [lg_sl_len]; exact hlen)
  rw [lg_entry_eq]
  generalize (lg_sl (As.map (phys ad)) ++ List.replicate (maxL - (lg_sl (As.map (phys ad))).length) Slot.unset).toArray = ls at hl ⊢
  rw [lv_args_phys, hlv] at hl
  exact k (p, l, e, (headSpec (.code y cc maxL ret :: BIG) rm).room, s, m, (As.map (phys ad)).toArray, below, meth, c, s.heap, Aset ad M.1 s.heap.size, vx_MQ below (Qret G ad M.1 (Aset ad M.1 s.heap.size) res) (Qthr G ad M.1 (Aset ad M.1 s.heap.size) res) (As.map (phys ad)).toArray s rm.cells rm.slots (Aset ad M.1 s.heap.size), maxL, G, ad, M.1)
    ⟨B.exec, B.bytes, hml, rfl, ho ▸ hown, fun w hw => hts w (List.mem_cons_of_mem _ hw), hKK, rfl, fun q h => Or.inr h, B.notSynchronized, B.returns, rfl, rfl, fun _ => ⟨hex, hst⟩⟩
    ad s.heap [] ls hW (fun i hi => Or.inl ⟨i, hi, rfl⟩) (fun _ _ => rfl) (Nat.le_refl _) (hlv ▸ vl_args As hVok 0) (fun v hv => by cases hv) va_S.rf hl
theorem w_oi1 : Cond.instanceMethod objectInit ∈ BIG := by decide +kernel
theorem w_oi2 : Cond.code objectInit ⟨#[0xb1]⟩ 1 none ∈ BIG := by decide +kernel
/-! ===== calls ===== -/
section WCALL
variable {p : Program} {l : Launch} {e : Env} {R : Room} {s : State} {m : MethodId} {args : Array Value} {below : List Frame} {meth : Method} {c : Code} {H : Heap} {locs : List Loc} {cells slots : Nat} {Q : State → Prop} {pc : Nat} {ls : Array Slot}
theorem Aset_sub {A : Nat → Prop} {H0 H : Heap} {ad : Nat → Nat} {n : Nat} (hAa : ∀ i, i < n → A (ad i)) (hA : ∀ q, H0.size ≤ q → A q) (hz : H0.size ≤ H.size) : ∀ q, Aset ad n H.size q → A q := fun q h => h.elim (fun ⟨i, hi, e⟩ => e ▸ hAa i hi) (fun h => hA q (Nat.le_trans hz h))
theorem W_call {G : Geo} {ad : Nat → Nat} {M M' : Mem} {rv : Option Value} {A : Nat → Prop} {H0 : Heap} {mc ms : Nat} {a : Array Value} {st0 rest : List Value}
    (hr : va_Run p l e R s m args below meth c H locs cells slots mc ms (F0 m pc ls st0) rest (Qret G ad M.1 (Aset ad M.1 H.size) (M', .inr rv) a) (Aset ad M.1 H.size))
    (hAa : ∀ i, i < M.1 → A (ad i)) (hA : ∀ q, H0.size ≤ q → A q) (hS : va_S A H0 H locs)
    (kk : ∀ (ad' : Nat → Nat) (H1 : Heap) (locs1 : List Loc), (∀ i, i < M.1 → ad' i = ad i) → M.1 ≤ M'.1 → Wd G ad' M' H1 → (∀ i, i < M'.1 → A (ad' i)) → (∀ v, rv = some v → Vok M'.1 v) → va_S A H0 H1 locs1 → W p l e R s m args below meth c H1 locs1 (cells + mc) (slots + ms) Q (F0 m (pc + 3) ls ((rv.map (phys ad')).toList ++ rest))) : W p l e R s m args below meth c H locs cells slots Q (F0 m pc ls st0) := by
  intro T hT X
  obtain ⟨v, st₀, t, T', L, h0, X', hL, e1, e2, ⟨⟨ad', rv', q1, q2, q3, q4, q5, q6, q7⟩, hz, hk⟩, stp⟩ := hr T hT X
  cases q1
  cases q2
  rw [h0] at hz hk
  have hsub := Aset_sub hAa hA hS.1
  obtain ⟨t2, a1, b1⟩ := kk ad' T'.heap (locs ++ L) q3 q4 (by rw [e1]; exact q5) (fun i hi => hsub _ (q6 i hi)) q7
    ⟨Nat.le_trans hS.1 (by rw [e1]; exact hz), fun q h1 h2 => by rw [e1, hk q (Nat.lt_of_lt_of_le h1 hS.1) (fun z => h2 (hsub q z))]; exact hS.2.1 q h1 h2, fun q hq => by
      rcases List.mem_append.mp hq with h | h
      · exact hS.2.2 q h
      · exact hsub _ (hL q h)⟩ T' rfl X'
  exact ⟨t2, stp t2 a1, b1⟩
theorem run_of_x {Qa : State → Outcome → State → Prop} {G : Geo} {ad0 : Nat → Nat} {n0 : Nat} {A : Nat → Prop} {M' : Mem} {rv : Option Value} {free : Nat → Prop} {g : JFrame} {rest : List Value} {mc ms : Nat} (h : vx_Run p l e R s m args below meth c H locs cells slots mc ms g rest Qa (Qthr G ad0 n0 A (M', .inr rv)) free) : va_Run p l e R s m args below meth c H locs cells slots mc ms g rest Qa free := by
  intro T hT X
  rcases h T hT X with h1 | ⟨q, st₀, t, T', L, E, ce, h0, X', hL, e1, e2, hx, -⟩
  · exact h1
  · obtain ⟨⟨ad, h1, -⟩, -⟩ := hx
    cases h1
end WCALL
/-- how a state keeps its contract's precondition, for a callee -/
theorem PreC_of {G : Geo} {ad : Nat → Nat} {M : Mem} {A : Nat → Prop} {s : State} {H : Heap} {locs : List Loc} {As : List Value} (hW : Wd G ad M H) (hAa : ∀ i, i < M.1 → A (ad i)) (hA : ∀ q, s.heap.size ≤ q → A q) (hKK : KK G A s s.heap) (hS : va_S A s.heap H locs) (hv : ∀ v ∈ As, Vok M.1 v) : ∀ U : State, U.heap = H → s.WarmedH U.vm → PreC G ad H.size As M (As.map (phys ad)).toArray U := fun U hU hWm =>
  ⟨rfl, by rw [hU], by rw [hU]; exact hW, by rw [hU]; exact KK.warm hWm ((hKK.kept (H1 := H) (fun q h1 h2 => hS.2.1 q h1 h2)).narrow (Aset_sub hAa hA hS.1)), hv⟩
theorem PreC_blind {G : Geo} {ad : Nat → Nat} {sz : Nat} {As : List Value} {M : Mem} : FrameBlind (PreC G ad sz As M) := fun a U g mk q => by
  obtain ⟨q0, q1, q2, q3, q4⟩ := q
  exact ⟨q0, q1, q2, KK.warm (U := U.calling g mk a) (State.WarmedH.refl U) q3, q4⟩
/-- a method's words, all in the great list -/
def VMok (y : MethodName) (C : String) (cc : ByteArray) (maxL : Nat) (ret : Option FieldType) (n : Nat) : Prop := Cond.code y cc maxL ret ∈ BIG ∧ Cond.instanceMethod y ∈ BIG ∧ Cond.selects C y y ∈ BIG ∧ Cond.initialized C ∈ BIG ∧ (y.cls = C ∧ y.cls ≠ "java/lang/invoke/MethodHandle" ∧ y.cls ≠ "java/lang/invoke/VarHandle" ∧ (parseMethodDescriptor y.desc).map (fun d => d.parameters.length) = some n)
def SMok (y : MethodName) (cc : ByteArray) (maxL : Nat) (ret : Option FieldType) (n : Nat) : Prop := Cond.code y cc maxL ret ∈ BIG ∧ Cond.static y ∈ BIG ∧ Cond.initialized y.cls ∈ BIG ∧ (y.cls ≠ "java/lang/invoke/MethodHandle" ∧ y.cls ≠ "java/lang/invoke/VarHandle" ∧ (parseMethodDescriptor y.desc).map (fun d => d.parameters.length) = some n)
def IMok (y : MethodName) (cc : ByteArray) (maxL : Nat) (n : Nat) : Prop := Cond.code y cc maxL none ∈ BIG ∧ Cond.instanceMethod y ∈ BIG ∧ Cond.initialized y.cls ∈ BIG ∧ y.name = "<init>" ∧ (y.cls ≠ "java/lang/invoke/MethodHandle" ∧ y.cls ≠ "java/lang/invoke/VarHandle" ∧ (parseMethodDescriptor y.desc).map (fun d => d.parameters.length) = some n)
def ck (ci : Nat) (M : Mem) (o : Option Nat) : Option Unit := o.bind fun i => if i < M.1 ∧ kd i = ci then some () else none
theorem ck_s {ci : Nat} {M : Mem} {o : Option Nat} {u : Unit} (h : ck ci M o = some u) : ∃ i, o = some i ∧ i < M.1 ∧ kd i = ci := by
  obtain ⟨i, rfl, h2⟩ := bnd h
  split at h2
  case isTrue hi => exact ⟨i, rfl, hi⟩
  case isFalse => cases h2
theorem cat_map (ad : Nat → Nat) (st : List Value) : ((st.map (phys ad)).map fun v => v.category).sum = (st.map fun v => v.category).sum := by
  rw [List.map_map, show ((fun v : Value => v.category) ∘ phys ad) = (fun v => v.category) from funext (cat_phys ad)]
theorem vs_arr {n : Nat} {As st : List Value} (h : ∀ v ∈ As.reverse ++ st, Vok n v) : (∀ v ∈ As, Vok n v) ∧ ∀ v ∈ st, Vok n v := ⟨fun v hv => h v (List.mem_append_left _ (List.mem_reverse.mpr hv)), fun v hv => h v (List.mem_append_right _ hv)⟩
theorem vs_ret {n : Nat} {rv : Option Value} {st : List Value} (h : ∀ v, rv = some v → Vok n v) (hs : ∀ v ∈ st, Vok n v) : ∀ v ∈ rv.toList ++ st, Vok n v := fun v hv => by
  rcases List.mem_append.mp hv with h1 | h1
  · exact h v (Option.mem_toList.mp h1)
  · exact hs v h1
theorem Vok_mono {n m : Nat} (h : n ≤ m) {v : Value} (hv : Vok n v) : Vok m v := fun i e => Nat.lt_of_lt_of_le (hv i e) h
theorem phys_ag {n : Nat} {ad ad' : Nat → Nat} (h : ∀ i, i < n → ad' i = ad i) {v : Value} (hv : Vok n v) : phys ad' v = phys ad v := by
  cases v <;> try rfl
  case ref i => exact congrArg Value.ref (h i (hv i rfl))
theorem map_ag {n : Nat} {ad ad' : Nat → Nat} (h : ∀ i, i < n → ad' i = ad i) {st : List Value} (hs : ∀ v ∈ st, Vok n v) : st.map (phys ad') = st.map (phys ad) := List.map_congr_left fun v hv => phys_ag h (hs v hv)
theorem mapl_ag {n : Nat} {ad ad' : Nat → Nat} (h : ∀ i, i < n → ad' i = ad i) {lv : List (Nat × Value)} (hs : ∀ q ∈ lv, Vok n q.2) : (lv.map fun q => (q.1, phys ad' q.2)) = lv.map fun q => (q.1, phys ad q.2) := List.map_congr_left fun q hq => by rw [phys_ag h (hs q hq)]
theorem ret_map (ad : Nat → Nat) (rv : Option Value) (st : List Value) : (rv.map (phys ad)).toList ++ st.map (phys ad) = (rv.toList ++ st).map (phys ad) := by cases rv <;> rfl
theorem rcv_of9 {G : Geo} {ad : Nat → Nat} {M : Mem} {H : Heap} {A : Nat → Prop} {s : State} {Hk : Heap} (hW : Wd G ad M H) (hKK : KK G A s Hk) {ci i : Nat} {q : vw_C} (hi : i < M.1) (hk : kd i = ci) (hc : vwCl[ci]? = some q) : ∃ cell : Cell, H[ad i]? = some cell ∧ cell.vm.isStatics = false ∧ s.vm.findClass q.1 = some cell.cls := by
  have he := pool_at (G := G) (ad := ad) hi
  have h4 : ci < 4 := (List.getElem?_eq_some_iff.mp hc).1
  rcases (show ci = 0 ∨ ci = 1 ∨ ci = 2 ∨ ci = 3 by omega) with rfl | rfl | rfl | rfl
  · rw [ent_0 hk] at he; exact va_recv hKK.1.1 hW.1 hc he
  · rw [ent_1 hk] at he; exact va_recv hKK.1.1 hW.1 hc he
  · rw [ent_2 hk] at he; exact va_recv hKK.1.1 hW.1 hc he
  · rw [ent_3 hk] at he; exact va_recv hKK.1.1 hW.1 hc he
theorem J_callV {C : JC} {x : Bool} {cc : ByteArray} {nL : Nat} {rm : Room} {rt : Option FieldType} {own : String} {res : Res} {ce sl : Nat} {M : Mem} {pc : Nat} {lv : List (Nat × Value)} {st : List Value} {y : MethodName} {cc2 : ByteArray} {maxL2 index : Nat} {ret2 : Option FieldType} {rm2 : Room} {As : List Value} {M' : Mem} {rv : Option Value} {stk : List Value} {n : Nat} {Cn : String} {o : Option Nat} {ci : Nat} {qc : vw_C} (hC : Ok C x cc nL rm rt own res) (hcon : ∀ l, Con false l y cc2 maxL2 ret2 rm2 (va_rf o :: As) M (M', .inr rv)) (hm : VMok y Cn cc2 maxL2 ret2 n) (hw : Cond.methodLink own index y ∈ BIG) (ho : ∃ i, o = some i ∧ i < M.1 ∧ kd i = ci) (hq : vwCl[ci]? = some qc ∧ qc.1 = Cn) (hn9 : As.length = n) (hf : rm2.frames + 1 ≤ rm.frames ∧ 8 + (maxL2 + 11) + rm2.locals ≤ rm.locals) (hcat : (st.map fun v => v.category).sum ≤ 8) (hce : ce + rm2.cells ≤ rm.cells ∧ sl + rm2.slots ≤ rm.slots)
    (hdg : decode cc pc = .ok (.invokevirtual index, 3)) (hstk : stk = As.reverse ++ va_rf o :: st) (kk : J C (ce + rm2.cells) (sl + rm2.slots) M' (pc + 3) lv (rv.toList ++ st)) : J C ce sl M pc lv stk := by
  obtain ⟨i, rfl, hi1, hi2⟩ := ho
  subst hstk
  obtain ⟨m1, m2, m3, m4, m5⟩ := hm
  obtain ⟨p, l, e, R, s, m, args, below, meth, c, H0, A, Q, nL0, G, ad0, n0⟩ := C
  obtain ⟨hx, hb, hml, hnl, hown, hts, hKK, hH0, hA, hlk, hrt, hR, hQ, hxt⟩ := hC
  intro ad H locs ls hW hAa hag hn hvl hvs hS hl
  subst hR
  subst hnl
  have hvs2 := vs_arr hvs
  refine W_call (M := M) (M' := M') (rv := rv) (va_runV (cc := cc) (nL := nL0) (Ts := BIG) (own := own) (As := As.map (phys ad)) (rest := st.map (phys ad)) (C := Cn) (b := ad i) ⟨hx, hb, hml, hown, hts⟩ (by have h9 := hcon l G ad H.size; rw [if_neg (by decide)] at h9; exact h9) (cwV n hts (big_inB (fun w hw9 => by
      rcases List.mem_append.mp hw9 with h | h
      · simp only [List.mem_cons, List.not_mem_nil, or_false] at h
        rcases h with h | h | h | h <;> subst h
        · exact hw
        · exact m2
        · exact m3
        · exact m4
      · exact big_cons m1 w h)) rfl rfl rfl m5 hf) ⟨PreC_blind, hq.2 ▸ rcv_of9 hW hKK hi1 hi2 hq.1, PreC_of hW hAa hA hKK (hH0 ▸ hS) (vs_c (vs_h hvs2.2) hvs2.1)⟩ rfl (by rw [List.length_map]; exact hn9) hl.1 (by show List.map (phys ad) _ = _; rw [List.map_append, List.map_reverse]; rfl) (by show 0 + _ ≤ 8; rw [Nat.zero_add, cat_map]; exact hcat) hdg hce) hAa (by rw [hH0]; exact hA) hS (fun ad' H1 locs1 g1 g2 g3 g4 g5 g6 => ?_)
  have k2 := kk ad' H1 locs1 ls g3 g4 (fun i hi => (g1 i (Nat.lt_of_lt_of_le hi hn)).trans (hag i hi)) (Nat.le_trans hn g2) (fun q hq => Vok_mono g2 (hvl q hq)) (vs_ret g5 (fun v hv => Vok_mono g2 ((vs_t hvs2.2) v hv))) g6 (by rw [mapl_ag g1 hvl]; exact hl)
  rw [← ret_map, map_ag g1 (vs_t hvs2.2)] at k2
  exact k2
theorem J_callS {C : JC} {x : Bool} {cc : ByteArray} {nL : Nat} {rm : Room} {rt : Option FieldType} {own : String} {res : Res} {ce sl : Nat} {M : Mem} {pc : Nat} {lv : List (Nat × Value)} {st : List Value} {y : MethodName} {cc2 : ByteArray} {maxL2 index : Nat} {ret2 : Option FieldType} {rm2 : Room} {As : List Value} {M' : Mem} {rv : Option Value} {stk : List Value} {n : Nat} (hC : Ok C x cc nL rm rt own res) (hcon : ∀ l, Con false l y cc2 maxL2 ret2 rm2 As M (M', .inr rv)) (hm : SMok y cc2 maxL2 ret2 n) (hw : Cond.methodLink own index y ∈ BIG) (hn9 : As.length = n) (hf : rm2.frames + 1 ≤ rm.frames ∧ 8 + (maxL2 + 11) + rm2.locals ≤ rm.locals) (hcat : (st.map fun v => v.category).sum ≤ 8) (hce : ce + rm2.cells ≤ rm.cells ∧ sl + rm2.slots ≤ rm.slots)
    (hdg : decode cc pc = .ok (.invokestatic index, 3)) (hstk : stk = As.reverse ++ st) (kk : J C (ce + rm2.cells) (sl + rm2.slots) M' (pc + 3) lv (rv.toList ++ st)) : J C ce sl M pc lv stk := by
  subst hstk
  obtain ⟨m1, m2, m3, m4⟩ := hm
  obtain ⟨p, l, e, R, s, m, args, below, meth, c, H0, A, Q, nL0, G, ad0, n0⟩ := C
  obtain ⟨hx, hb, hml, hnl, hown, hts, hKK, hH0, hA, hlk, hrt, hR, hQ, hxt⟩ := hC
  intro ad H locs ls hW hAa hag hn hvl hvs hS hl
  subst hR
  subst hnl
  have hvs2 := vs_arr hvs
  refine W_call (M := M) (M' := M') (rv := rv) (va_runS (cc := cc) (nL := nL0) (Ts := BIG) (own := own) (As := As.map (phys ad)) (rest := st.map (phys ad)) ⟨hx, hb, hml, hown, hts⟩ (by have h9 := hcon l G ad H.size; rw [if_neg (by decide)] at h9; exact h9) (va_cwS n hts (big_inB (fun w hw9 => by
      rcases List.mem_append.mp hw9 with h | h
      · simp only [List.mem_cons, List.not_mem_nil, or_false] at h
        rcases h with h | h | h <;> subst h
        · exact hw
        · exact m2
        · exact m3
      · exact big_cons m1 w h)) rfl rfl rfl m4 hf) ⟨PreC_blind, PreC_of hW hAa hA hKK (hH0 ▸ hS) hvs2.1⟩ rfl (by rw [List.length_map]; exact hn9) hl.1 (by show List.map (phys ad) _ = _; rw [List.map_append, List.map_reverse]) (by show 0 + _ ≤ 8; rw [Nat.zero_add, cat_map]; exact hcat) hdg hce) hAa (by rw [hH0]; exact hA) hS (fun ad' H1 locs1 g1 g2 g3 g4 g5 g6 => ?_)
  have k2 := kk ad' H1 locs1 ls g3 g4 (fun i hi => (g1 i (Nat.lt_of_lt_of_le hi hn)).trans (hag i hi)) (Nat.le_trans hn g2) (fun q hq => Vok_mono g2 (hvl q hq)) (vs_ret g5 (fun v hv => Vok_mono g2 (hvs2.2 v hv))) g6 (by rw [mapl_ag g1 hvl]; exact hl)
  rw [← ret_map, map_ag g1 hvs2.2] at k2
  exact k2
theorem J_callSN {C : JC} {x : Bool} {cc : ByteArray} {nL : Nat} {rm : Room} {rt : Option FieldType} {own : String} {res : Res} {ce sl : Nat} {M : Mem} {pc : Nat} {lv : List (Nat × Value)} {st : List Value} {y : MethodName} {cc2 : ByteArray} {maxL2 index : Nat} {ret2 : Option FieldType} {rm2 : Room} {As : List Value} {M' : Mem} {rv : Option Value} {stk : List Value} {n : Nat} {host : String} (hC : Ok C x cc nL rm rt own res) (hcon : ∀ l, Con false l y cc2 maxL2 ret2 rm2 As M (M', .inr rv)) (hm : SMok y cc2 maxL2 ret2 n) (hw : ∀ U, nestB U → va_Nw (.methodLinkNest own index y host) U) (hn9 : As.length = n) (hf : rm2.frames + 1 ≤ rm.frames ∧ 8 + (maxL2 + 11) + rm2.locals ≤ rm.locals) (hcat : (st.map fun v => v.category).sum ≤ 8) (hce : ce + rm2.cells ≤ rm.cells ∧ sl + rm2.slots ≤ rm.slots)
    (hdg : decode cc pc = .ok (.invokestatic index, 3)) (hstk : stk = As.reverse ++ st) (kk : J C (ce + rm2.cells) (sl + rm2.slots) M' (pc + 3) lv (rv.toList ++ st)) : J C ce sl M pc lv stk := by
  subst hstk
  obtain ⟨m1, m2, m3, m4⟩ := hm
  obtain ⟨p, l, e, R, s, m, args, below, meth, c, H0, A, Q, nL0, G, ad0, n0⟩ := C
  obtain ⟨hx, hb, hml, hnl, hown, hts, hKK, hH0, hA, hlk, hrt, hR, hQ, hxt⟩ := hC
  intro ad H locs ls hW hAa hag hn hvl hvs hS hl
  subst hR
  subst hnl
  have hvs2 := vs_arr hvs
  refine W_call (M := M) (M' := M') (rv := rv) (va_runSN (host := host) (cc := cc) (nL := nL0) (Ts := BIG) (own := own) (As := As.map (phys ad)) (rest := st.map (phys ad)) ⟨hx, hb, hml, hown, hts⟩ (by have h9 := hcon l G ad H.size; rw [if_neg (by decide)] at h9; exact h9) ⟨va_cnB n hts (big_inB (big_cons m1)) rfl rfl rfl (hw s hKK.1.2.1) (hts _ m3) m4 hf, hts _ m2, trivial⟩ ⟨PreC_blind, PreC_of hW hAa hA hKK (hH0 ▸ hS) hvs2.1⟩ rfl (by rw [List.length_map]; exact hn9) hl.1 (by show List.map (phys ad) _ = _; rw [List.map_append, List.map_reverse]) (by show 0 + _ ≤ 8; rw [Nat.zero_add, cat_map]; exact hcat) hdg hce) hAa (by rw [hH0]; exact hA) hS (fun ad' H1 locs1 g1 g2 g3 g4 g5 g6 => ?_)
  have k2 := kk ad' H1 locs1 ls g3 g4 (fun i hi => (g1 i (Nat.lt_of_lt_of_le hi hn)).trans (hag i hi)) (Nat.le_trans hn g2) (fun q hq => Vok_mono g2 (hvl q hq)) (vs_ret g5 (fun v hv => Vok_mono g2 (hvs2.2 v hv))) g6 (by rw [mapl_ag g1 hvl]; exact hl)
  rw [← ret_map, map_ag g1 hvs2.2] at k2
  exact k2
theorem J_callI {C : JC} {x : Bool} {cc : ByteArray} {nL : Nat} {rm : Room} {rt : Option FieldType} {own : String} {res : Res} {ce sl : Nat} {M : Mem} {pc : Nat} {lv : List (Nat × Value)} {st : List Value} {y : MethodName} {cc2 : ByteArray} {maxL2 index : Nat} {rm2 : Room} {As : List Value} {M' : Mem} {rv : Option Value} {stk : List Value} {n : Nat} {o : Option Nat} (hC : Ok C x cc nL rm rt own res) (hcon : ∀ l, Con false l y cc2 maxL2 none rm2 (va_rf o :: As) M (M', .inr rv)) (hm : IMok y cc2 maxL2 n) (hw : Cond.methodLink own index y ∈ BIG) (ho : ∃ i, o = some i) (hn9 : As.length = n) (hf : rm2.frames + 1 ≤ rm.frames ∧ 8 + (maxL2 + 11) + rm2.locals ≤ rm.locals) (hcat : (st.map fun v => v.category).sum ≤ 8) (hce : ce + rm2.cells ≤ rm.cells ∧ sl + rm2.slots ≤ rm.slots)
    (hdg : decode cc pc = .ok (.invokespecial index, 3)) (hstk : stk = As.reverse ++ va_rf o :: st) (kk : J C (ce + rm2.cells) (sl + rm2.slots) M' (pc + 3) lv (rv.toList ++ st)) : J C ce sl M pc lv stk := by
  obtain ⟨i, rfl⟩ := ho
  subst hstk
  obtain ⟨m1, m2, m3, m4, m5⟩ := hm
  obtain ⟨p, l, e, R, s, m, args, below, meth, c, H0, A, Q, nL0, G, ad0, n0⟩ := C
  obtain ⟨hx, hb, hml, hnl, hown, hts, hKK, hH0, hA, hlk, hrt, hR, hQ, hxt⟩ := hC
  intro ad H locs ls hW hAa hag hn hvl hvs hS hl
  subst hR
  subst hnl
  have hvs2 := vs_arr hvs
  refine W_call (M := M) (M' := M') (rv := rv) (va_runI (cc := cc) (nL := nL0) (Ts := BIG) (own := own) (As := As.map (phys ad)) (rest := st.map (phys ad)) (b := ad i) ⟨hx, hb, hml, hown, hts⟩ (by have h9 := hcon l G ad H.size; rw [if_neg (by decide)] at h9; exact h9) (cwI n hts (big_inB (big_cons m1)) rfl rfl rfl (hts _ m3) (hts _ hw) (hts _ m2) m4 m5 hf) ⟨PreC_blind, PreC_of hW hAa hA hKK (hH0 ▸ hS) (vs_c (vs_h hvs2.2) hvs2.1)⟩ rfl (by rw [List.length_map]; exact hn9) hl.1 (by show List.map (phys ad) _ = _; rw [List.map_append, List.map_reverse]; rfl) (by show 0 + _ ≤ 8; rw [Nat.zero_add, cat_map]; exact hcat) hdg hce) hAa (by rw [hH0]; exact hA) hS (fun ad' H1 locs1 g1 g2 g3 g4 g5 g6 => ?_)
  have k2 := kk ad' H1 locs1 ls g3 g4 (fun i hi => (g1 i (Nat.lt_of_lt_of_le hi hn)).trans (hag i hi)) (Nat.le_trans hn g2) (fun q hq => Vok_mono g2 (hvl q hq)) (vs_ret g5 (fun v hv => Vok_mono g2 ((vs_t hvs2.2) v hv))) g6 (by rw [mapl_ag g1 hvl]; exact hl)
  rw [← ret_map, map_ag g1 (vs_t hvs2.2)] at k2
  exact k2
theorem J_callIN {C : JC} {x : Bool} {cc : ByteArray} {nL : Nat} {rm : Room} {rt : Option FieldType} {own : String} {res : Res} {ce sl : Nat} {M : Mem} {pc : Nat} {lv : List (Nat × Value)} {st : List Value} {y : MethodName} {cc2 : ByteArray} {maxL2 index : Nat} {rm2 : Room} {As : List Value} {M' : Mem} {rv : Option Value} {stk : List Value} {n : Nat} {o : Option Nat} {host : String} (hC : Ok C x cc nL rm rt own res) (hcon : ∀ l, Con false l y cc2 maxL2 none rm2 (va_rf o :: As) M (M', .inr rv)) (hm : IMok y cc2 maxL2 n) (hw : ∀ U, nestB U → va_Nw (.methodLinkNest own index y host) U) (ho : ∃ i, o = some i) (hn9 : As.length = n) (hf : rm2.frames + 1 ≤ rm.frames ∧ 8 + (maxL2 + 11) + rm2.locals ≤ rm.locals) (hcat : (st.map fun v => v.category).sum ≤ 8) (hce : ce + rm2.cells ≤ rm.cells ∧ sl + rm2.slots ≤ rm.slots)
    (hdg : decode cc pc = .ok (.invokespecial index, 3)) (hstk : stk = As.reverse ++ va_rf o :: st) (kk : J C (ce + rm2.cells) (sl + rm2.slots) M' (pc + 3) lv (rv.toList ++ st)) : J C ce sl M pc lv stk := by
  obtain ⟨i, rfl⟩ := ho
  subst hstk
  obtain ⟨m1, m2, m3, m4, m5⟩ := hm
  obtain ⟨p, l, e, R, s, m, args, below, meth, c, H0, A, Q, nL0, G, ad0, n0⟩ := C
  obtain ⟨hx, hb, hml, hnl, hown, hts, hKK, hH0, hA, hlk, hrt, hR, hQ, hxt⟩ := hC
  intro ad H locs ls hW hAa hag hn hvl hvs hS hl
  subst hR
  subst hnl
  have hvs2 := vs_arr hvs
  refine W_call (M := M) (M' := M') (rv := rv) (va_runIN (host := host) (cc := cc) (nL := nL0) (Ts := BIG) (own := own) (As := As.map (phys ad)) (rest := st.map (phys ad)) (b := ad i) ⟨hx, hb, hml, hown, hts⟩ (by have h9 := hcon l G ad H.size; rw [if_neg (by decide)] at h9; exact h9) ⟨va_cnB n hts (big_inB (big_cons m1)) rfl rfl rfl (hw s hKK.1.2.1) (hts _ m3) m5 hf, m4, hts _ m2⟩ ⟨PreC_blind, PreC_of hW hAa hA hKK (hH0 ▸ hS) (vs_c (vs_h hvs2.2) hvs2.1)⟩ rfl (by rw [List.length_map]; exact hn9) hl.1 (by show List.map (phys ad) _ = _; rw [List.map_append, List.map_reverse]; rfl) (by show 0 + _ ≤ 8; rw [Nat.zero_add, cat_map]; exact hcat) hdg hce) hAa (by rw [hH0]; exact hA) hS (fun ad' H1 locs1 g1 g2 g3 g4 g5 g6 => ?_)
  have k2 := kk ad' H1 locs1 ls g3 g4 (fun i hi => (g1 i (Nat.lt_of_lt_of_le hi hn)).trans (hag i hi)) (Nat.le_trans hn g2) (fun q hq => Vok_mono g2 (hvl q hq)) (vs_ret g5 (fun v hv => Vok_mono g2 ((vs_t hvs2.2) v hv))) g6 (by rw [mapl_ag g1 hvl]; exact hl)
  rw [← ret_map, map_ag g1 (vs_t hvs2.2)] at k2
  exact k2
theorem J_callVX {C : JC} {x : Bool} {cc : ByteArray} {nL : Nat} {rm : Room} {rt : Option FieldType} {own : String} {res : Res} {ce sl : Nat} {M : Mem} {pc : Nat} {lv : List (Nat × Value)} {st : List Value} {y : MethodName} {cc2 : ByteArray} {maxL2 index : Nat} {ret2 : Option FieldType} {rm2 : Room} {As : List Value} {M' : Mem} {rv : Option Value} {stk : List Value} {n : Nat} {Cn : String} {o : Option Nat} {ci : Nat} {qc : vw_C} (hC : Ok C x cc nL rm rt own res) (hcon : ∀ l, Con true l y cc2 maxL2 ret2 rm2 (va_rf o :: As) M (M', .inr rv)) (hm : VMok y Cn cc2 maxL2 ret2 n) (hw : Cond.methodLink own index y ∈ BIG) (ho : ∃ i, o = some i ∧ i < M.1 ∧ kd i = ci) (hq : vwCl[ci]? = some qc ∧ qc.1 = Cn) (hn9 : As.length = n) (hf : rm2.frames + 1 ≤ rm.frames ∧ 8 + (maxL2 + 11) + rm2.locals ≤ rm.locals) (hcat : (st.map fun v => v.category).sum ≤ 8) (hce : ce + rm2.cells ≤ rm.cells ∧ sl + rm2.slots ≤ rm.slots)
    (hdg : decode cc pc = .ok (.invokevirtual index, 3)) (hstk : stk = As.reverse ++ va_rf o :: st) (kk : J C (ce + rm2.cells) (sl + rm2.slots) M' (pc + 3) lv (rv.toList ++ st)) : J C ce sl M pc lv stk := by
  obtain ⟨i, rfl, hi1, hi2⟩ := ho
  subst hstk
  obtain ⟨m1, m2, m3, m4, m5⟩ := hm
  obtain ⟨p, l, e, R, s, m, args, below, meth, c, H0, A, Q, nL0, G, ad0, n0⟩ := C
  obtain ⟨hx, hb, hml, hnl, hown, hts, hKK, hH0, hA, hlk, hrt, hR, hQ, hxt⟩ := hC
  intro ad H locs ls hW hAa hag hn hvl hvs hS hl
  subst hR
  subst hnl
  have hvs2 := vs_arr hvs
  refine W_call (M := M) (M' := M') (rv := rv) (run_of_x (vx_runV (cc := cc) (nL := nL0) (Ts := BIG) (own := own) (As := As.map (phys ad)) (rest := st.map (phys ad)) (C := Cn) (b := ad i) ⟨hx, hb, hml, hown, hts⟩ (by have h9 := hcon l G ad H.size; rw [if_pos rfl] at h9; exact h9) (cwV n hts (big_inB (fun w hw9 => by
      rcases List.mem_append.mp hw9 with h | h
      · simp only [List.mem_cons, List.not_mem_nil, or_false] at h
        rcases h with h | h | h | h <;> subst h
        · exact hw
        · exact m2
        · exact m3
        · exact m4
      · exact big_cons m1 w h)) rfl rfl rfl m5 hf) ⟨PreC_blind, hq.2 ▸ rcv_of9 hW hKK hi1 hi2 hq.1, PreC_of hW hAa hA hKK (hH0 ▸ hS) (vs_c (vs_h hvs2.2) hvs2.1)⟩ rfl (by rw [List.length_map]; exact hn9) hl.1 (by show List.map (phys ad) _ = _; rw [List.map_append, List.map_reverse]; rfl) (by show 0 + _ ≤ 8; rw [Nat.zero_add, cat_map]; exact hcat) hdg hce)) hAa (by rw [hH0]; exact hA) hS (fun ad' H1 locs1 g1 g2 g3 g4 g5 g6 => ?_)
  have k2 := kk ad' H1 locs1 ls g3 g4 (fun i hi => (g1 i (Nat.lt_of_lt_of_le hi hn)).trans (hag i hi)) (Nat.le_trans hn g2) (fun q hq => Vok_mono g2 (hvl q hq)) (vs_ret g5 (fun v hv => Vok_mono g2 ((vs_t hvs2.2) v hv))) g6 (by rw [mapl_ag g1 hvl]; exact hl)
  rw [← ret_map, map_ag g1 (vs_t hvs2.2)] at k2
  exact k2
theorem J_callSX {C : JC} {x : Bool} {cc : ByteArray} {nL : Nat} {rm : Room} {rt : Option FieldType} {own : String} {res : Res} {ce sl : Nat} {M : Mem} {pc : Nat} {lv : List (Nat × Value)} {st : List Value} {y : MethodName} {cc2 : ByteArray} {maxL2 index : Nat} {ret2 : Option FieldType} {rm2 : Room} {As : List Value} {M' : Mem} {rv : Option Value} {stk : List Value} {n : Nat} (hC : Ok C x cc nL rm rt own res) (hcon : ∀ l, Con true l y cc2 maxL2 ret2 rm2 As M (M', .inr rv)) (hm : SMok y cc2 maxL2 ret2 n) (hw : Cond.methodLink own index y ∈ BIG) (hn9 : As.length = n) (hf : rm2.frames + 1 ≤ rm.frames ∧ 8 + (maxL2 + 11) + rm2.locals ≤ rm.locals) (hcat : (st.map fun v => v.category).sum ≤ 8) (hce : ce + rm2.cells ≤ rm.cells ∧ sl + rm2.slots ≤ rm.slots)
    (hdg : decode cc pc = .ok (.invokestatic index, 3)) (hstk : stk = As.reverse ++ st) (kk : J C (ce + rm2.cells) (sl + rm2.slots) M' (pc + 3) lv (rv.toList ++ st)) : J C ce sl M pc lv stk := by
  subst hstk
  obtain ⟨m1, m2, m3, m4⟩ := hm
  obtain ⟨p, l, e, R, s, m, args, below, meth, c, H0, A, Q, nL0, G, ad0, n0⟩ := C
  obtain ⟨hx, hb, hml, hnl, hown, hts, hKK, hH0, hA, hlk, hrt, hR, hQ, hxt⟩ := hC
  intro ad H locs ls hW hAa hag hn hvl hvs hS hl
  subst hR
  subst hnl
  have hvs2 := vs_arr hvs
  refine W_call (M := M) (M' := M') (rv := rv) (run_of_x (vx_runS (cc := cc) (nL := nL0) (Ts := BIG) (own := own) (As := As.map (phys ad)) (rest := st.map (phys ad)) ⟨hx, hb, hml, hown, hts⟩ (by have h9 := hcon l G ad H.size; rw [if_pos rfl] at h9; exact h9) (va_cwS n hts (big_inB (fun w hw9 => by
      rcases List.mem_append.mp hw9 with h | h
      · simp only [List.mem_cons, List.not_mem_nil, or_false] at h
        rcases h with h | h | h <;> subst h
        · exact hw
        · exact m2
        · exact m3
      · exact big_cons m1 w h)) rfl rfl rfl m4 hf) ⟨PreC_blind, PreC_of hW hAa hA hKK (hH0 ▸ hS) hvs2.1⟩ rfl (by rw [List.length_map]; exact hn9) hl.1 (by show List.map (phys ad) _ = _; rw [List.map_append, List.map_reverse]) (by show 0 + _ ≤ 8; rw [Nat.zero_add, cat_map]; exact hcat) hdg hce)) hAa (by rw [hH0]; exact hA) hS (fun ad' H1 locs1 g1 g2 g3 g4 g5 g6 => ?_)
  have k2 := kk ad' H1 locs1 ls g3 g4 (fun i hi => (g1 i (Nat.lt_of_lt_of_le hi hn)).trans (hag i hi)) (Nat.le_trans hn g2) (fun q hq => Vok_mono g2 (hvl q hq)) (vs_ret g5 (fun v hv => Vok_mono g2 (hvs2.2 v hv))) g6 (by rw [mapl_ag g1 hvl]; exact hl)
  rw [← ret_map, map_ag g1 hvs2.2] at k2
  exact k2
theorem J_objInit {C : JC} {x : Bool} {cc : ByteArray} {nL : Nat} {rm : Room} {rt : Option FieldType} {own : String} {res : Res} {ce sl : Nat} {M : Mem} {pc : Nat} {lv : List (Nat × Value)} {st : List Value} {idx : Nat} {o : Option Nat} (hC : Ok C x cc nL rm rt own res) (hw : Cond.methodLink own idx objectInit ∈ BIG) (ho : ∃ i, o = some i) (hf : 1 ≤ rm.frames) (hlo : (st.map fun v => v.category).sum + 12 ≤ rm.locals) (hdg : decode cc pc = .ok (.invokespecial idx, 3)) (kk : J C ce sl M (pc + 3) lv st) : J C ce sl M pc lv (va_rf o :: st) := by
  obtain ⟨i, rfl⟩ := ho
  obtain ⟨p, l, e, R, s, m, args, below, meth, c, H0, A, Q, nL0, G, ad0, n0⟩ := C
  obtain ⟨hx, hb, hml, hnl, hown, hts, hKK, hH0, hA, hlk, hrt, hR, hQ, hxt⟩ := hC
  intro ad H locs ls hW hAa hag hn hvl hvs hS hl
  subst hR
  exact W.objInit hx hb hown (hts _ hw) (hts _ w_oi1) (hts _ w_oi2) rfl (by show ls.size = _; rw [hml, ← hnl]; exact hl.1) rfl hdg hf (by show 2 * 0 + _ + 12 ≤ _; rw [cat_map]; omega) (kk ad H locs ls hW hAa hag hn hvl (vs_t hvs) hS hl)
end
