section
-- ===== PART A: goes FIRST, ahead of the names: the tables' words, and 'selects' of the private methods out of them =====
/-- a private method of a class that the tables say can be made, by its rows of tables_1 -/
def lw_okq (q : MethodName × Nat) : Prop := (q.1.cls ≠ "java/lang/invoke/MethodHandle" ∧ q.1.cls ≠ "java/lang/invoke/VarHandle") ∧ Cond.instantiable q.1.cls q.2 ∈ tables_1 ∧ Cond.privateMethod q.1 ∈ tables_1 ∧ Cond.instanceMethod q.1 ∈ tables_1
theorem lw_p0 : lw_okq (⟨"SignRoots", "save", "()V"⟩, 9) := ⟨⟨by decide +kernel, by decide +kernel⟩, List.mem_of_getElem? (i := 14) (by decide +kernel), List.mem_of_getElem? (i := 115) (by decide +kernel), List.mem_of_getElem? (i := 116) (by decide +kernel)⟩
theorem lw_p1 : lw_okq (⟨"SignRoots", "dropOldest", "()V"⟩, 9) := ⟨⟨by decide +kernel, by decide +kernel⟩, List.mem_of_getElem? (i := 14) (by decide +kernel), List.mem_of_getElem? (i := 119) (by decide +kernel), List.mem_of_getElem? (i := 120) (by decide +kernel)⟩
theorem lw_p2 : lw_okq (⟨"SignRoots", "errorPlace", "()I"⟩, 9) := ⟨⟨by decide +kernel, by decide +kernel⟩, List.mem_of_getElem? (i := 14) (by decide +kernel), List.mem_of_getElem? (i := 138) (by decide +kernel), List.mem_of_getElem? (i := 139) (by decide +kernel)⟩
theorem lw_p3 : lw_okq (⟨"java/lang/Throwable", "fillInStackTrace", "(I)Ljava/lang/Throwable;"⟩, 6) := ⟨⟨by decide +kernel, by decide +kernel⟩, List.mem_of_getElem? (i := 195) (by decide +kernel), List.mem_of_getElem? (i := 193) (by decide +kernel), List.mem_of_getElem? (i := 194) (by decide +kernel)⟩
theorem lw_p4 : lw_okq (⟨"SignRoots", "rootsOfSign", "(I)I"⟩, 9) := ⟨⟨by decide +kernel, by decide +kernel⟩, List.mem_of_getElem? (i := 14) (by decide +kernel), List.mem_of_getElem? (i := 225) (by decide +kernel), List.mem_of_getElem? (i := 226) (by decide +kernel)⟩
theorem lw_p5 : lw_okq (⟨"SignRoots", "withRootOne", "()I"⟩, 9) := ⟨⟨by decide +kernel, by decide +kernel⟩, List.mem_of_getElem? (i := 14) (by decide +kernel), List.mem_of_getElem? (i := 232) (by decide +kernel), List.mem_of_getElem? (i := 233) (by decide +kernel)⟩
theorem lw_p6 : lw_okq (⟨"SignRoots", "mixedPolynomial", "(J[I)J"⟩, 9) := ⟨⟨by decide +kernel, by decide +kernel⟩, List.mem_of_getElem? (i := 14) (by decide +kernel), List.mem_of_getElem? (i := 252) (by decide +kernel), List.mem_of_getElem? (i := 253) (by decide +kernel)⟩
theorem lw_p7 : lw_okq (⟨"SignRoots$Division", "fits", "(I)Z"⟩, 6) := ⟨⟨by decide +kernel, by decide +kernel⟩, List.mem_of_getElem? (i := 54) (by decide +kernel), List.mem_of_getElem? (i := 288) (by decide +kernel), List.mem_of_getElem? (i := 289) (by decide +kernel)⟩
theorem lw_p8 : lw_okq (⟨"SignRoots", "bestForm", "(I)I"⟩, 9) := ⟨⟨by decide +kernel, by decide +kernel⟩, List.mem_of_getElem? (i := 14) (by decide +kernel), List.mem_of_getElem? (i := 299) (by decide +kernel), List.mem_of_getElem? (i := 300) (by decide +kernel)⟩
theorem lw_p9 : lw_okq (⟨"SignRoots", "quotientsOf", "([II)I"⟩, 9) := ⟨⟨by decide +kernel, by decide +kernel⟩, List.mem_of_getElem? (i := 14) (by decide +kernel), List.mem_of_getElem? (i := 303) (by decide +kernel), List.mem_of_getElem? (i := 304) (by decide +kernel)⟩
theorem lw_p10 : lw_okq (⟨"SignRoots", "mixedPairs", "(J)J"⟩, 9) := ⟨⟨by decide +kernel, by decide +kernel⟩, List.mem_of_getElem? (i := 14) (by decide +kernel), List.mem_of_getElem? (i := 316) (by decide +kernel), List.mem_of_getElem? (i := 317) (by decide +kernel)⟩
theorem lw_p11 : lw_okq (⟨"SignRoots", "mixedWhole", "(J)J"⟩, 9) := ⟨⟨by decide +kernel, by decide +kernel⟩, List.mem_of_getElem? (i := 14) (by decide +kernel), List.mem_of_getElem? (i := 335) (by decide +kernel), List.mem_of_getElem? (i := 336) (by decide +kernel)⟩
theorem lw_p12 : lw_okq (⟨"SignRoots", "expandWhole", "()V"⟩, 9) := ⟨⟨by decide +kernel, by decide +kernel⟩, List.mem_of_getElem? (i := 14) (by decide +kernel), List.mem_of_getElem? (i := 339) (by decide +kernel), List.mem_of_getElem? (i := 340) (by decide +kernel)⟩
theorem lw_p13 : lw_okq (⟨"SignRoots", "mixedTexts", "(J)J"⟩, 9) := ⟨⟨by decide +kernel, by decide +kernel⟩, List.mem_of_getElem? (i := 14) (by decide +kernel), List.mem_of_getElem? (i := 343) (by decide +kernel), List.mem_of_getElem? (i := 344) (by decide +kernel)⟩
theorem lw_p14 : lw_okq (⟨"SignRoots", "degreesTogether", "()I"⟩, 9) := ⟨⟨by decide +kernel, by decide +kernel⟩, List.mem_of_getElem? (i := 14) (by decide +kernel), List.mem_of_getElem? (i := 463) (by decide +kernel), List.mem_of_getElem? (i := 464) (by decide +kernel)⟩
theorem lw_p15 : lw_okq (⟨"SignRootsModel", "fails", "(I)I"⟩, 13) := ⟨⟨by decide +kernel, by decide +kernel⟩, List.mem_of_getElem? (i := 560) (by decide +kernel), List.mem_of_getElem? (i := 620) (by decide +kernel), List.mem_of_getElem? (i := 621) (by decide +kernel)⟩
def lw_privs_1 : List (MethodName × Nat) := [(⟨"SignRoots", "save", "()V"⟩, 9), (⟨"SignRoots", "dropOldest", "()V"⟩, 9), (⟨"SignRoots", "errorPlace", "()I"⟩, 9), (⟨"java/lang/Throwable", "fillInStackTrace", "(I)Ljava/lang/Throwable;"⟩, 6), (⟨"SignRoots", "rootsOfSign", "(I)I"⟩, 9), (⟨"SignRoots", "withRootOne", "()I"⟩, 9), (⟨"SignRoots", "mixedPolynomial", "(J[I)J"⟩, 9), (⟨"SignRoots$Division", "fits", "(I)Z"⟩, 6), (⟨"SignRoots", "bestForm", "(I)I"⟩, 9), (⟨"SignRoots", "quotientsOf", "([II)I"⟩, 9), (⟨"SignRoots", "mixedPairs", "(J)J"⟩, 9), (⟨"SignRoots", "mixedWhole", "(J)J"⟩, 9), (⟨"SignRoots", "expandWhole", "()V"⟩, 9), (⟨"SignRoots", "mixedTexts", "(J)J"⟩, 9), (⟨"SignRoots", "degreesTogether", "()I"⟩, 9), (⟨"SignRootsModel", "fails", "(I)I"⟩, 13)]
theorem lw_r1 : ∀ q ∈ lw_privs_1, lw_okq q := List.forall_mem_cons.mpr ⟨lw_p0, List.forall_mem_cons.mpr ⟨lw_p1, List.forall_mem_cons.mpr ⟨lw_p2, List.forall_mem_cons.mpr ⟨lw_p3, List.forall_mem_cons.mpr ⟨lw_p4, List.forall_mem_cons.mpr ⟨lw_p5, List.forall_mem_cons.mpr ⟨lw_p6, List.forall_mem_cons.mpr ⟨lw_p7, List.forall_mem_cons.mpr ⟨lw_p8, List.forall_mem_cons.mpr ⟨lw_p9, List.forall_mem_cons.mpr ⟨lw_p10, List.forall_mem_cons.mpr ⟨lw_p11, List.forall_mem_cons.mpr ⟨lw_p12, List.forall_mem_cons.mpr ⟨lw_p13, List.forall_mem_cons.mpr ⟨lw_p14, List.forall_mem_cons.mpr ⟨lw_p15, fun _ h => absurd h List.not_mem_nil⟩⟩⟩⟩⟩⟩⟩⟩⟩⟩⟩⟩⟩⟩⟩⟩
theorem lw_p16 : lw_okq (⟨"SignRootsModel", "saves", "()V"⟩, 13) := ⟨⟨by decide +kernel, by decide +kernel⟩, List.mem_of_getElem? (i := 560) (by decide +kernel), List.mem_of_getElem? (i := 627) (by decide +kernel), List.mem_of_getElem? (i := 628) (by decide +kernel)⟩
theorem lw_p17 : lw_okq (⟨"SignRootsModel", "degree", "(I)I"⟩, 13) := ⟨⟨by decide +kernel, by decide +kernel⟩, List.mem_of_getElem? (i := 560) (by decide +kernel), List.mem_of_getElem? (i := 631) (by decide +kernel), List.mem_of_getElem? (i := 632) (by decide +kernel)⟩
theorem lw_p18 : lw_okq (⟨"SignRootsModel", "signAt", "(II)I"⟩, 13) := ⟨⟨by decide +kernel, by decide +kernel⟩, List.mem_of_getElem? (i := 560) (by decide +kernel), List.mem_of_getElem? (i := 635) (by decide +kernel), List.mem_of_getElem? (i := 636) (by decide +kernel)⟩
theorem lw_p19 : lw_okq (⟨"SignRootsModel", "refuses", "(I)I"⟩, 13) := ⟨⟨by decide +kernel, by decide +kernel⟩, List.mem_of_getElem? (i := 560) (by decide +kernel), List.mem_of_getElem? (i := 639) (by decide +kernel), List.mem_of_getElem? (i := 640) (by decide +kernel)⟩
theorem lw_p20 : lw_okq (⟨"SignRootsModel", "divides", "(II)I"⟩, 13) := ⟨⟨by decide +kernel, by decide +kernel⟩, List.mem_of_getElem? (i := 560) (by decide +kernel), List.mem_of_getElem? (i := 651) (by decide +kernel), List.mem_of_getElem? (i := 652) (by decide +kernel)⟩
theorem lw_p21 : lw_okq (⟨"SignRootsModel", "laysRow", "(II)V"⟩, 13) := ⟨⟨by decide +kernel, by decide +kernel⟩, List.mem_of_getElem? (i := 560) (by decide +kernel), List.mem_of_getElem? (i := 655) (by decide +kernel), List.mem_of_getElem? (i := 656) (by decide +kernel)⟩
theorem lw_p22 : lw_okq (⟨"SignRootsModel", "isQuotient", "(III)Z"⟩, 13) := ⟨⟨by decide +kernel, by decide +kernel⟩, List.mem_of_getElem? (i := 560) (by decide +kernel), List.mem_of_getElem? (i := 659) (by decide +kernel), List.mem_of_getElem? (i := 660) (by decide +kernel)⟩
theorem lw_p23 : lw_okq (⟨"SignRootsModel", "notes", "(II)V"⟩, 13) := ⟨⟨by decide +kernel, by decide +kernel⟩, List.mem_of_getElem? (i := 560) (by decide +kernel), List.mem_of_getElem? (i := 666) (by decide +kernel), List.mem_of_getElem? (i := 667) (by decide +kernel)⟩
theorem lw_p24 : lw_okq (⟨"SignRootsModel", "multiplies", "()V"⟩, 13) := ⟨⟨by decide +kernel, by decide +kernel⟩, List.mem_of_getElem? (i := 560) (by decide +kernel), List.mem_of_getElem? (i := 685) (by decide +kernel), List.mem_of_getElem? (i := 686) (by decide +kernel)⟩
theorem lw_p25 : lw_okq (⟨"SignRootsModel", "error", "()I"⟩, 13) := ⟨⟨by decide +kernel, by decide +kernel⟩, List.mem_of_getElem? (i := 560) (by decide +kernel), List.mem_of_getElem? (i := 701) (by decide +kernel), List.mem_of_getElem? (i := 702) (by decide +kernel)⟩
theorem lw_p26 : lw_okq (⟨"SignRootsModel", "degrees", "()I"⟩, 13) := ⟨⟨by decide +kernel, by decide +kernel⟩, List.mem_of_getElem? (i := 560) (by decide +kernel), List.mem_of_getElem? (i := 713) (by decide +kernel), List.mem_of_getElem? (i := 714) (by decide +kernel)⟩
theorem lw_p27 : lw_okq (⟨"SignRootsModel", "tells", "(II)I"⟩, 13) := ⟨⟨by decide +kernel, by decide +kernel⟩, List.mem_of_getElem? (i := 560) (by decide +kernel), List.mem_of_getElem? (i := 733) (by decide +kernel), List.mem_of_getElem? (i := 734) (by decide +kernel)⟩
theorem lw_p28 : lw_okq (⟨"SignRootsModel", "often", "(II)I"⟩, 13) := ⟨⟨by decide +kernel, by decide +kernel⟩, List.mem_of_getElem? (i := 560) (by decide +kernel), List.mem_of_getElem? (i := 737) (by decide +kernel), List.mem_of_getElem? (i := 738) (by decide +kernel)⟩
theorem lw_p29 : lw_okq (⟨"SignRootsModel", "has", "(II)Z"⟩, 13) := ⟨⟨by decide +kernel, by decide +kernel⟩, List.mem_of_getElem? (i := 560) (by decide +kernel), List.mem_of_getElem? (i := 748) (by decide +kernel), List.mem_of_getElem? (i := 749) (by decide +kernel)⟩
theorem lw_p30 : lw_okq (⟨"SignRootsModel", "bestForm", "(II)I"⟩, 13) := ⟨⟨by decide +kernel, by decide +kernel⟩, List.mem_of_getElem? (i := 560) (by decide +kernel), List.mem_of_getElem? (i := 764) (by decide +kernel), List.mem_of_getElem? (i := 765) (by decide +kernel)⟩
theorem lw_p31 : lw_okq (⟨"SignRootsModel", "rows", "(III)I"⟩, 13) := ⟨⟨by decide +kernel, by decide +kernel⟩, List.mem_of_getElem? (i := 560) (by decide +kernel), List.mem_of_getElem? (i := 772) (by decide +kernel), List.mem_of_getElem? (i := 773) (by decide +kernel)⟩
def lw_privs_2 : List (MethodName × Nat) := [(⟨"SignRootsModel", "saves", "()V"⟩, 13), (⟨"SignRootsModel", "degree", "(I)I"⟩, 13), (⟨"SignRootsModel", "signAt", "(II)I"⟩, 13), (⟨"SignRootsModel", "refuses", "(I)I"⟩, 13), (⟨"SignRootsModel", "divides", "(II)I"⟩, 13), (⟨"SignRootsModel", "laysRow", "(II)V"⟩, 13), (⟨"SignRootsModel", "isQuotient", "(III)Z"⟩, 13), (⟨"SignRootsModel", "notes", "(II)V"⟩, 13), (⟨"SignRootsModel", "multiplies", "()V"⟩, 13), (⟨"SignRootsModel", "error", "()I"⟩, 13), (⟨"SignRootsModel", "degrees", "()I"⟩, 13), (⟨"SignRootsModel", "tells", "(II)I"⟩, 13), (⟨"SignRootsModel", "often", "(II)I"⟩, 13), (⟨"SignRootsModel", "has", "(II)Z"⟩, 13), (⟨"SignRootsModel", "bestForm", "(II)I"⟩, 13), (⟨"SignRootsModel", "rows", "(III)I"⟩, 13)]
theorem lw_r2 : ∀ q ∈ lw_privs_2, lw_okq q := List.forall_mem_cons.mpr ⟨lw_p16, List.forall_mem_cons.mpr ⟨lw_p17, List.forall_mem_cons.mpr ⟨lw_p18, List.forall_mem_cons.mpr ⟨lw_p19, List.forall_mem_cons.mpr ⟨lw_p20, List.forall_mem_cons.mpr ⟨lw_p21, List.forall_mem_cons.mpr ⟨lw_p22, List.forall_mem_cons.mpr ⟨lw_p23, List.forall_mem_cons.mpr ⟨lw_p24, List.forall_mem_cons.mpr ⟨lw_p25, List.forall_mem_cons.mpr ⟨lw_p26, List.forall_mem_cons.mpr ⟨lw_p27, List.forall_mem_cons.mpr ⟨lw_p28, List.forall_mem_cons.mpr ⟨lw_p29, List.forall_mem_cons.mpr ⟨lw_p30, List.forall_mem_cons.mpr ⟨lw_p31, fun _ h => absurd h List.not_mem_nil⟩⟩⟩⟩⟩⟩⟩⟩⟩⟩⟩⟩⟩⟩⟩⟩
theorem lw_p32 : lw_okq (⟨"SignRootsModel", "isTooHigh", "(III)Z"⟩, 13) := ⟨⟨by decide +kernel, by decide +kernel⟩, List.mem_of_getElem? (i := 560) (by decide +kernel), List.mem_of_getElem? (i := 776) (by decide +kernel), List.mem_of_getElem? (i := 777) (by decide +kernel)⟩
theorem lw_p33 : lw_okq (⟨"SignRootsModel", "isThree", "(IIII)Z"⟩, 13) := ⟨⟨by decide +kernel, by decide +kernel⟩, List.mem_of_getElem? (i := 560) (by decide +kernel), List.mem_of_getElem? (i := 780) (by decide +kernel), List.mem_of_getElem? (i := 781) (by decide +kernel)⟩
theorem lw_p34 : lw_okq (⟨"SignRootsModel", "hasProduct", "(IIII)Z"⟩, 13) := ⟨⟨by decide +kernel, by decide +kernel⟩, List.mem_of_getElem? (i := 560) (by decide +kernel), List.mem_of_getElem? (i := 784) (by decide +kernel), List.mem_of_getElem? (i := 785) (by decide +kernel)⟩
theorem lw_p35 : lw_okq (⟨"SignRootsModel", "isAmong", "(IIII)Z"⟩, 13) := ⟨⟨by decide +kernel, by decide +kernel⟩, List.mem_of_getElem? (i := 560) (by decide +kernel), List.mem_of_getElem? (i := 792) (by decide +kernel), List.mem_of_getElem? (i := 793) (by decide +kernel)⟩
theorem lw_p36 : lw_okq (⟨"SignRootsModel", "only", "(IIII)I"⟩, 13) := ⟨⟨by decide +kernel, by decide +kernel⟩, List.mem_of_getElem? (i := 560) (by decide +kernel), List.mem_of_getElem? (i := 796) (by decide +kernel), List.mem_of_getElem? (i := 797) (by decide +kernel)⟩
theorem lw_p37 : lw_okq (⟨"SignRootsModel", "tellsCount", "(I)I"⟩, 13) := ⟨⟨by decide +kernel, by decide +kernel⟩, List.mem_of_getElem? (i := 560) (by decide +kernel), List.mem_of_getElem? (i := 808) (by decide +kernel), List.mem_of_getElem? (i := 809) (by decide +kernel)⟩
theorem lw_p38 : lw_okq (⟨"SignRootsModel", "rootsOf", "(I)I"⟩, 13) := ⟨⟨by decide +kernel, by decide +kernel⟩, List.mem_of_getElem? (i := 560) (by decide +kernel), List.mem_of_getElem? (i := 812) (by decide +kernel), List.mem_of_getElem? (i := 813) (by decide +kernel)⟩
theorem lw_p39 : lw_okq (⟨"SignRootsModel", "share", "(I)D"⟩, 13) := ⟨⟨by decide +kernel, by decide +kernel⟩, List.mem_of_getElem? (i := 560) (by decide +kernel), List.mem_of_getElem? (i := 820) (by decide +kernel), List.mem_of_getElem? (i := 821) (by decide +kernel)⟩
theorem lw_p40 : lw_okq (⟨"SignRootsModel", "hashes", "(J)V"⟩, 13) := ⟨⟨by decide +kernel, by decide +kernel⟩, List.mem_of_getElem? (i := 560) (by decide +kernel), List.mem_of_getElem? (i := 829) (by decide +kernel), List.mem_of_getElem? (i := 830) (by decide +kernel)⟩
theorem lw_p41 : lw_okq (⟨"SignRootsModel", "hashesPoly", "(I)V"⟩, 13) := ⟨⟨by decide +kernel, by decide +kernel⟩, List.mem_of_getElem? (i := 560) (by decide +kernel), List.mem_of_getElem? (i := 834) (by decide +kernel), List.mem_of_getElem? (i := 835) (by decide +kernel)⟩
def lw_privs_3 : List (MethodName × Nat) := [(⟨"SignRootsModel", "isTooHigh", "(III)Z"⟩, 13), (⟨"SignRootsModel", "isThree", "(IIII)Z"⟩, 13), (⟨"SignRootsModel", "hasProduct", "(IIII)Z"⟩, 13), (⟨"SignRootsModel", "isAmong", "(IIII)Z"⟩, 13), (⟨"SignRootsModel", "only", "(IIII)I"⟩, 13), (⟨"SignRootsModel", "tellsCount", "(I)I"⟩, 13), (⟨"SignRootsModel", "rootsOf", "(I)I"⟩, 13), (⟨"SignRootsModel", "share", "(I)D"⟩, 13), (⟨"SignRootsModel", "hashes", "(J)V"⟩, 13), (⟨"SignRootsModel", "hashesPoly", "(I)V"⟩, 13)]
theorem lw_r3 : ∀ q ∈ lw_privs_3, lw_okq q := List.forall_mem_cons.mpr ⟨lw_p32, List.forall_mem_cons.mpr ⟨lw_p33, List.forall_mem_cons.mpr ⟨lw_p34, List.forall_mem_cons.mpr ⟨lw_p35, List.forall_mem_cons.mpr ⟨lw_p36, List.forall_mem_cons.mpr ⟨lw_p37, List.forall_mem_cons.mpr ⟨lw_p38, List.forall_mem_cons.mpr ⟨lw_p39, List.forall_mem_cons.mpr ⟨lw_p40, List.forall_mem_cons.mpr ⟨lw_p41, fun _ h => absurd h List.not_mem_nil⟩⟩⟩⟩⟩⟩⟩⟩⟩⟩
def lw_privs : List (MethodName × Nat) := lw_privs_1 ++ (lw_privs_2 ++ (lw_privs_3))
def lw_tbl : List Cond := k2_sels lw_privs ++ tables_1
theorem lw_privs_ok : ∀ q ∈ lw_privs, lw_okq q := by
  show ∀ q ∈ lw_privs_1 ++ (lw_privs_2 ++ (lw_privs_3)), lw_okq q
  exact List.forall_mem_append.mpr ⟨lw_r1, List.forall_mem_append.mpr ⟨lw_r2, lw_r3⟩⟩
/-- the streams that the claim lets the run draw from -/
abbrev lw_cs : List Choice := [Jvm.Choice.named "NaN.bits"]
theorem lw_bits : nanBits ∈ lw_cs := by first | decide | exact List.mem_cons_self | simp [lw_cs, nanBits]
end
section
/-! ===== BEGIN words of one list among another's, by their places ===== -/
theorem goodIn_r {big : List Cond} (ws : List Cond) (ps : List Nat) (hp : ws = ps.filterMap (fun i => big[i]?)) (h : ws.all goodWord = true) : GoodIn big ws := by
  intro w hw
  have h1 := List.all_eq_true.mp h w hw
  rw [hp] at hw
  obtain ⟨i, -, hi⟩ := List.mem_filterMap.mp hw
  have hm : w ∈ big := by first | exact List.mem_of_getElem? hi | exact List.getElem?_mem hi
  exact ⟨hm, good_of_word h1⟩
theorem goodIn_app {big a b : List Cond} (ha : GoodIn big a) (hb : GoodIn big b) : GoodIn big (a ++ b) := fun w h => (List.mem_append.mp h).elim (ha w) (hb w)
theorem goodIn_ca {big a b : List Cond} {c : Cond} (ha : GoodIn big (c :: a)) (hb : GoodIn big b) : GoodIn big (c :: (a ++ b)) := fun w h => (List.mem_cons.mp h).elim (fun e => ha w (List.mem_cons.mpr (Or.inl e))) (fun h => (List.mem_append.mp h).elim (fun h => ha w (List.mem_cons.mpr (Or.inr h))) (hb w))
theorem goodIn_sub {big ws : List Cond} (hm : ∀ w ∈ ws, w ∈ big) (h : ws.all goodWord = true) : GoodIn big ws := fun w hw => ⟨hm w hw, good_of_word (List.all_eq_true.mp h w hw)⟩
/-! ===== END ===== -/

/-! ===== BEGIN new T[n][m]: the outer array a place, the inner ones among the pooled ===== -/
/-- f, but v at every address of l -/
def vr_up {α : Type} (f : Nat → α) (l : List Nat) (v : α) : Nat → α := fun a => if a ∈ l then v else f a
theorem vr_up_in {α : Type} {f : Nat → α} {l : List Nat} {v : α} {a : Nat} (h : a ∈ l) : vr_up f l v a = v := if_pos h
theorem vr_up_ne {α : Type} {f : Nat → α} {l : List Nat} {v : α} {a : Nat} (h : a ∉ l) : vr_up f l v a = f a := if_neg h
theorem vr_rows {L l : List Nat} {f : Nat → va_E} {e : va_E} (h : ∀ a, a ∈ l → a ∉ L) : va_pl L f ++ l.map (fun a => (a, e)) = va_pl (L ++ l) (vr_up f l e) := by
  unfold va_pl
  rw [List.map_append]
  congr 1
  · apply List.map_congr_left
    intro a ha
    rw [vr_up_ne (fun q => h a q ha)]
  · apply List.map_congr_left
    intro a ha
    rw [vr_up_in ha]
theorem vr_lay {X rows : va_W} {x : Nat × va_E} {pl : va_W} {D : va_G} {cl : List vw_C} {H : Heap} (hP : va_P D cl (((X ++ pl) ++ [x]) ++ rows) H) : va_P D cl ((X ++ [x]) ++ (pl ++ rows)) H := by
  rw [List.append_assoc (X ++ pl)] at hP
  have h := va_P.swap hP
  rw [← List.append_assoc X] at h
  have h2 := va_P.swap h
  rw [List.append_assoc (X ++ [x])] at h2
  exact h2
theorem vr_layD {X rows : va_W} {x : Nat × va_E} {pl : va_W} {A : Nat → Prop} (hD : va_D A (((X ++ pl) ++ [x]) ++ rows)) : va_D A ((X ++ [x]) ++ (pl ++ rows)) := by
  rw [List.append_assoc (X ++ pl)] at hD
  have h := va_D.swap hD
  rw [← List.append_assoc X] at h
  have h2 := va_D.swap h
  rw [List.append_assoc (X ++ [x])] at h2
  exact h2
theorem vr_outer (c : ClassId) (N h0 : Nat) : ∀ i : Nat, Jvm.Free.Multi.outerC c N h0 i = arrV c N (fun j => va_rf (if j < i then some (h0 + 1 + j) else none))
  | 0 => by
    show ({ cls := c, slots := Array.replicate N .null, vm := .none } : Cell) = _
    rw [arrV_new]
    refine congrArg (arrV c N) (funext fun j => ?_)
    simp [va_rf]
  | i + 1 => by
    show (Jvm.Free.Multi.outerC c N h0 i).setSlot i (.ref (h0 + 1 + i)) = _
    rw [vr_outer c N h0 i, arrV_store]
    refine congrArg (arrV c N) (funext fun j => ?_)
    by_cases e : j = i
    · subst e
      simp [updV, va_rf]
    · by_cases h : j < i
      · simp [updV, e, h, Nat.lt_succ_of_lt h]
      · simp [updV, e, h, show ¬ j < i + 1 by omega]
def va_AOA (ty : FieldType) (U : State) : Prop := (Cond.arrayOver (.array ty)).before #[] U = true
theorem va_AOA.use {ty : FieldType} {A : Array Value} {U : State} (h : va_AOA ty U) : (Cond.arrayOver (.array ty)).before A U = true := h
section VGM
variable {p : Program} {l : Launch} {e : Env} {R : Room} {s : State} {m : MethodId} {args : Array Value} {below : List Frame} {meth : Method} {c : Code} {H : Heap} {locs : List Loc} {cells slots : Nat} {Q : State → Prop}
variable {cc : ByteArray} {pc : Nat} {ls : Array Slot} {rest : List Value} {D : va_G} {cl : List vw_C} {A : Nat → Prop} {a : Nat} {tys : List (ClassId × FieldType)} {ws : va_W} {H0 : Heap}
theorem va_mna {X : va_W} {L : List Nat} {f : Nat → va_E} {cc : ByteArray} (hexec : p.tables.exec = Jvm.exec) (hb : c.code = cc) {own : String} {index : Nat} {ty : FieldType} {cy : ClassId} (hown : s.vm.findClass own = some m.cls) (hclink : (Cond.classLink own index ("[" ++ (FieldType.array ty).toString)).before args s = true) (hover : va_AOA ty s) (harr : (Cond.arrayClass ty).before args s = true) (hcy : s.vm.findClass (FieldType.array ty).toString = some cy)
    (hK : va_K D cl tys s) (hP : va_P D cl (X ++ va_pl L f) H) (hD : va_D A (X ++ va_pl L f)) (hS : va_S A H0 H locs) (hA : ∀ q, H0.size ≤ q → A q) {n k : Int32} {N' K' : Nat} {z : vp_A} (hn : ¬ n < 0) (hk : ¬ k < 0) (hN : n.toNatClampNeg = N') (hM : k.toNatClampNeg = K')
    (hb1 : N' * 4 ≤ 536870912) (hb2 : K' * componentBytes ty ≤ 536870912) (hb3 : K' ≤ 536870912) (hdf : fits ty (defaultValue ty) = true) (hdd : (defaultValue ty).isDefault = true) (hcells : cells + (1 + N') ≤ R.cells) (hslots : slots + (N' + N' * K') ≤ R.slots) (hz : ∀ c : ClassId, Jvm.Free.Multi.innerC c K' (defaultValue ty) = vp_cell c z) (hdg : decode cc pc = .ok (.multianewarray index 2, 4))
    (kk : ∀ (q : Nat) (r : Nat → Nat) (cA : ClassId) (H1 : Heap), (∀ i j : Nat, i < N' → j < N' → r i = r j → i = j) → (∀ i : Nat, i < N' → r i ∉ L) → va_K D cl (tys ++ [(cA, .array ty)]) s →
      va_P D cl ((X ++ [(q, .inl (cA, N', .inr (.inr (.inr (.inr (fun i => if i < N' then some (r i) else none))))))]) ++ va_pl (L ++ (List.range N').map r) (vr_up f ((List.range N').map r) (.inl (cy, z)))) H1 → va_D A ((X ++ [(q, .inl (cA, N', .inr (.inr (.inr (.inr (fun i => if i < N' then some (r i) else none))))))]) ++ va_pl (L ++ (List.range N').map r) (vr_up f ((List.range N').map r) (.inl (cy, z)))) → va_S A H0 H1 locs →
      W p l e R s m args below meth c H1 locs (cells + 1 + N') (slots + N' + N' * K') Q (F0 m (pc + 4) ls (.ref q :: rest))) : W p l e R s m args below meth c H locs cells slots Q (F0 m pc ls (.int k :: .int n :: rest)) := by
  subst hN
  subst hM
  intro T hT Xs
  obtain ⟨vm₁, cA, comp, -, fA, fC, hO, -, X', step⟩ := Xs.multianewarray2F hexec hown hclink (va_AOA.use hover) harr (g := F0 m pc ls (.int k :: .int n :: rest)) rfl (by rw [hb]; exact hdg) rfl hn hk hb1 hb2 hb3 hdf hdd hcells hslots
  have ec : some cy = some comp := hcy.symm.trans fC
  cases ec
  generalize hF : Jvm.Free.Multi.fill (T.setVm vm₁) cA cy n.toNatClampNeg k.toNatClampNeg (defaultValue ty) n.toNatClampNeg = F at X' step
  have hTh : (T.setVm vm₁).heap = H := hT
  obtain ⟨f1, f2, -, -⟩ := Jvm.Free.Multi.fill_facts (T.setVm vm₁) cA cy n.toNatClampNeg k.toNatClampNeg (defaultValue ty) n.toNatClampNeg
  rw [hF, hTh] at f1 f2
  have hold : ∀ x : Nat, x < H.size → F.heap[x]? = H[x]? := fun x hx => by
    have := Jvm.Free.Multi.fill_old (T.setVm vm₁) cA cy n.toNatClampNeg k.toNatClampNeg (defaultValue ty) (a := x) (by rw [hTh]; exact hx) n.toNatClampNeg
    rw [hF, hTh] at this
    exact this
  have hrow : ∀ j : Nat, j < n.toNatClampNeg → F.heap[H.size + 1 + j]? = some (vp_cell cy z) := fun j hj => by
    have := Jvm.Free.Multi.fill_inner (T.setVm vm₁) cA cy n.toNatClampNeg k.toNatClampNeg (defaultValue ty) n.toNatClampNeg j hj
    rw [hF, hTh, hz] at this
    exact this
  have hout : Jvm.Free.Multi.outerC cA n.toNatClampNeg H.size n.toNatClampNeg = vp_cell cA (n.toNatClampNeg, .inr (.inr (.inr (.inr (fun i => if i < n.toNatClampNeg then some (H.size + 1 + i) else none))))) := by
    rw [vp_cell_q]
    exact vr_outer cA n.toNatClampNeg H.size n.toNatClampNeg
  rw [hout] at f2
  have hlt : ∀ a, a ∈ L → a < H.size := fun a ha => by
    obtain ⟨k9, hk9⟩ := va_pl_get (X := X) (f := f) ha
    exact (hP k9 _ hk9).lt
  have hnl : ∀ i : Nat, i < n.toNatClampNeg → H.size + 1 + i ∉ L := fun i _ h => by
    have := hlt _ h
    omega
  have hnm : ∀ a, a ∈ (List.range n.toNatClampNeg).map (fun i => H.size + 1 + i) → a ∉ L := fun a ha h => by
    obtain ⟨i, -, rfl⟩ := List.mem_map.mp ha
    have := hlt _ h
    omega
  have hP0 : va_P D cl (X ++ va_pl L f) F.heap := hP.kept (fun k9 x hx => hold x.1 ((hP k9 x hx).lt))
  have hP1 : va_P D cl ((X ++ va_pl L f) ++ [(H.size, .inl (cA, n.toNatClampNeg, .inr (.inr (.inr (.inr (fun i => if i < n.toNatClampNeg then some (H.size + 1 + i) else none))))))]) F.heap := hP0.app (fun k9 x hx => by
    have h0 : k9 < 1 := (List.getElem?_eq_some_iff.mp hx).1
    rw [show k9 = 0 by omega] at hx
    cases hx
    exact f2)
  have hP2 : va_P D cl (((X ++ va_pl L f) ++ [(H.size, .inl (cA, n.toNatClampNeg, .inr (.inr (.inr (.inr (fun i => if i < n.toNatClampNeg then some (H.size + 1 + i) else none))))))]) ++ ((List.range n.toNatClampNeg).map (fun i => H.size + 1 + i)).map (fun a => (a, .inl (cy, z)))) F.heap := hP1.app (fun k9 x hx => by
    obtain ⟨a, ha, rfl⟩ := List.mem_map.mp (List.mem_of_getElem? hx)
    obtain ⟨i, hi, rfl⟩ := List.mem_map.mp ha
    exact hrow i (List.mem_range.mp hi))
  have hD2 : va_D A (((X ++ va_pl L f) ++ [(H.size, .inl (cA, n.toNatClampNeg, .inr (.inr (.inr (.inr (fun i => if i < n.toNatClampNeg then some (H.size + 1 + i) else none))))))]) ++ ((List.range n.toNatClampNeg).map (fun i => H.size + 1 + i)).map (fun a => (a, .inl (cy, z)))) := by
    have hD1 := hD.push (e := .inl (cA, n.toNatClampNeg, .inr (.inr (.inr (.inr (fun i => if i < n.toNatClampNeg then some (H.size + 1 + i) else none)))))) hP rfl (hA _ hS.1)
    generalize hW1 : (X ++ va_pl L f) ++ [(H.size, .inl (cA, n.toNatClampNeg, .inr (.inr (.inr (.inr (fun i => if i < n.toNatClampNeg then some (H.size + 1 + i) else none))))))] = W1 at hD1 hP1 ⊢
    have hle : ∀ (k9 : Nat) (x : Nat × va_E), W1[k9]? = some x → x.1 ≤ H.size := fun k9 x hx => by
      rw [← hW1] at hx
      by_cases hl : k9 < (X ++ va_pl L f).length
      · rw [List.getElem?_append_left hl] at hx
        exact Nat.le_of_lt ((hP k9 x hx).lt)
      · rw [List.getElem?_append_right (by omega)] at hx
        have h0 : k9 - (X ++ va_pl L f).length < 1 := (List.getElem?_eq_some_iff.mp hx).1
        rw [show k9 - (X ++ va_pl L f).length = 0 by omega] at hx
        cases hx
        exact Nat.le_refl _
    have hr : ∀ (k9 : Nat) (x : Nat × va_E), (((List.range n.toNatClampNeg).map (fun i => H.size + 1 + i)).map (fun a => ((a, .inl (cy, z)) : Nat × va_E)))[k9]? = some x → x.1 = H.size + 1 + k9 := fun k9 x hx => by
      rw [List.getElem?_map, List.getElem?_map] at hx
      by_cases h9 : k9 < n.toNatClampNeg
      · rw [List.getElem?_range h9] at hx
        cases hx
        rfl
      · have hn0 : (List.range n.toNatClampNeg)[k9]? = none := List.getElem?_eq_none (by rw [List.length_range]; omega)
        rw [hn0] at hx
        cases hx
    refine ⟨fun i j x y hi hj hxy => ?_, fun k9 x hx => ?_⟩
    · by_cases h1 : i < W1.length <;> by_cases h2 : j < W1.length
      · rw [List.getElem?_append_left h1] at hi
        rw [List.getElem?_append_left h2] at hj
        exact hD1.1 i j x y hi hj hxy
      · rw [List.getElem?_append_left h1] at hi
        rw [List.getElem?_append_right (by omega)] at hj
        have := hle _ _ hi
        have := hr _ _ hj
        omega
      · rw [List.getElem?_append_right (by omega)] at hi
        rw [List.getElem?_append_left h2] at hj
        have := hle _ _ hj
        have := hr _ _ hi
        omega
      · rw [List.getElem?_append_right (by omega)] at hi hj
        have := hr _ _ hi
        have := hr _ _ hj
        omega
    · by_cases h1 : k9 < W1.length
      · rw [List.getElem?_append_left h1] at hx
        exact hD1.2 k9 x hx
      · rw [List.getElem?_append_right (by omega)] at hx
        have := hr _ _ hx
        exact hA _ (by have := hS.1; omega)
  have hAr : ArrOfT s cA (.array ty) := fun N9 z9 => by
    obtain ⟨-, k9, hk9, cm9, hkk9⟩ := (hO 0 0 0).1
    exact ⟨(fun q hq => by cases hq), k9, hk9, cm9, hkk9⟩
  have hK2 : va_K D cl (tys ++ [(cA, .array ty)]) s := ⟨hK.1, fun k9 x hx => by
    by_cases hl : k9 < tys.length
    · rw [List.getElem?_append_left hl] at hx
      exact hK.2 k9 x hx
    · rw [List.getElem?_append_right (by omega)] at hx
      have h0 : k9 - tys.length < 1 := (List.getElem?_eq_some_iff.mp hx).1
      rw [show k9 - tys.length = 0 by omega] at hx
      cases hx
      exact ⟨hAr, fA⟩⟩
  obtain ⟨t, a1, b1⟩ := kk H.size (fun i => H.size + 1 + i) cA F.heap (fun i j _ _ h => by have h9 : H.size + 1 + i = H.size + 1 + j := h; omega) hnl hK2 (by rw [← vr_rows hnm]; exact vr_lay hP2) (by rw [← vr_rows hnm]; exact vr_layD hD2) ⟨by rw [f1]; have := hS.1; omega, fun x h1 h2 => (hold x (Nat.lt_of_lt_of_le h1 hS.1)).trans (hS.2.1 x h1 h2), hS.2.2⟩ F rfl X'
  refine ⟨t, step t ?_, b1⟩
  have e : T.heap.size = H.size := by rw [hT]
  rw [e]
  exact a1
end VGM
/-! ===== END ===== -/

/-! ===== BEGIN exceptions that leave a method, and their catching by the caller (launches without stack traces) ===== -/
section VXA
/-! The laws vx_back, vx_callV, vx_callS, vx_callSW, vx_throw0, vx_throwS follow proofs of the library, with one case more: JvmDerived/Free/Laws.lean (Back.of_free), Shelf42/LK1.lean (callV, callS), Shelf/KitTraced.lean (throwNew0V, throwNewS). -/
/-- where a method has thrown q: the class by its name, the cell, what was written, the world -/
def vx_T (XC : String → State → State → Prop) (st : State) (q : Addr) (t : State) (mc ms : Nat) (free : Addr → Prop) : Prop :=
  ∃ (E : String) (ce : Cell) (L : List Loc), XC E st t ∧ t.heap[q]? = some ce ∧ ce.vm = .none ∧ st.vm.findClass E = some ce.cls ∧ st.WarmedH t.vm ∧ st.sameButNew ({ t with vm := st.vm } : State) L mc ms ∧ ∀ z ∈ L, free z.base
def vx_Q (Qc : Array Value → State → Outcome → State → Prop) (XC : String → State → State → Prop) (mc ms : Nat) (free : Addr → Prop) : Array Value → State → Outcome → State → Prop := fun a st o t =>
  (Qc a st o t ∧ ∃ L, FrameEnd st o t L mc ms ∧ ∀ q ∈ L, free q.base) ∨ ∃ q, o = .threw q ∧ vx_T XC st q t mc ms free
/-- a callee that returns or throws -/
def vx_Met (l : Launch) (y : MethodName) (ws : List Cond) (rm : Room) (Pc : Array Value → State → Prop) (Qc : Array Value → State → Outcome → State → Prop) (XC : String → State → State → Prop) (mc ms : Nat) (free : Addr → Prop) : Prop :=
  MetFree l y (headSpec ws rm) Pc (fun _ _ _ _ _ => True) (vx_Q Qc XC mc ms free)
def vx_Post (XC : String → State → State → Prop) (mc ms : Nat) (free : Addr → Prop) : Pt → Array Value → Addr → Pt → Prop := fun A a q B =>
  ∃ (g : JFrame) (mk : MethodId) (t : State) (L : List Loc) (E : String) (ce : Cell), B.U.heap = t.heap ∧ B.U.vm = t.vm ∧ XC E (A.U.calling g mk a) t ∧ t.heap[q]? = some ce ∧ ce.vm = .none ∧ A.U.vm.findClass E = some ce.cls ∧ B.locs = A.locs ++ L ∧ (∀ z ∈ L, free z.base) ∧ B.cells = A.cells + mc ∧ B.slots = A.slots + ms
def vx_Back (l : Launch) (R : Room) (p : Program) (e : Env) (below : List Frame) (s : State) (sargs : Array Value) (y : MethodName) (len W9 : Nat)
    (Pre : Pt → Array Value → Prop) (Post : Pt → Array Value → Option Value → Pt → Prop) (PostX : Pt → Array Value → Addr → Pt → Prop) : Prop :=
  ∀ (m : MethodId) (meth : Method) (c : Code) (A : Pt) (g : JFrame) (ig : Instr) (mk : MethodId) (a : Array Value),
    Stand p l e R s m sargs below meth c A.U A.locs A.cells A.slots → g.method = m → g.locals.size = c.maxLocals → decode c.code g.pc = .ok (ig, len) →
    2 * g.monitorRoom + (g.stack.map fun v => v.category).sum ≤ W9 → A.U.methodNamed? y = some mk → Pre A a →
    (∃ (v : Option Value) (B : Pt), Stand p l e R s m sargs below meth c B.U B.locs B.cells B.slots ∧ Post A a v B ∧
      Steps p.tables e below (doInvoke e (A.U.setTop g) [] mk a).1 (B.U.setTop { g with pc := g.pc + len, stack := v.toList ++ g.stack })) ∨
    (∃ (q : Addr) (B : Pt), Stand p l e R s m sargs below meth c B.U B.locs B.cells B.slots ∧ PostX A a q B ∧
      Steps p.tables e below (doInvoke e (A.U.setTop g) [] mk a).1 ((B.U.setTop g).pushFrame (.throwing q)))
section Payer
variable {l : Launch} {R : Room} {p : Program} {e : Env} {below : List Frame} {s : State} {sargs : Array Value} {y : MethodName} {len W9 : Nat}
theorem vx_back {ws : List Cond} {rm : Room} {Pc : Array Value → State → Prop} {Qc : Array Value → State → Outcome → State → Prop} {XC : String → State → State → Prop} {mc ms : Nat} {free : Addr → Prop} {bytes : ByteArray} {maxL : Nat} {ret : Option FieldType}
    (hM : vx_Met l y ws rm Pc Qc XC mc ms free) (hblind : FrameBlind Pc) (hrc : rm.cells = mc) (hrs : rm.slots = ms)
    (hframes : rm.frames + 1 ≤ R.frames) (hlocals : W9 + (maxL + 11) + rm.locals ≤ R.locals)
    (hws : ∀ w ∈ ws, ∀ a' U, s.WarmedH U.vm → w.before a' U = true) (hcode : Cond.code y bytes maxL ret ∈ ws) (hinit : ∀ a' U, s.WarmedH U.vm → (Cond.initialized y.cls).before a' U = true) :
    vx_Back l R p e below s sargs y len W9 (PreOf R mc ms Pc) (PostOf Qc mc ms free) (vx_Post XC mc ms free) := by
  intro m meth c A g ig mk a X hg hsize hdg hW hn hp
  have h1 : (headSpec ws rm).pre.before a A.U = true := atoms_intro fun w hw => hws w hw _ _ X.warmed
  have h2 : (Cond.code y bytes maxL ret).before a A.U = true := hws _ hcode _ _ X.warmed
  have h3 : (Cond.initialized y.cls).before a A.U = true := hinit _ _ X.warmed
  have h4 : A.cells + (headSpec ws rm).room.cells ≤ R.cells := by rw [show (headSpec ws rm).room.cells = mc from hrc]; exact hp.1
  have h5 : A.slots + (headSpec ws rm).room.slots ≤ R.slots := by rw [show (headSpec ws rm).room.slots = ms from hrs]; exact hp.2.1
  have hPc : Pc a (A.U.calling g mk a) := hblind _ _ _ _ hp.2.2
  obtain ⟨U, Ls, c0, s0⟩ := A
  dsimp only [Pt.U, Pt.locs, Pt.cells, Pt.slots] at h1 h2 h3 h4 h5 X hn hPc ⊢
  obtain ⟨methY, cY, hmY, hcY, -, hlY, -, -, -, -⟩ := Cond.code_spec hn h2
  obtain ⟨kY, hkY, -⟩ := className_of_methodNamed hn
  have hinitY : kY.init = .initialized := Cond.initialized_spec (findClass_of_methodNamed hn) hkY h3
  have h : At U g.method c below := by rw [hg]; exact X.here
  have hlocals9 : W9 + (maxL + 11) + (headSpec ws rm).room.locals ≤ R.locals := hlocals
  have happ : (headSpec ws rm).appliesLoose y e.platform (U.calling g mk a) = true :=
    Spec.appliesLoose_calling (g := g) h hdg hn hkY hinitY
      (X.room_calling (g := g) (R' := (headSpec ws rm).room) hsize hmY hcY hframes (by rw [hlY]; omega) h4 h5) h1
  obtain ⟨mid, hmid⟩ := h.above
  have hfr : (U.setTop g).frames = (.java g :: mid) ++ below := by rw [State.frames_setTop' g h.top, hmid]; rfl
  obtain ⟨o, s₂, hsteps, -, hend, hq⟩ := Steps.callFree hM p X.admits X.cas X.clock (acts := []) hfr happ hPc trivial
  have hq' : vx_Q Qc XC mc ms free a (U.calling g mk a) o s₂ := hq
  rw [State.frames_setTop' g h.top] at hend
  obtain ⟨g₀, hg0⟩ := Option.isSome_iff_exists.mp h.top
  obtain ⟨r, hr⟩ := State.topJava?_eq_some.mp hg0
  have hr' : (({ U with heap := s₂.heap, slotsUsed := s₂.slotsUsed } : State).setVm s₂.vm).frames = .java g₀ :: r := hr
  rcases hq' with ⟨hqc, L, hfe, hL⟩ | ⟨q, rfl, E, ce, L, hx, hce, hcv, hcl, hW₂, hsm, hL⟩
  · obtain ⟨⟨v, rfl⟩, hW₂, e2, q2, q3, q4, q5, q6⟩ := id hfe
    have e3 : s₂ = ({ (U.calling g mk a).setFrames s₂.frames with heap := s₂.heap, slotsUsed := s₂.slotsUsed } : State).setVm s₂.vm := by
      have : s₂ = ({ s₂ with vm := (U.calling g mk a).vm } : State).setVm s₂.vm := rfl
      rw [e2] at this
      exact this
    obtain ⟨c₂, i₂, len₂, hc₂, hd₂, hf₂⟩ := hend
    have hW' : U.WarmedH s₂.vm := hW₂
    have hcc : c₂ = c := by
      have h1 : s₂.code? g.method = U.code? g.method := by
        rw [State.code?_eq, State.code?_eq, hW'.alike.method?]
      exact Option.some.inj (hc₂.symm.trans (h1.trans h.code))
    subst hcc
    have hlen : len₂ = len := by rw [hdg] at hd₂; cases hd₂; rfl
    subst hlen
    have hs₂ : s₂ = (({ U with heap := s₂.heap, slotsUsed := s₂.slotsUsed } : State).setVm s₂.vm).setTop { g with pc := g.pc + len₂, stack := v.toList ++ g.stack } := by
      refine e3.trans ?_
      rw [hf₂, State.calling_eq h.top, State.setFrames_setFrames, State.setTop_of_frames _ hr', hr]
      rfl
    have hsame : U.sameButNew ({ U with heap := s₂.heap, slotsUsed := s₂.slotsUsed } : State) L mc ms := by
      refine ⟨?_, q2, q3, q4, q5, q6⟩
      obtain ⟨t, ht, -⟩ := State.frames_cons hr
      show ({ U with heap := s₂.heap, slotsUsed := s₂.slotsUsed } : State) = { U.setFrames U.frames with heap := s₂.heap, slotsUsed := s₂.slotsUsed }
      rw [State.setFrames_self ht]
    subst hg
    refine Or.inl ⟨v, ⟨(({ U with heap := s₂.heap, slotsUsed := s₂.slotsUsed } : State).setVm s₂.vm), Ls ++ L, c0 + mc, s0 + ms⟩,
      ⟨X.admits, X.cas, X.clock, X.frames, X.room, X.hears, X.method, X.code, (X.here.setHeapUsed s₂.heap s₂.slotsUsed).setVm hW'.alike, X.tail, State.WarmedH.trans X.warmed hW', X.limits, X.bytes, X.same.trans (hsame.setVm s.vm)⟩,
      ⟨g, mk, s₂, L, rfl, rfl, hqc, rfl, hL, rfl, rfl⟩, ?_⟩
    show Steps p.tables e below _ ((({ U with heap := s₂.heap, slotsUsed := s₂.slotsUsed } : State).setVm s₂.vm).setTop { g with pc := g.pc + len₂, stack := v.toList ++ g.stack })
    rw [← hs₂]
    exact hsteps
  · obtain ⟨e2, q2, q3, q4, q5, q6⟩ := id hsm
    have e3 : s₂ = ({ (U.calling g mk a).setFrames s₂.frames with heap := s₂.heap, slotsUsed := s₂.slotsUsed } : State).setVm s₂.vm := by
      have : s₂ = ({ s₂ with vm := (U.calling g mk a).vm } : State).setVm s₂.vm := rfl
      rw [e2] at this
      exact this
    have hf₂ : s₂.frames = .throwing q :: .java g :: U.frames.tail := hend
    have hW' : U.WarmedH s₂.vm := hW₂
    have hs₂ : s₂ = ((({ U with heap := s₂.heap, slotsUsed := s₂.slotsUsed } : State).setVm s₂.vm).setTop g).pushFrame (.throwing q) := by
      refine e3.trans ?_
      rw [hf₂, State.calling_eq h.top, State.setFrames_setFrames, State.pushFrame, State.frames_setTop _ hr', State.setTop_of_frames _ hr', State.setFrames_setFrames, hr]
      rfl
    have hsame : U.sameButNew ({ U with heap := s₂.heap, slotsUsed := s₂.slotsUsed } : State) L mc ms := by
      refine ⟨?_, q2, q3, q4, q5, q6⟩
      obtain ⟨t, ht, -⟩ := State.frames_cons hr
      show ({ U with heap := s₂.heap, slotsUsed := s₂.slotsUsed } : State) = { U.setFrames U.frames with heap := s₂.heap, slotsUsed := s₂.slotsUsed }
      rw [State.setFrames_self ht]
    subst hg
    refine Or.inr ⟨q, ⟨(({ U with heap := s₂.heap, slotsUsed := s₂.slotsUsed } : State).setVm s₂.vm), Ls ++ L, c0 + mc, s0 + ms⟩,
      ⟨X.admits, X.cas, X.clock, X.frames, X.room, X.hears, X.method, X.code, (X.here.setHeapUsed s₂.heap s₂.slotsUsed).setVm hW'.alike, X.tail, State.WarmedH.trans X.warmed hW', X.limits, X.bytes, X.same.trans (hsame.setVm s.vm)⟩,
      ⟨g, mk, s₂, L, E, ce, rfl, rfl, hx, hce, hcv, hcl, rfl, hL, rfl, rfl⟩, ?_⟩
    show Steps p.tables e below _ (((({ U with heap := s₂.heap, slotsUsed := s₂.slotsUsed } : State).setVm s₂.vm).setTop g).pushFrame (.throwing q))
    rw [← hs₂]
    exact hsteps
end Payer
section Calls
variable {p : Program} {l : Launch} {e : Env} {R : Room} {s : State} {m : MethodId} {args : Array Value} {below : List Frame} {meth : Method} {c : Code} {T : State} {locs : List Loc} {cells slots : Nat}
theorem vx_callV (X : Stand p l e R s m args below meth c T locs cells slots) (hexec : p.tables.exec = Jvm.exec) {own C : String} {index : Nat} {y : MethodName} {bytes : ByteArray} {maxL : Nat} {ret : Option FieldType}
    (hown : s.vm.findClass own = some m.cls) (hlink : (Cond.methodLink own index y).before args s = true) (hinst : (Cond.instanceMethod y).before args s = true) (hsel : (Cond.selects C y y).before args s = true)
    (hcode : (Cond.code y bytes maxL ret).before args s = true) (hy : y.cls ≠ "java/lang/invoke/MethodHandle" ∧ y.cls ≠ "java/lang/invoke/VarHandle")
    {W9 : Nat} {Pre : Pt → Array Value → Prop} {Post : Pt → Array Value → Option Value → Pt → Prop} {PostX : Pt → Array Value → Addr → Pt → Prop} (hK : vx_Back l R p e below s args y 3 W9 Pre Post PostX)
    {b : Addr} {cellB : Cell} (hcell : T.heap[b]? = some cellB) (hobj : cellB.vm.isStatics = false) (hcls : s.vm.findClass C = some cellB.cls)
    {g : JFrame} (hg : g.method = m) (hsize : g.locals.size = c.maxLocals) {argsL rest : List Value} (hlen : ∀ sig, parseMethodDescriptor y.desc = some sig → argsL.length = sig.parameters.length)
    (hstack : g.stack = argsL.reverse ++ .ref b :: rest) (hW : 2 * g.monitorRoom + (rest.map fun v => v.category).sum ≤ W9) (hdg : decode c.code g.pc = .ok (.invokevirtual index, 3))
    (hpre : ∀ vm₁, s.WarmedH vm₁ → Pre ⟨T.setVm vm₁, locs, cells, slots⟩ (Value.ref b :: argsL).toArray) :
    (∃ (v : Option Value) (vm₁ : Vm) (B : Pt), s.WarmedH vm₁ ∧ Stand p l e R s m args below meth c B.U B.locs B.cells B.slots ∧ Post ⟨T.setVm vm₁, locs, cells, slots⟩ (Value.ref b :: argsL).toArray v B ∧
      ∀ target, Steps p.tables e below (B.U.setTop { g with pc := g.pc + 3, stack := v.toList ++ rest }) target → Steps p.tables e below (T.setTop g) target) ∨
    (∃ (q : Addr) (vm₁ : Vm) (B : Pt), s.WarmedH vm₁ ∧ Stand p l e R s m args below meth c B.U B.locs B.cells B.slots ∧ PostX ⟨T.setVm vm₁, locs, cells, slots⟩ (Value.ref b :: argsL).toArray q B ∧
      Steps p.tables e below (T.setTop g) ((B.U.setTop { g with stack := rest }).pushFrame (.throwing q))) := by
  obtain ⟨mk, methM, hnamed, hmethM, hstM, habM⟩ := Cond.instanceMethod_spec hinst
  obtain ⟨methM', cM, hmethM', -, -, -, -, -, -, hsigM⟩ := Cond.code_spec hnamed hcode
  cases hmethM.symm.trans hmethM'
  obtain ⟨c2, r2, m2, q1, q2, q3, q4, kP, hkP, hkPi⟩ := Cond.selects_spec hsel
  cases hcls.symm.trans q1
  cases (State.methodFound?_of_named hnamed hy).symm.trans q2
  cases hnamed.symm.trans q3
  have hselP : selectMethod e.platform s.vm cellB.cls mk = .method mk := by rw [Launch.admits_selectMethod X.admits]; exact q4
  obtain ⟨vm₁, X₁, hstep₁⟩ := X.invokevirtual hexec hown hlink hnamed hmethM hstM hkP hkPi hy (a := b) (cell := cellB) hcell
    (fun z h => by rw [h] at hobj; cases hobj) hselP hmethM habM hkP hkPi (g := g) hg (argsL := argsL) (rest := rest) (hlen _ hsigM) hstack hdg
  rcases hK m meth c ⟨T.setVm vm₁, locs, cells, slots⟩ { g with stack := rest } (.invokevirtual index) mk (Value.ref b :: argsL).toArray X₁ hg hsize hdg hW (X₁.named hnamed) (hpre vm₁ X₁.warmed) with ⟨v, B, X', hpost, hsteps⟩ | ⟨q, B, X', hpost, hsteps⟩
  · exact Or.inl ⟨v, vm₁, B, X₁.warmed, X', hpost, fun target h => hstep₁ _ fun acts => by rw [doInvoke_state]; exact hsteps.trans h⟩
  · exact Or.inr ⟨q, vm₁, B, X₁.warmed, X', hpost, hstep₁ _ fun acts => by rw [doInvoke_state]; exact hsteps⟩
theorem vx_callS (X : Stand p l e R s m args below meth c T locs cells slots) (hexec : p.tables.exec = Jvm.exec) {own : String} {index : Nat} {y : MethodName} {bytes : ByteArray} {maxL : Nat} {ret : Option FieldType}
    (hown : s.vm.findClass own = some m.cls) (hlink : (Cond.methodLink own index y).before args s = true) (hstat : (Cond.static y).before args s = true) (hinit : (Cond.initialized y.cls).before args s = true)
    (hcode : (Cond.code y bytes maxL ret).before args s = true) (hy : y.cls ≠ "java/lang/invoke/MethodHandle" ∧ y.cls ≠ "java/lang/invoke/VarHandle")
    {W9 : Nat} {Pre : Pt → Array Value → Prop} {Post : Pt → Array Value → Option Value → Pt → Prop} {PostX : Pt → Array Value → Addr → Pt → Prop} (hK : vx_Back l R p e below s args y 3 W9 Pre Post PostX)
    {g : JFrame} (hg : g.method = m) (hsize : g.locals.size = c.maxLocals) {argsL rest : List Value} (hlen : ∀ sig, parseMethodDescriptor y.desc = some sig → argsL.length = sig.parameters.length)
    (hstack : g.stack = argsL.reverse ++ rest) (hW : 2 * g.monitorRoom + (rest.map fun v => v.category).sum ≤ W9) (hdg : decode c.code g.pc = .ok (.invokestatic index, 3))
    (hpre : ∀ vm₁, s.WarmedH vm₁ → Pre ⟨T.setVm vm₁, locs, cells, slots⟩ argsL.toArray) :
    (∃ (v : Option Value) (vm₁ : Vm) (B : Pt), s.WarmedH vm₁ ∧ Stand p l e R s m args below meth c B.U B.locs B.cells B.slots ∧ Post ⟨T.setVm vm₁, locs, cells, slots⟩ argsL.toArray v B ∧
      ∀ target, Steps p.tables e below (B.U.setTop { g with pc := g.pc + 3, stack := v.toList ++ rest }) target → Steps p.tables e below (T.setTop g) target) ∨
    (∃ (q : Addr) (vm₁ : Vm) (B : Pt), s.WarmedH vm₁ ∧ Stand p l e R s m args below meth c B.U B.locs B.cells B.slots ∧ PostX ⟨T.setVm vm₁, locs, cells, slots⟩ argsL.toArray q B ∧
      Steps p.tables e below (T.setTop g) ((B.U.setTop { g with stack := rest }).pushFrame (.throwing q))) := by
  obtain ⟨mk, hnamed⟩ := Cond.code_named hcode
  obtain ⟨methM, cM, hmethM, -, -, -, -, -, -, hsigM⟩ := Cond.code_spec hnamed hcode
  have hstatic : methM.isStatic = true := Cond.static_spec hnamed hmethM hstat
  obtain ⟨kP, hkP, -⟩ := className_of_methodNamed hnamed
  have hinitP : kP.init = .initialized := Cond.initialized_spec (findClass_of_methodNamed hnamed) hkP hinit
  obtain ⟨vm₁, X₁, hstep₁⟩ := X.invokestatic hexec hown hlink hnamed hmethM hstatic hkP hinitP hy (g := g) hg (argsL := argsL) (rest := rest) (hlen _ hsigM) hstack hdg
  rcases hK m meth c ⟨T.setVm vm₁, locs, cells, slots⟩ { g with stack := rest } (.invokestatic index) mk argsL.toArray X₁ hg hsize hdg hW (X₁.named hnamed) (hpre vm₁ X₁.warmed) with ⟨v, B, X', hpost, hsteps⟩ | ⟨q, B, X', hpost, hsteps⟩
  · exact Or.inl ⟨v, vm₁, B, X₁.warmed, X', hpost, fun target h => hstep₁ _ fun acts => by rw [doInvoke_state]; exact hsteps.trans h⟩
  · exact Or.inr ⟨q, vm₁, B, X₁.warmed, X', hpost, hstep₁ _ fun acts => by rw [doInvoke_state]; exact hsteps⟩
end Calls
theorem vx_cls {s : State} {T : State} {vm₁ : Vm} {E : String} {k : ClassId} (hW : s.WarmedH vm₁) (h : (T.setVm vm₁).vm.findClass E = some k) : s.vm.findClass E = some k := by
  have h1 : vm₁.findClass E = some k := h
  rw [hW.alike.findClass] at h1
  exact h1
/-- the method's frame g, with q thrown over it -/
def vx_W (p : Program) (l : Launch) (e : Env) (R : Room) (s : State) (m : MethodId) (args : Array Value) (below : List Frame) (meth : Method) (c : Code) (H : Heap) (locs : List Loc) (cells slots : Nat) (Q : State → Prop) (g : JFrame) (q : Addr) : Prop :=
  ∀ T : State, T.heap = H → Stand p l e R s m args below meth c T locs cells slots → ∃ t, Steps p.tables e below ((T.setTop g).pushFrame (.throwing q)) t ∧ Q t
def vx_Run (p : Program) (l : Launch) (e : Env) (R : Room) (s : State) (m : MethodId) (args : Array Value) (below : List Frame) (meth : Method) (c : Code) (H : Heap) (locs : List Loc) (cells slots mc ms : Nat) (g : JFrame) (rest : List Value) (Qa : State → Outcome → State → Prop) (XC : String → State → State → Prop) (free : Addr → Prop) : Prop :=
  ∀ T : State, T.heap = H → Stand p l e R s m args below meth c T locs cells slots →
    (∃ (v : Option Value) (st₀ t T' : State) (L : List Loc), st₀.heap = H ∧ Stand p l e R s m args below meth c T' (locs ++ L) (cells + mc) (slots + ms) ∧ (∀ q ∈ L, free q.base) ∧ T'.heap = t.heap ∧ T'.vm = t.vm ∧ Qa st₀ (.returned v) t ∧
      Goes p e below T g T' { g with pc := g.pc + 3, stack := v.toList ++ rest }) ∨
    (∃ (q : Addr) (st₀ t T' : State) (L : List Loc) (E : String) (ce : Cell), st₀.heap = H ∧ Stand p l e R s m args below meth c T' (locs ++ L) (cells + mc) (slots + ms) ∧ (∀ z ∈ L, free z.base) ∧ T'.heap = t.heap ∧ T'.vm = t.vm ∧ XC E st₀ t ∧ t.heap[q]? = some ce ∧ ce.vm = .none ∧ s.vm.findClass E = some ce.cls ∧
      Steps p.tables e below (T.setTop g) ((T'.setTop { g with stack := rest }).pushFrame (.throwing q)))
def vx_X {S : Type} (px : S → Prop) (B : String → S → State → Prop) (A : Nat → Prop) : String → State → State → Prop := fun E st t => ∃ u : S, px u ∧ B E u t ∧ va_F A st t
section Runs
variable {p : Program} {l : Launch} {e : Env} {R : Room} {s : State} {m : MethodId} {args : Array Value} {below : List Frame} {meth : Method} {c : Code} {H : Heap} {locs : List Loc} {cells slots : Nat}
variable {y : MethodName} {bytes cc : ByteArray} {maxL nL mc ms n index : Nat} {ret : Option FieldType} {ws : List Cond} {rm : Room} {Pc : Array Value → State → Prop} {Qc : Array Value → State → Outcome → State → Prop} {XC : String → State → State → Prop} {free : Addr → Prop} {Ts : List Cond} {own C : String} {b : Addr} {As rest : List Value} {g : JFrame}
theorem vx_callBack (cb : CallB R s args own index y bytes maxL ret ws rm mc ms n) (hM : vx_Met l y ws rm Pc Qc XC mc ms free) (hbl : FrameBlind Pc) : vx_Back l R p e below s args y 3 8 (PreOf R mc ms Pc) (PostOf Qc mc ms free) (vx_Post XC mc ms free) := by
  obtain ⟨hrc, hrs, hfr, hlo, hws, hcw, -, hini, -⟩ := cb
  exact vx_back (bytes := bytes) (maxL := maxL) (ret := ret) hM hbl hrc hrs hfr hlo hws hcw (fun a' U hW => word_at hW (Or.inl (by first | rfl | simp [Cond.onTables, Cond.keeps, Cond.steady])) hini)
theorem vx_runV (S : CallFix p m c cc nL s args Ts own) (hM : vx_Met l y ws rm Pc Qc XC mc ms free) (cw : CallW R s args own C index y bytes maxL ret ws rm mc ms n) (hp : PreV s H C b Pc As)
    (hg : g.method = m) (hn : As.length = n) (hsize : g.locals.size = nL) (hstack : g.stack = As.reverse ++ .ref b :: rest) (hW : 2 * g.monitorRoom + (rest.map fun v => v.category).sum ≤ 8) (hdg : decode cc g.pc = .ok (.invokevirtual index, 3)) (hf : cells + mc ≤ R.cells ∧ slots + ms ≤ R.slots) :
    vx_Run p l e R s m args below meth c H locs cells slots mc ms g rest (Qc (Value.ref b :: As).toArray) XC free := by
  have hK : vx_Back l R p e below s args y 3 8 (PreOf R mc ms Pc) (PostOf Qc mc ms free) (vx_Post XC mc ms free) := vx_callBack cw.1 hM hp.1
  obtain ⟨⟨-, -, -, -, -, -, hcode, -, hy, hlen, hl⟩, hin, hse⟩ := cw
  obtain ⟨hx, hb, hml, ho, -⟩ := S
  obtain ⟨-, ⟨cellB, hcB, hoB, hclB⟩, hPc⟩ := hp
  intro T hT X
  rcases vx_callV X hx (C := C) (bytes := bytes) (maxL := maxL) (ret := ret) ho hl hin hse hcode hy hK (by rw [hT]; exact hcB) hoB hclB hg (hsize.trans hml.symm) (argsL := As) (rest := rest) (fun sig h => hn.trans (hlen sig h)) hstack hW (by rw [hb]; exact hdg)
    (fun vm₁ hW₁ => ⟨hf.1, hf.2, hPc (T.setVm vm₁) hT hW₁⟩) with ⟨v, vm₁, ⟨U', l2, c2, s2⟩, hW₁, X', ⟨g', mk, t, L, e1, e2, hq, h1, hL, h2, h3⟩, st⟩ | ⟨q, vm₁, ⟨U', l2, c2, s2⟩, hW₁, X', ⟨g', mk, t, L, E, ce, e1, e2, hq, hce, hcv, hcl, h1, hL, h2, h3⟩, st⟩
  · dsimp only [Pt.U, Pt.locs, Pt.cells, Pt.slots] at X' e1 e2 h1 h2 h3 st
    subst h1; subst h2; subst h3
    exact Or.inl ⟨v, (T.setVm vm₁).calling g' mk (Value.ref b :: As).toArray, t, U', L, hT, X', hL, e1, e2, hq, st⟩
  · dsimp only [Pt.U, Pt.locs, Pt.cells, Pt.slots] at X' e1 e2 h1 h2 h3 st hcl
    subst h1; subst h2; subst h3
    exact Or.inr ⟨q, (T.setVm vm₁).calling g' mk (Value.ref b :: As).toArray, t, U', L, E, ce, hT, X', hL, e1, e2, hq, hce, hcv, vx_cls hW₁ hcl, st⟩
theorem vx_runS (S : CallFix p m c cc nL s args Ts own) (hM : vx_Met l y ws rm Pc Qc XC mc ms free) (cw : CallB R s args own index y bytes maxL ret ws rm mc ms n ∧ (Cond.static y).before args s = true) (hp : PreS s H Pc As)
    (hg : g.method = m) (hn : As.length = n) (hsize : g.locals.size = nL) (hstack : g.stack = As.reverse ++ rest) (hW : 2 * g.monitorRoom + (rest.map fun v => v.category).sum ≤ 8) (hdg : decode cc g.pc = .ok (.invokestatic index, 3)) (hf : cells + mc ≤ R.cells ∧ slots + ms ≤ R.slots) :
    vx_Run p l e R s m args below meth c H locs cells slots mc ms g rest (Qc As.toArray) XC free := by
  have hK : vx_Back l R p e below s args y 3 8 (PreOf R mc ms Pc) (PostOf Qc mc ms free) (vx_Post XC mc ms free) := vx_callBack cw.1 hM hp.1
  obtain ⟨⟨-, -, -, -, -, -, hcode, hini, hy, hlen, hl⟩, hstt⟩ := cw
  obtain ⟨hx, hb, hml, ho, -⟩ := S
  intro T hT X
  rcases vx_callS X hx (bytes := bytes) (maxL := maxL) (ret := ret) ho hl hstt hini hcode hy hK hg (hsize.trans hml.symm) (argsL := As) (rest := rest) (fun sig h => hn.trans (hlen sig h)) hstack hW (by rw [hb]; exact hdg)
    (fun vm₁ hW₁ => ⟨hf.1, hf.2, hp.2 (T.setVm vm₁) hT hW₁⟩) with ⟨v, vm₁, ⟨U', l2, c2, s2⟩, hW₁, X', ⟨g', mk, t, L, e1, e2, hq, h1, hL, h2, h3⟩, st⟩ | ⟨q, vm₁, ⟨U', l2, c2, s2⟩, hW₁, X', ⟨g', mk, t, L, E, ce, e1, e2, hq, hce, hcv, hcl, h1, hL, h2, h3⟩, st⟩
  · dsimp only [Pt.U, Pt.locs, Pt.cells, Pt.slots] at X' e1 e2 h1 h2 h3 st
    subst h1; subst h2; subst h3
    exact Or.inl ⟨v, (T.setVm vm₁).calling g' mk As.toArray, t, U', L, hT, X', hL, e1, e2, hq, st⟩
  · dsimp only [Pt.U, Pt.locs, Pt.cells, Pt.slots] at X' e1 e2 h1 h2 h3 st hcl
    subst h1; subst h2; subst h3
    exact Or.inr ⟨q, (T.setVm vm₁).calling g' mk As.toArray, t, U', L, E, ce, hT, X', hL, e1, e2, hq, hce, hcv, vx_cls hW₁ hcl, st⟩
end Runs
section Rows
variable {p : Program} {l : Launch} {e : Env} {R : Room} {s : State} {m : MethodId} {args : Array Value} {below : List Frame} {meth : Method} {c : Code} {H : Heap} {locs : List Loc} {cells slots : Nat} {Q : State → Prop}
variable {mc ms : Nat} {free : Addr → Prop} {A0 A1 : Nat → Prop} {H0 : Heap} {a : Array Value} {pc : Nat} {ls : Array Slot} {st0 rest : List Value}
theorem vx_keep {st₀ t T' : State} {L : List Loc} (h0 : st₀.heap = H) (e1 : T'.heap = t.heap) (hS : va_S A0 H0 H locs) (hA : ∀ q, q < H.size → A1 q → A0 q) (hf : ∀ q, free q → A0 q) (hL : ∀ q ∈ L, free q.base) (hF : va_F A1 st₀ t) :
    H.size ≤ T'.heap.size ∧ (∀ q : Nat, q < H.size → ¬ A1 q → T'.heap[q]? = H[q]?) ∧ va_S A0 H0 T'.heap (locs ++ L) := by
  obtain ⟨hz, hk⟩ := hF
  rw [h0] at hz hk
  exact ⟨by rw [e1]; exact hz, fun q h1 h2 => by rw [e1]; exact hk q h1 h2,
    ⟨Nat.le_trans hS.1 (by rw [e1]; exact hz), fun q h1 h2 => by rw [e1, hk q (Nat.lt_of_lt_of_le h1 hS.1) (fun z => h2 (hA q (Nat.lt_of_lt_of_le h1 hS.1) z))]; exact hS.2.1 q h1 h2, fun q hq => by
      rcases List.mem_append.mp hq with h | h
      · exact hS.2.2 q h
      · exact hf _ (hL q h)⟩⟩
theorem vx_calli {S SX : Type} {post : Int32 → S → Prop} {px : SX → Prop} {B : S → State → Prop} {BX : String → SX → State → Prop} {AX : Nat → Prop} (hr : vx_Run p l e R s m args below meth c H locs cells slots mc ms (F0 m pc ls st0) rest (va_Qi post B A1 a) (vx_X px BX AX) free) (hS : va_S A0 H0 H locs) (hA : ∀ q, q < H.size → A1 q → A0 q) (hf : ∀ q, free q → A0 q) (hAX : ∀ q, q < H.size → AX q → A0 q)
    (kx : ∀ (E : String) (ce : Cell) (q9 : Addr) (u : SX) (t : State) (H1 : Heap) (locs1 : List Loc), t.heap = H1 → s.vm.Alike t.vm → px u → BX E u t → H.size ≤ H1.size → (∀ q : Nat, q < H.size → ¬ AX q → H1[q]? = H[q]?) → va_S A0 H0 H1 locs1 → H1[q9]? = some ce → ce.vm = .none → s.vm.findClass E = some ce.cls → vx_W p l e R s m args below meth c H1 locs1 (cells + mc) (slots + ms) Q (F0 m pc ls rest) q9)
    (kk : ∀ (r : Int32) (u : S) (t : State) (H1 : Heap) (locs1 : List Loc), t.heap = H1 → s.vm.Alike t.vm → post r u → B u t → H.size ≤ H1.size → (∀ q : Nat, q < H.size → ¬ A1 q → H1[q]? = H[q]?) → va_S A0 H0 H1 locs1 → W p l e R s m args below meth c H1 locs1 (cells + mc) (slots + ms) Q (F0 m (pc + 3) ls (.int r :: rest))) : W p l e R s m args below meth c H locs cells slots Q (F0 m pc ls st0) := by
  intro T hT X
  rcases hr T hT X with ⟨v, st₀, t, T', L, h0, X', hL, e1, e2, ⟨⟨r, u, hv, hp, hb⟩, hF⟩, st⟩ | ⟨q, st₀, t, T', L, E, ce, h0, X', hL, e1, e2, ⟨u, hp, hb, hF⟩, hce, hcv, hcl, st⟩
  · cases hv
    obtain ⟨k1, k2, k3⟩ := vx_keep h0 e1 hS hA hf hL hF
    obtain ⟨t2, a1, b1⟩ := kk r u t T'.heap (locs ++ L) e1.symm (by rw [← e2]; exact X'.warmed.alike) hp hb k1 k2 k3 T' rfl X'
    exact ⟨t2, st t2 a1, b1⟩
  · obtain ⟨k1, k2, k3⟩ := vx_keep h0 e1 hS hAX hf hL hF
    obtain ⟨t2, a1, b1⟩ := kx E ce q u t T'.heap (locs ++ L) e1.symm (by rw [← e2]; exact X'.warmed.alike) hp hb k1 k2 k3 (by rw [e1]; exact hce) hcv hcl T' rfl X'
    exact ⟨t2, st.trans a1, b1⟩
theorem vx_calll {S SX : Type} {post : Int64 → S → Prop} {px : SX → Prop} {B : S → State → Prop} {BX : String → SX → State → Prop} {AX : Nat → Prop} (hr : vx_Run p l e R s m args below meth c H locs cells slots mc ms (F0 m pc ls st0) rest (va_Ql post B A1 a) (vx_X px BX AX) free) (hS : va_S A0 H0 H locs) (hA : ∀ q, q < H.size → A1 q → A0 q) (hf : ∀ q, free q → A0 q) (hAX : ∀ q, q < H.size → AX q → A0 q)
    (kx : ∀ (E : String) (ce : Cell) (q9 : Addr) (u : SX) (t : State) (H1 : Heap) (locs1 : List Loc), t.heap = H1 → s.vm.Alike t.vm → px u → BX E u t → H.size ≤ H1.size → (∀ q : Nat, q < H.size → ¬ AX q → H1[q]? = H[q]?) → va_S A0 H0 H1 locs1 → H1[q9]? = some ce → ce.vm = .none → s.vm.findClass E = some ce.cls → vx_W p l e R s m args below meth c H1 locs1 (cells + mc) (slots + ms) Q (F0 m pc ls rest) q9)
    (kk : ∀ (r : Int64) (u : S) (t : State) (H1 : Heap) (locs1 : List Loc), t.heap = H1 → s.vm.Alike t.vm → post r u → B u t → H.size ≤ H1.size → (∀ q : Nat, q < H.size → ¬ A1 q → H1[q]? = H[q]?) → va_S A0 H0 H1 locs1 → W p l e R s m args below meth c H1 locs1 (cells + mc) (slots + ms) Q (F0 m (pc + 3) ls (.long r :: rest))) : W p l e R s m args below meth c H locs cells slots Q (F0 m pc ls st0) := by
  intro T hT X
  rcases hr T hT X with ⟨v, st₀, t, T', L, h0, X', hL, e1, e2, ⟨⟨r, u, hv, hp, hb⟩, hF⟩, st⟩ | ⟨q, st₀, t, T', L, E, ce, h0, X', hL, e1, e2, ⟨u, hp, hb, hF⟩, hce, hcv, hcl, st⟩
  · cases hv
    obtain ⟨k1, k2, k3⟩ := vx_keep h0 e1 hS hA hf hL hF
    obtain ⟨t2, a1, b1⟩ := kk r u t T'.heap (locs ++ L) e1.symm (by rw [← e2]; exact X'.warmed.alike) hp hb k1 k2 k3 T' rfl X'
    exact ⟨t2, st t2 a1, b1⟩
  · obtain ⟨k1, k2, k3⟩ := vx_keep h0 e1 hS hAX hf hL hF
    obtain ⟨t2, a1, b1⟩ := kx E ce q u t T'.heap (locs ++ L) e1.symm (by rw [← e2]; exact X'.warmed.alike) hp hb k1 k2 k3 (by rw [e1]; exact hce) hcv hcl T' rfl X'
    exact ⟨t2, st.trans a1, b1⟩
theorem vx_callf {S SX : Type} {post : UInt32 → S → Prop} {px : SX → Prop} {B : S → State → Prop} {BX : String → SX → State → Prop} {AX : Nat → Prop} (hr : vx_Run p l e R s m args below meth c H locs cells slots mc ms (F0 m pc ls st0) rest (va_Qf post B A1 a) (vx_X px BX AX) free) (hS : va_S A0 H0 H locs) (hA : ∀ q, q < H.size → A1 q → A0 q) (hf : ∀ q, free q → A0 q) (hAX : ∀ q, q < H.size → AX q → A0 q)
    (kx : ∀ (E : String) (ce : Cell) (q9 : Addr) (u : SX) (t : State) (H1 : Heap) (locs1 : List Loc), t.heap = H1 → s.vm.Alike t.vm → px u → BX E u t → H.size ≤ H1.size → (∀ q : Nat, q < H.size → ¬ AX q → H1[q]? = H[q]?) → va_S A0 H0 H1 locs1 → H1[q9]? = some ce → ce.vm = .none → s.vm.findClass E = some ce.cls → vx_W p l e R s m args below meth c H1 locs1 (cells + mc) (slots + ms) Q (F0 m pc ls rest) q9)
    (kk : ∀ (r : UInt32) (u : S) (t : State) (H1 : Heap) (locs1 : List Loc), t.heap = H1 → s.vm.Alike t.vm → post r u → B u t → H.size ≤ H1.size → (∀ q : Nat, q < H.size → ¬ A1 q → H1[q]? = H[q]?) → va_S A0 H0 H1 locs1 → W p l e R s m args below meth c H1 locs1 (cells + mc) (slots + ms) Q (F0 m (pc + 3) ls (.float r :: rest))) : W p l e R s m args below meth c H locs cells slots Q (F0 m pc ls st0) := by
  intro T hT X
  rcases hr T hT X with ⟨v, st₀, t, T', L, h0, X', hL, e1, e2, ⟨⟨r, u, hv, hp, hb⟩, hF⟩, st⟩ | ⟨q, st₀, t, T', L, E, ce, h0, X', hL, e1, e2, ⟨u, hp, hb, hF⟩, hce, hcv, hcl, st⟩
  · cases hv
    obtain ⟨k1, k2, k3⟩ := vx_keep h0 e1 hS hA hf hL hF
    obtain ⟨t2, a1, b1⟩ := kk r u t T'.heap (locs ++ L) e1.symm (by rw [← e2]; exact X'.warmed.alike) hp hb k1 k2 k3 T' rfl X'
    exact ⟨t2, st t2 a1, b1⟩
  · obtain ⟨k1, k2, k3⟩ := vx_keep h0 e1 hS hAX hf hL hF
    obtain ⟨t2, a1, b1⟩ := kx E ce q u t T'.heap (locs ++ L) e1.symm (by rw [← e2]; exact X'.warmed.alike) hp hb k1 k2 k3 (by rw [e1]; exact hce) hcv hcl T' rfl X'
    exact ⟨t2, st.trans a1, b1⟩
theorem vx_calld {S SX : Type} {post : UInt64 → S → Prop} {px : SX → Prop} {B : S → State → Prop} {BX : String → SX → State → Prop} {AX : Nat → Prop} (hr : vx_Run p l e R s m args below meth c H locs cells slots mc ms (F0 m pc ls st0) rest (va_Qd post B A1 a) (vx_X px BX AX) free) (hS : va_S A0 H0 H locs) (hA : ∀ q, q < H.size → A1 q → A0 q) (hf : ∀ q, free q → A0 q) (hAX : ∀ q, q < H.size → AX q → A0 q)
    (kx : ∀ (E : String) (ce : Cell) (q9 : Addr) (u : SX) (t : State) (H1 : Heap) (locs1 : List Loc), t.heap = H1 → s.vm.Alike t.vm → px u → BX E u t → H.size ≤ H1.size → (∀ q : Nat, q < H.size → ¬ AX q → H1[q]? = H[q]?) → va_S A0 H0 H1 locs1 → H1[q9]? = some ce → ce.vm = .none → s.vm.findClass E = some ce.cls → vx_W p l e R s m args below meth c H1 locs1 (cells + mc) (slots + ms) Q (F0 m pc ls rest) q9)
    (kk : ∀ (r : UInt64) (u : S) (t : State) (H1 : Heap) (locs1 : List Loc), t.heap = H1 → s.vm.Alike t.vm → post r u → B u t → H.size ≤ H1.size → (∀ q : Nat, q < H.size → ¬ A1 q → H1[q]? = H[q]?) → va_S A0 H0 H1 locs1 → W p l e R s m args below meth c H1 locs1 (cells + mc) (slots + ms) Q (F0 m (pc + 3) ls (.double r :: rest))) : W p l e R s m args below meth c H locs cells slots Q (F0 m pc ls st0) := by
  intro T hT X
  rcases hr T hT X with ⟨v, st₀, t, T', L, h0, X', hL, e1, e2, ⟨⟨r, u, hv, hp, hb⟩, hF⟩, st⟩ | ⟨q, st₀, t, T', L, E, ce, h0, X', hL, e1, e2, ⟨u, hp, hb, hF⟩, hce, hcv, hcl, st⟩
  · cases hv
    obtain ⟨k1, k2, k3⟩ := vx_keep h0 e1 hS hA hf hL hF
    obtain ⟨t2, a1, b1⟩ := kk r u t T'.heap (locs ++ L) e1.symm (by rw [← e2]; exact X'.warmed.alike) hp hb k1 k2 k3 T' rfl X'
    exact ⟨t2, st t2 a1, b1⟩
  · obtain ⟨k1, k2, k3⟩ := vx_keep h0 e1 hS hAX hf hL hF
    obtain ⟨t2, a1, b1⟩ := kx E ce q u t T'.heap (locs ++ L) e1.symm (by rw [← e2]; exact X'.warmed.alike) hp hb k1 k2 k3 (by rw [e1]; exact hce) hcv hcl T' rfl X'
    exact ⟨t2, st.trans a1, b1⟩
theorem vx_callv {S SX : Type} {post : S → Prop} {px : SX → Prop} {B : S → State → Prop} {BX : String → SX → State → Prop} {AX : Nat → Prop} (hr : vx_Run p l e R s m args below meth c H locs cells slots mc ms (F0 m pc ls st0) rest (va_Qv post B A1 a) (vx_X px BX AX) free) (hS : va_S A0 H0 H locs) (hA : ∀ q, q < H.size → A1 q → A0 q) (hf : ∀ q, free q → A0 q) (hAX : ∀ q, q < H.size → AX q → A0 q)
    (kx : ∀ (E : String) (ce : Cell) (q9 : Addr) (u : SX) (t : State) (H1 : Heap) (locs1 : List Loc), t.heap = H1 → s.vm.Alike t.vm → px u → BX E u t → H.size ≤ H1.size → (∀ q : Nat, q < H.size → ¬ AX q → H1[q]? = H[q]?) → va_S A0 H0 H1 locs1 → H1[q9]? = some ce → ce.vm = .none → s.vm.findClass E = some ce.cls → vx_W p l e R s m args below meth c H1 locs1 (cells + mc) (slots + ms) Q (F0 m pc ls rest) q9)
    (kk : ∀ (u : S) (t : State) (H1 : Heap) (locs1 : List Loc), t.heap = H1 → s.vm.Alike t.vm → post u → B u t → H.size ≤ H1.size → (∀ q : Nat, q < H.size → ¬ A1 q → H1[q]? = H[q]?) → va_S A0 H0 H1 locs1 → W p l e R s m args below meth c H1 locs1 (cells + mc) (slots + ms) Q (F0 m (pc + 3) ls (rest))) : W p l e R s m args below meth c H locs cells slots Q (F0 m pc ls st0) := by
  intro T hT X
  rcases hr T hT X with ⟨v, st₀, t, T', L, h0, X', hL, e1, e2, ⟨⟨u, hv, hp, hb⟩, hF⟩, st⟩ | ⟨q, st₀, t, T', L, E, ce, h0, X', hL, e1, e2, ⟨u, hp, hb, hF⟩, hce, hcv, hcl, st⟩
  · cases hv
    obtain ⟨k1, k2, k3⟩ := vx_keep h0 e1 hS hA hf hL hF
    obtain ⟨t2, a1, b1⟩ := kk u t T'.heap (locs ++ L) e1.symm (by rw [← e2]; exact X'.warmed.alike) hp hb k1 k2 k3 T' rfl X'
    exact ⟨t2, st t2 a1, b1⟩
  · obtain ⟨k1, k2, k3⟩ := vx_keep h0 e1 hS hAX hf hL hF
    obtain ⟨t2, a1, b1⟩ := kx E ce q u t T'.heap (locs ++ L) e1.symm (by rw [← e2]; exact X'.warmed.alike) hp hb k1 k2 k3 (by rw [e1]; exact hce) hcv hcl T' rfl X'
    exact ⟨t2, st.trans a1, b1⟩
/-- caught by the row x of this method's table; the rows ahead don't take it -/
theorem vx_catch {own name : String} {E : String} {ce : Cell} {q : Addr} (hown : s.vm.findClass own = some m.cls) (pre : List ExceptionTableEntry) (x : ExceptionTableEntry) (suf : List ExceptionTableEntry) (hsplit : c.exceptionTable.toList = pre ++ x :: suf)
    (hpass : ∀ z ∈ pre, covers z pc = false ∨ (z.catchType ≠ 0 ∧ ∃ nm : String, (Cond.classLink own z.catchType nm).before args s = true ∧ va_Nc E nm s)) (hx : covers x pc = true) (h0 : x.catchType ≠ 0)
    (hlink : (Cond.classLink own x.catchType name).before args s = true) (hcast : (Cond.castable E name).before args s = true) (hcell : H[q]? = some ce) (hv : ce.vm = .none) (hcl : s.vm.findClass E = some ce.cls)
    (kk : W p l e R s m args below meth c H locs cells slots Q (F0 m x.handlerPc ls [.ref q])) : vx_W p l e R s m args below meth c H locs cells slots Q (F0 m pc ls rest) q := by
  intro T hT X
  have hpl : e.platform.magicAccessors = ({} : Platform).magicAccessors := by rw [X.admits.platform]
  obtain ⟨c3, c4, hc3, hc4, hasg⟩ := Cond.castable_spec hcast
  cases Option.some.inj (hc3.symm.trans hcl)
  obtain ⟨c5, hc5, hcl5⟩ := Cond.classLink_spec hown hlink e.platform hpl
  cases Option.some.inj (hc4.symm.trans hc5)
  obtain ⟨vm', X', st⟩ := X.thenCaughtThrough q (g := F0 m pc ls rest) rfl (Steps.refl _) (by rw [hT]; exact hcell) (by rw [hv]; rfl) (by obtain ⟨k9, h9, -⟩ := Vm.findClass_spec hcl; exact ⟨k9, h9⟩) pre x suf hsplit
    (fun z hz => by
      rcases hpass z hz with h | ⟨hz0, nm, hl1, hn1⟩
      · exact Or.inl h
      · obtain ⟨c6, hc6, hcl6⟩ := Cond.classLink_spec hown hl1 e.platform hpl
        obtain ⟨a8, b8, h1, h2, h3⟩ := hn1
        cases Option.some.inj (h1.symm.trans hcl)
        cases Option.some.inj (h2.symm.trans hc6)
        exact Or.inr ⟨hz0, _, hcl6, h3⟩) hx (Or.inr ⟨h0, c4, hcl5, hasg⟩)
  obtain ⟨t, a1, b1⟩ := kk (T.setVm vm') hT X'
  exact ⟨t, st.trans a1, b1⟩
end Rows
section Ends
variable {p : Program} {l : Launch} {e : Env} {R : Room} {s : State} {m : MethodId} {args : Array Value} {below : List Frame} {meth : Method} {c : Code} {H : Heap} {locs : List Loc} {cells slots : Nat} {Q : State → Prop}
variable {mc ms : Nat} {free : Addr → Prop} {A0 A1 : Nat → Prop} {H0 : Heap} {a : Array Value} {ls : Array Slot} {st0 rest : List Value}
variable {Qc : Array Value → State → Outcome → State → Prop} {XC : String → State → State → Prop}
/-- what a body that may throw owes at its end -/
def vx_MQ (below : List Frame) (Qc : Array Value → State → Outcome → State → Prop) (XC : String → State → State → Prop) (a : Array Value) (s : State) (mc ms : Nat) (free : Addr → Prop) : State → Prop := fun t =>
  ∃ o, t.status = .running ∧ Ended t below o ∧ vx_Q Qc XC mc ms free a s o t
theorem vx_ret {g : JFrame} {mc ms : Nat} (k : W p l e R s m args below meth c H locs cells slots (MQ below Qc args s mc ms free) g) : W p l e R s m args below meth c H locs cells slots (vx_MQ below Qc XC args s mc ms free) g := by
  intro T hT X
  obtain ⟨t, a1, o, b1, b2, b3, b4⟩ := k T hT X
  exact ⟨t, a1, o, b1, b2, Or.inl ⟨b3, b4⟩⟩
/-- not caught here: it goes on to the caller -/
theorem vx_widen {g : JFrame} {q : Addr} {k n : Nat} (h1 : cells ≤ k) (h2 : slots ≤ n) (kk : vx_W p l e R s m args below meth c H locs k n Q g q) : vx_W p l e R s m args below meth c H locs cells slots Q g q := fun T hT X => kk T hT (stand_widen X h1 h2)
theorem vx_out {pc : Nat} {E : String} {ce : Cell} {q : Addr} {mc ms : Nat} (hout : ∀ x ∈ c.exceptionTable.toList, covers x pc = false) (hlocks : meth.locks = false) (hcell : H[q]? = some ce) (hv : ce.vm = .none) (hcl : s.vm.findClass E = some ce.cls)
    (hx : ∀ t : State, t.heap = H → s.vm.Alike t.vm → XC E s t) (hf : ∀ z ∈ locs, free z.base) (hc : cells ≤ mc) (hs : slots ≤ ms) :
    vx_W p l e R s m args below meth c H locs cells slots (vx_MQ below Qc XC args s mc ms free) (F0 m pc ls rest) q := by
  intro T hT X
  obtain ⟨st1, hrun, hend, hW, hsm⟩ := X.leaveThrown q (g := F0 m pc ls rest) rfl rfl rfl hout hlocks
  have hcell9 : (T.setFrames (.throwing q :: below)).heap[q]? = some ce := by
    show T.heap[q]? = some ce
    rw [hT]; exact hcell
  exact ⟨_, st1, .threw q, hrun, hend, Or.inr ⟨q, rfl, E, ce, locs, hx _ hT hW.alike, hcell9, hv, hcl, hW, hsm.mono hc hs, hf⟩⟩
theorem vx_frame {U : State} {k n : Nat} (h : s.sameButNew ({ U with vm := s.vm } : State) locs k n) : s.heap.size ≤ U.heap.size ∧ ∀ q : Nat, q < s.heap.size → (∀ z ∈ locs, z.base ≠ q) → U.heap[q]? = s.heap[q]? := by
  obtain ⟨-, h2, -, -, -, h6⟩ := h
  refine ⟨h2, fun q hq hz => ?_⟩
  obtain ⟨c9, e1, e2, e3, e4⟩ := h6 q _ (Array.getElem?_eq_getElem hq)
  have hs : c9.slots = (s.heap[q]).slots := Array.ext_getElem? fun i => e4 i fun hm => hz _ hm rfl
  have h9 : c9 = s.heap[q] := by
    rw [hs] at e2
    exact e2
  have e5 : U.heap[q]? = some c9 := e1
  rw [e5, h9, Array.getElem?_eq_getElem hq]
/-- the words of a throw but the four that speak of the heap -/
def vx_no (w : Cond) : Bool := decide (w ≠ .isRef (.static Bundle.tN "UNASSIGNED_STACK" Bundle.steD)) && decide (w ≠ .isRef (.static Bundle.tN "SUPPRESSED_SENTINEL" Bundle.listD)) && decide (w ≠ .laysStatic Bundle.tN "UNASSIGNED_STACK" Bundle.steD) && decide (w ≠ .laysStatic Bundle.tN "SUPPRESSED_SENTINEL" Bundle.listD)
def vx_at0 (own : String) (ic : Nat) (X : String) (names : List String) : List Cond := (Bundle.ownAtoms0 own ic X names).filter vx_no
def vx_atS (own : String) (ic : Nat) (X : String) (names : List String) : List Cond := (Bundle.ownAtoms own ic X names).filter vx_no
/-- a word that the tables alone decide, or a good one -/
def vx_ot (w : Cond) : Bool := w.onTables || goodWord w
theorem vx_ot_at {args a' : Array Value} {s U : State} {w : Cond} (hW : s.WarmedH U.vm) (hvm : s.vm = U.vm) (hg : vx_ot w = true) (h : w.before args s = true) : w.before a' U = true := by
  simp only [vx_ot, Bool.or_eq_true] at hg
  rcases hg with hg | hg
  · exact va_tabs hg hvm h
  · exact word_at hW (good_of_word hg) h
/-- a list's words: the good ones out of the method's own list, the others by premises of their own -/
theorem vx_hat {args : Array Value} {s : State} {L B : List Cond} (h1 : ∀ w ∈ L.filter goodWord, w.before args s = true) (h2 : ∀ w ∈ L.filter (fun w => !goodWord w), w ∈ B) (h3 : ∀ w ∈ B, w.before args s = true) : ∀ w ∈ L, w.before args s = true := by
  intro w hw
  by_cases g : goodWord w = true
  · exact h1 w (List.mem_filter.mpr ⟨hw, g⟩)
  · refine h3 w (h2 w (List.mem_filter.mpr ⟨hw, ?_⟩))
    show (!goodWord w) = true
    cases hgw : goodWord w
    · rfl
    · exact absurd hgw g
theorem vx_c {args : Array Value} {s : State} {w : Cond} {B : List Cond} (h : w.before args s = true) (t : ∀ w ∈ B, w.before args s = true) : ∀ w' ∈ w :: B, w'.before args s = true := fun w' h' => (List.mem_cons.mp h').elim (fun e => by rw [e]; exact h) (t w')
theorem vx_n {args : Array Value} {s : State} : ∀ w ∈ ([] : List Cond), w.before args s = true := fun _ h => nomatch h
theorem vx_own {args : Array Value} {s : State} {L : List Cond} (h1 : ∀ w ∈ L.filter vx_no, w.before args s = true)
    (hU : (Cond.isRef (.static Bundle.tN "UNASSIGNED_STACK" Bundle.steD)).before args s = true) (hN : (Cond.isRef (.static Bundle.tN "SUPPRESSED_SENTINEL" Bundle.listD)).before args s = true)
    (lU : (Cond.laysStatic Bundle.tN "UNASSIGNED_STACK" Bundle.steD).before args s = true) (lN : (Cond.laysStatic Bundle.tN "SUPPRESSED_SENTINEL" Bundle.listD).before args s = true) : ∀ w ∈ L, w.before args s = true := by
  intro w hw
  by_cases e1 : w = .isRef (.static Bundle.tN "UNASSIGNED_STACK" Bundle.steD)
  · rw [e1]; exact hU
  · by_cases e2 : w = .isRef (.static Bundle.tN "SUPPRESSED_SENTINEL" Bundle.listD)
    · rw [e2]; exact hN
    · by_cases e3 : w = .laysStatic Bundle.tN "UNASSIGNED_STACK" Bundle.steD
      · rw [e3]; exact lU
      · by_cases e4 : w = .laysStatic Bundle.tN "SUPPRESSED_SENTINEL" Bundle.listD
        · rw [e4]; exact lN
        · exact h1 w (List.mem_filter.mpr ⟨hw, by unfold vx_no; rw [decide_eq_true e1, decide_eq_true e2, decide_eq_true e3, decide_eq_true e4]; rfl⟩)
/-- where a static field lies, its class's statics cell in H -/
def vx_L (C n d : String) (A : Nat → Prop) (U : State) (H : Heap) : Prop := ∃ (c : ClassId) (k : Class) (i : Nat) (f : Field) (a : Nat) (cell : Cell), U.vm.findClass C = some c ∧ U.fieldFound? C n d = some (c, k, i, f) ∧ f.isStatic = true ∧ k.statics = some a ∧ H[a]? = some cell ∧ cell.vm.isStatics = true ∧ cell.cls = c ∧ f.slot < cell.slots.size ∧ k.staticTypes[f.slot]? = some f.type ∧ ¬ A a
theorem vx_L.moved {C n d : String} {A : Nat → Prop} {u U : State} {H : Heap} (hvm : u.vm.Alike U.vm) (h : vx_L C n d A u H) : vx_L C n d A U H := by
  obtain ⟨c, k, i, f, a, cell, h1, h2, h3, h4, h5, h6, h7, h8, h9, h10⟩ := h
  obtain ⟨k', hi', he⟩ := State.fieldFound?_setVm hvm h2
  exact ⟨c, k', i, f, a, cell, by rw [hvm.findClass]; exact h1, hi', h3, by rw [he]; exact h4, h5, h6, h7, h8, by rw [he]; exact h9, h10⟩
theorem vx_L.kept {C n d : String} {A : Nat → Prop} {U : State} {H H1 : Heap} (h : vx_L C n d A U H) (hq : ∀ a : Nat, a < H.size → ¬ A a → H1[a]? = H[a]?) : vx_L C n d A U H1 := by
  obtain ⟨c, k, i, f, a, cell, h1, h2, h3, h4, h5, h6, h7, h8, h9, h10⟩ := h
  exact ⟨c, k, i, f, a, cell, h1, h2, h3, h4, by rw [hq a (Array.getElem?_eq_some_iff.mp h5).1 h10]; exact h5, h6, h7, h8, h9, h10⟩
theorem vx_L.narrow {C n d : String} {A B : Nat → Prop} {U : State} {H : Heap} (h : vx_L C n d A U H) (hAB : ∀ q, B q → A q) : vx_L C n d B U H := by
  obtain ⟨c, k, i, f, a, cell, h1, h2, h3, h4, h5, h6, h7, h8, h9, h10⟩ := h
  exact ⟨c, k, i, f, a, cell, h1, h2, h3, h4, h5, h6, h7, h8, h9, fun z => h10 (hAB _ z)⟩
theorem vx_L.word {C n d : String} {A : Nat → Prop} {s : State} {args : Array Value} (h : vx_L C n d A s s.heap) : (Cond.laysStatic C n d).before args s = true := by
  obtain ⟨c, k, i, f, a, cell, h1, h2, h3, h4, h5, h6, h7, h8, h9, -⟩ := h
  show (Cond.laysStatic C n d).holds args s none s [] = true
  exact Cond.laysStatic_of h1 h2 h3 h4 h5 h6 h7 h8 h9
/-- .. and what it holds: null or some reference -/
def vx_Zq (C n d : String) (A : Nat → Prop) (U : State) (H : Heap) : Prop := va_Zq C n d A U H ∧ vx_L C n d A U H
theorem vx_Zq.moved {C n d : String} {A : Nat → Prop} {u U : State} {H : Heap} (hvm : u.vm.Alike U.vm) (h : vx_Zq C n d A u H) : vx_Zq C n d A U H := ⟨va_Zq.moved hvm h.1, vx_L.moved hvm h.2⟩
theorem vx_Zq.kept {C n d : String} {A : Nat → Prop} {U : State} {H H1 : Heap} (h : vx_Zq C n d A U H) (hq : ∀ a : Nat, a < H.size → ¬ A a → H1[a]? = H[a]?) : vx_Zq C n d A U H1 := ⟨va_Zq.kept h.1 hq, vx_L.kept h.2 hq⟩
theorem vx_Zq.narrow {C n d : String} {A B : Nat → Prop} {U : State} {H : Heap} (h : vx_Zq C n d A U H) (hAB : ∀ q, B q → A q) : vx_Zq C n d B U H := ⟨va_Zq.narrow h.1 hAB, vx_L.narrow h.2 hAB⟩
theorem vx_Zqof {args : Array Value} {s : State} {C n d : String} {A : Nat → Prop} (hl : (Cond.laysStatic C n d).before args s = true) (hini : (Cond.initialized C).before args s = true) (h : (Cond.isRef (.static C n d)).before args s = true) (hA : ∀ a : Nat, a < s.heap.size → ¬ A a) : vx_Zq C n d A s s.heap := by
  refine ⟨va_Zqof hl hini h hA, ?_⟩
  obtain ⟨c, k, i, f, a, cell, h1, h2, h3, h4, h5, h6, h7, h8, h9⟩ := Cond.laysStatic_spec hl
  exact ⟨c, k, i, f, a, cell, h1, h2, h3, h4, h5, h6, h7, h8, h9, hA a (Array.getElem?_eq_some_iff.mp h5).1⟩
theorem vx_isRef {C n d : String} {v : Value} {A : Nat → Prop} {s : State} {args : Array Value} (h : va_Z C n d v A s s.heap) (hv : v.isRef = true) : (Cond.isRef (.static C n d)).before args s = true := by
  obtain ⟨cf, kf, fi, f, a, cell, h1, h2, h3, h4, h5, h6, h7, -⟩ := h
  have he : (Term.static C n d).eval args s none [] s = some v := by
    simp [Term.eval, State.fieldNamed?, h1, h2, h4, h5, h6, h7]
  simp only [Cond.before, Cond.holds, Cond.value, he]
  cases v <;> simp_all [Value.isRef]
theorem vx_isRefq {C n d : String} {A : Nat → Prop} {s : State} {args : Array Value} (h : va_Zq C n d A s s.heap) : (Cond.isRef (.static C n d)).before args s = true := by
  rcases h with h | ⟨t, h⟩
  · exact vx_isRef h rfl
  · exact vx_isRef h rfl
/-- the same frame, seen from here: as if the method were called anew in this heap -/
theorem vx_rebase {T : State} (X : Stand p l e R s m args below meth c T locs cells slots) {R' : Room} (hf : R'.frames ≤ R.frames) (hl : R'.locals ≤ R.locals) (hc : cells + R'.cells ≤ R.cells) (hs : slots + R'.slots ≤ R.slots) :
    Stand p l e R' ((T.setVm s.vm).setFrames (.invoking m args :: below)) m args below meth c T [] 0 0 := by
  have htop : (T.setVm s.vm).topJava?.isSome := X.here.top
  have hF : ((T.setVm s.vm).setFrames (.invoking m args :: below)).frames = .invoking m args :: below := State.frames_setFrames _ (State.cur_lt_of_top htop)
  obtain ⟨g₀, hg0⟩ := Option.isSome_iff_exists.mp htop
  obtain ⟨r, hr⟩ := State.topJava?_eq_some.mp hg0
  have hl9 : e.platform.stackLimits (T.setVm s.vm).me = e.platform.stackLimits s.me := X.limits
  have hb9 : (T.setVm s.vm).me.stackBytes = s.me.stackBytes := X.bytes
  refine ⟨X.admits, X.cas, X.clock, hF, ?_, X.hears, X.method, X.code, X.here, X.tail, X.warmed, ?_, ?_, ?_⟩
  · have h := X.room
    have hU : ((T.setVm s.vm).setFrames (.invoking m args :: below)).localsInUse = s.localsInUse := by
      rw [State.localsInUse_invoking hF (meth := meth) (c := c) X.method X.code, State.localsInUse_invoking X.frames X.method X.code]
    simp only [State.hasRoom, Bool.and_eq_true, decide_eq_true_eq] at h ⊢
    obtain ⟨⟨⟨⟨h1, h2, h3, h4, h5, h6⟩, h7⟩, h8⟩, h9⟩ := h
    rw [X.frames, List.length_cons] at h2 h3
    have q1 := X.heapSize
    have q2 := X.used
    simp only [hF, hU, List.length_cons, State.stackLimits_setFrames, State.stackBytes_setFrames, hl9, hb9]
    refine ⟨⟨⟨⟨by omega, by omega, by omega, by omega, by omega, h6⟩, ?_⟩, ?_⟩, X.book⟩
    · show T.heap.size + R'.cells ≤ e.platform.maxCells
      omega
    · show T.slotsUsed + R'.slots ≤ e.platform.maxSlots
      omega
  · rw [State.stackLimits_setFrames]; rfl
  · rw [State.stackBytes_setFrames]; rfl
  · refine ⟨?_, Nat.le_refl _, Nat.le_refl _, ?_, ?_, fun a c9 h9 => ⟨c9, h9, rfl, rfl, fun _ _ => rfl⟩⟩
    · obtain ⟨t, ht, -⟩ := State.frames_cons hr
      show T.setVm s.vm = { ((T.setVm s.vm).setFrames (.invoking m args :: below)).setFrames (T.setVm s.vm).frames with heap := T.heap, slotsUsed := T.slotsUsed }
      rw [State.setFrames_setFrames, State.setFrames_self ht]
      rfl
    · show T.slotsUsed = T.slotsUsed + ((T.heap.toList.drop T.heap.size).map (·.slots.size)).sum
      rw [List.drop_eq_nil_of_le (Nat.le_of_eq Array.length_toList)]
      rfl
    · show ((T.heap.toList.drop T.heap.size).map (·.slots.size)).sum ≤ 0
      rw [List.drop_eq_nil_of_le (Nat.le_of_eq Array.length_toList)]
      exact Nat.le_refl _
/-- 'throw new E()': new; dup; invokespecial; athrow -/
theorem vx_throw0 {cc : ByteArray} {pc : Nat} (hexec : p.tables.exec = Jvm.exec) (hb : c.code = cc) (hl : l.stackTraces = false) {own cls : String} {names : List String} {ik ic mc ms : Nat} {A : Nat → Prop}
    (hown : s.vm.findClass own = some m.cls) (hcls : Bundle.fit cls = true) (hnames : ∀ n ∈ names, Bundle.fit n = true)
    (hk : (Cond.classLink own ik cls).before args s = true) (hini : (Cond.initialized cls).before args s = true) (hat : ∀ w ∈ vx_at0 own ic cls names, w.before args s = true)
    (hgood : ∀ w ∈ Cond.classLink own ik cls :: Cond.initialized cls :: vx_at0 own ic cls names, vx_ot w = true)
    (hU : vx_Zq Bundle.tN "UNASSIGNED_STACK" Bundle.steD A s s.heap) (hN : vx_Zq Bundle.tN "SUPPRESSED_SENTINEL" Bundle.listD A s s.heap) (hS : va_S A s.heap H locs) (hsize : ls.size = c.maxLocals)
    (d0 : decode cc pc = .ok (.new ik, 3)) (d3 : decode cc (pc + 3) = .ok (.dup, 1)) (d4 : decode cc (pc + 4) = .ok (.invokespecial ic, 3)) (d7 : decode cc (pc + 7) = .ok (.athrow, 1))
    (hout : ∀ x ∈ c.exceptionTable.toList, covers x (pc + 7) = false)
    (hRframes : names.length + 3 < R.frames) (hRlocals : (rest.map fun v => v.category).sum + (13 * (names.length + 1) + 42) ≤ R.locals) (hRcells : cells + 1 ≤ R.cells) (hRslots : slots + 6 ≤ R.slots) (hlocks : meth.locks = false)
    (hx : ∀ t : State, s.vm.Alike t.vm → H.size ≤ t.heap.size → (∀ q : Nat, q < H.size → t.heap[q]? = H[q]?) → XC cls s t)
    (hf : ∀ z ∈ locs, free z.base) (hc : cells + 1 ≤ mc) (hs : slots + 6 ≤ ms) :
    W p l e R s m args below meth c H locs cells slots (vx_MQ below Qc XC args s mc ms free) (F0 m pc ls rest) := by
  intro T hT X
  have htr : e.platform.stackTraces = false := (show e.platform.stackTraces = l.stackTraces by rw [X.admits.platform]).trans hl
  have Y := vx_rebase X (R' := { frames := R.frames, locals := R.locals, cells := 1, slots := 6 }) (Nat.le_refl _) (Nat.le_refl _) hRcells hRslots
  obtain ⟨s', hA⟩ : ∃ z, z = (T.setVm s.vm).setFrames (.invoking m args :: below) := ⟨_, rfl⟩
  rw [← hA] at Y
  have hvm : s'.vm = s.vm := by rw [hA]; rfl
  have hhp : s'.heap = H := by rw [hA]; exact hT
  have hW0 : s.WarmedH s'.vm := by rw [hvm]; exact State.WarmedH.refl s
  have hat' : ∀ w ∈ vx_at0 own ic cls names, w.before args s' = true := fun w hw => vx_ot_at hW0 hvm.symm (hgood w (List.mem_cons_of_mem _ (List.mem_cons_of_mem _ hw))) (hat w hw)
  have hk' : (Cond.classLink own ik cls).before args s' = true := vx_ot_at hW0 hvm.symm (hgood _ List.mem_cons_self) hk
  have hini' : (Cond.initialized cls).before args s' = true := vx_ot_at hW0 hvm.symm (hgood _ (List.mem_cons_of_mem _ List.mem_cons_self)) hini
  have hU' : vx_Zq Bundle.tN "UNASSIGNED_STACK" Bundle.steD A s' s'.heap := by rw [hhp]; exact vx_Zq.moved hW0.alike (hU.kept hS.2.1)
  have hN' : vx_Zq Bundle.tN "SUPPRESSED_SENTINEL" Bundle.listD A s' s'.heap := by rw [hhp]; exact vx_Zq.moved hW0.alike (hN.kept hS.2.1)
  have h : ∀ w ∈ Bundle.ownAtoms0 own ic cls names, w.before args s' = true := vx_own hat' (vx_isRefq hU'.1) (vx_isRefq hN'.1) hU'.2.word hN'.2.word
  have hown' : s'.vm.findClass own = some m.cls := by rw [hvm]; exact hown
  have hins : (Cond.instantiable cls 6).before args s' = true := h _ (by simp [Bundle.ownAtoms0])
  obtain ⟨vm₁, cX, kX, hfX, hkX, -, -, X₁, st1⟩ := Y.newCold hexec (own := own) (C := cls) (index := ik) (n := 6) hown' hk' hins hini'
    (g := F0 m pc ls rest) rfl (by rw [hb]; exact d0) (Nat.le_refl _) (Nat.le_refl _)
  generalize hT1 : (T.setVm vm₁).pushCell { cls := cX, slots := kX.instanceTypes.map defaultValue, vm := .none } = T1 at X₁ st1
  have hcat : (Value.ref T.heap.size).category = 1 := rfl
  have hcellA : T1.heap[T.heap.size]? = some (freshCell cX kX) := by rw [← hT1]; exact State.heap_pushCell_size _ _
  have d3' : decode c.code (pc + 3) = .ok (.dup, 1) := by rw [hb]; exact d3
  obtain ⟨U, hsteps, hrun, hend, hW, hsame, ce, hce, hO⟩ := X₁.ctorThrow0 hexec htr (own := own) (cls := cls) (names := names) (ic := ic) hown' hcls hnames h (fun x hx => nomatch hx) hfX hkX hcellA (by rw [hhp, hT]; exact Nat.le_refl _)
    (g := { method := m, pc := pc + 4, locals := ls, stack := .ref T.heap.size :: .ref T.heap.size :: rest, locked := none }) rfl hsize rfl rfl (rest := rest) rfl
    (by rw [hb]; exact d4) (by rw [hb]; exact d7) hout hRframes (by simp only [List.map_cons, List.sum_cons, hcat]; omega) hlocks
  obtain ⟨f1, f2⟩ := vx_frame hsame
  rw [hhp] at f1 f2
  have hWs : s.WarmedH U.vm := State.WarmedH.trans hW0 hW
  have hcl : s.vm.findClass cls = some ce.cls := by
    have h9 := hO.cls
    rw [hvm] at h9
    exact h9
  have hall : s.sameButNew ({ U with vm := s.vm } : State) locs mc ms := by
    subst hA
    obtain ⟨e1, e2⟩ := hsame
    rw [State.setFrames_setFrames] at e1
    have h2 : (T.setVm s.vm).sameButNew ({ U with vm := s.vm } : State) [] (0 + 1) (0 + 6) := ⟨e1, e2⟩
    have h3 := X.same.trans h2
    rw [List.append_nil] at h3
    exact h3.mono hc hs
  refine ⟨U, ?_, .threw T.heap.size, hrun, hend, Or.inr ⟨T.heap.size, rfl, cls, ce, locs, hx U hWs.alike f1 (fun q hq => f2 q hq (fun z hz => nomatch hz)), hce, hO.vm, hcl, hWs, hall, hf⟩⟩
  refine st1 _ ?_
  show Steps p.tables e below (T1.setTop { method := m, pc := pc + 3, locals := ls, stack := .ref T.heap.size :: rest, locked := none }) _
  jvm_step X₁.here [X₁.here.top, hexec, d3', Value.category]
  exact hsteps
/-- 'throw new E("text")': new; dup; ldc; invokespecial; athrow -/
theorem vx_throwS {cc : ByteArray} {pc : Nat} (hexec : p.tables.exec = Jvm.exec) (hb : c.code = cc) (hl : l.stackTraces = false) {own cls text : String} {names : List String} {ik is ic mc ms sa : Nat} {A : Nat → Prop}
    (hown : s.vm.findClass own = some m.cls) (hcls : Bundle.fit cls = true) (hnames : ∀ n ∈ names, Bundle.fit n = true)
    (hk : (Cond.classLink own ik cls).before args s = true) (hini : (Cond.initialized cls).before args s = true) (hstr : vk_R own is text sa s) (hat : ∀ w ∈ vx_atS own ic cls names, w.before args s = true)
    (hgood : ∀ w ∈ Cond.classLink own ik cls :: Cond.initialized cls :: vx_atS own ic cls names, vx_ot w = true)
    (hU : vx_Zq Bundle.tN "UNASSIGNED_STACK" Bundle.steD A s s.heap) (hN : vx_Zq Bundle.tN "SUPPRESSED_SENTINEL" Bundle.listD A s s.heap) (hS : va_S A s.heap H locs) (hsize : ls.size = c.maxLocals)
    (d0 : decode cc pc = .ok (.new ik, 3)) (d3 : decode cc (pc + 3) = .ok (.dup, 1)) (d4 : decode cc (pc + 4) = .ok (.ldc is, 2)) (d6 : decode cc (pc + 6) = .ok (.invokespecial ic, 3)) (d9 : decode cc (pc + 9) = .ok (.athrow, 1))
    (hout : ∀ x ∈ c.exceptionTable.toList, covers x (pc + 9) = false)
    (hRframes : names.length + 3 < R.frames) (hRlocals : (rest.map fun v => v.category).sum + (13 * (names.length + 1) + 43) ≤ R.locals) (hRcells : cells + 1 ≤ R.cells) (hRslots : slots + 6 ≤ R.slots) (hlocks : meth.locks = false)
    (hx : ∀ t : State, s.vm.Alike t.vm → H.size ≤ t.heap.size → (∀ q : Nat, q < H.size → t.heap[q]? = H[q]?) → XC cls s t)
    (hf : ∀ z ∈ locs, free z.base) (hc : cells + 1 ≤ mc) (hs : slots + 6 ≤ ms) :
    W p l e R s m args below meth c H locs cells slots (vx_MQ below Qc XC args s mc ms free) (F0 m pc ls rest) := by
  intro T hT X
  have htr : e.platform.stackTraces = false := (show e.platform.stackTraces = l.stackTraces by rw [X.admits.platform]).trans hl
  have Y := vx_rebase X (R' := { frames := R.frames, locals := R.locals, cells := 1, slots := 6 }) (Nat.le_refl _) (Nat.le_refl _) hRcells hRslots
  obtain ⟨s', hA⟩ : ∃ z, z = (T.setVm s.vm).setFrames (.invoking m args :: below) := ⟨_, rfl⟩
  rw [← hA] at Y
  have hvm : s'.vm = s.vm := by rw [hA]; rfl
  have hhp : s'.heap = H := by rw [hA]; exact hT
  have hW0 : s.WarmedH s'.vm := by rw [hvm]; exact State.WarmedH.refl s
  have hat' : ∀ w ∈ vx_atS own ic cls names, w.before args s' = true := fun w hw => vx_ot_at hW0 hvm.symm (hgood w (List.mem_cons_of_mem _ (List.mem_cons_of_mem _ hw))) (hat w hw)
  have hk' : (Cond.classLink own ik cls).before args s' = true := vx_ot_at hW0 hvm.symm (hgood _ List.mem_cons_self) hk
  have hini' : (Cond.initialized cls).before args s' = true := vx_ot_at hW0 hvm.symm (hgood _ (List.mem_cons_of_mem _ List.mem_cons_self)) hini
  have hU' : vx_Zq Bundle.tN "UNASSIGNED_STACK" Bundle.steD A s' s'.heap := by rw [hhp]; exact vx_Zq.moved hW0.alike (hU.kept hS.2.1)
  have hN' : vx_Zq Bundle.tN "SUPPRESSED_SENTINEL" Bundle.listD A s' s'.heap := by rw [hhp]; exact vx_Zq.moved hW0.alike (hN.kept hS.2.1)
  have h : ∀ w ∈ Bundle.ownAtoms own ic cls names, w.before args s' = true := vx_own hat' (vx_isRefq hU'.1) (vx_isRefq hN'.1) hU'.2.word hN'.2.word
  have hown' : s'.vm.findClass own = some m.cls := by rw [hvm]; exact hown
  have hins : (Cond.instantiable cls 6).before args s' = true := h _ (by simp [Bundle.ownAtoms])
  obtain ⟨vm₁, cX, kX, hfX, hkX, -, -, X₁, st1⟩ := Y.newCold hexec (own := own) (C := cls) (index := ik) (n := 6) hown' hk' hins hini'
    (g := F0 m pc ls rest) rfl (by rw [hb]; exact d0) (Nat.le_refl _) (Nat.le_refl _)
  generalize hT1 : (T.setVm vm₁).pushCell { cls := cX, slots := kX.instanceTypes.map defaultValue, vm := .none } = T1 at X₁ st1
  have hcat : (Value.ref T.heap.size).category = 1 := rfl
  have hcellA : T1.heap[T.heap.size]? = some (freshCell cX kX) := by rw [← hT1]; exact State.heap_pushCell_size _ _
  have d3' : decode c.code (pc + 3) = .ok (.dup, 1) := by rw [hb]; exact d3
  have d4' : decode c.code (pc + 4) = .ok (.ldc is, 2) := by rw [hb]; exact d4
  have hstr' : vk_R own is text sa s' := vk_R.warm hW0 hstr
  obtain ⟨U, hsteps, hrun, hend, hW, hsame, ce, hce, hO⟩ := X₁.ctorThrowS hexec htr (own := own) (cls := cls) (names := names) (ic := ic) hown' hcls hnames h (fun x hx => nomatch hx) hfX hkX hcellA (by rw [hhp, hT]; exact Nat.le_refl _) (msg := .ref sa) rfl
    (g := { method := m, pc := pc + 6, locals := ls, stack := .ref sa :: .ref T.heap.size :: .ref T.heap.size :: rest, locked := none }) rfl hsize rfl rfl (rest := rest) rfl
    (by rw [hb]; exact d6) (by rw [hb]; exact d9) hout hRframes (by simp only [List.map_cons, List.sum_cons, hcat]; omega) hlocks
  obtain ⟨f1, f2⟩ := vx_frame hsame
  rw [hhp] at f1 f2
  have hWs : s.WarmedH U.vm := State.WarmedH.trans hW0 hW
  have hcl : s.vm.findClass cls = some ce.cls := by
    have h9 := hO.cls
    rw [hvm] at h9
    exact h9
  have hall : s.sameButNew ({ U with vm := s.vm } : State) locs mc ms := by
    subst hA
    obtain ⟨e1, e2⟩ := hsame
    rw [State.setFrames_setFrames] at e1
    have h2 : (T.setVm s.vm).sameButNew ({ U with vm := s.vm } : State) [] (0 + 1) (0 + 6) := ⟨e1, e2⟩
    have h3 := X.same.trans h2
    rw [List.append_nil] at h3
    exact h3.mono hc hs
  refine ⟨U, ?_, .threw T.heap.size, hrun, hend, Or.inr ⟨T.heap.size, rfl, cls, ce, locs, hx U hWs.alike f1 (fun q hq => f2 q hq (fun z hz => nomatch hz)), hce, hO.vm, hcl, hWs, hall, hf⟩⟩
  refine st1 _ ?_
  show Steps p.tables e below (T1.setTop { method := m, pc := pc + 3, locals := ls, stack := .ref T.heap.size :: rest, locked := none }) _
  jvm_step X₁.here [X₁.here.top, hexec, d3', Value.category]
  exact X₁.ldcString hexec (own := own) (text := text) (index := is) (a := sa) hown' hstr'.1 hstr'.2
    (g := { method := m, pc := pc + 4, locals := ls, stack := .ref T.heap.size :: .ref T.heap.size :: rest, locked := none }) rfl d4' _ hsteps
/-- 'throw new E("text")', the text by a wide index -/
theorem vx_throwSW {cc : ByteArray} {pc : Nat} (hexec : p.tables.exec = Jvm.exec) (hb : c.code = cc) (hl : l.stackTraces = false) {own cls text : String} {names : List String} {ik is ic mc ms sa : Nat} {A : Nat → Prop}
    (hown : s.vm.findClass own = some m.cls) (hcls : Bundle.fit cls = true) (hnames : ∀ n ∈ names, Bundle.fit n = true)
    (hk : (Cond.classLink own ik cls).before args s = true) (hini : (Cond.initialized cls).before args s = true) (hstr : vk_R own is text sa s) (hat : ∀ w ∈ vx_atS own ic cls names, w.before args s = true)
    (hgood : ∀ w ∈ Cond.classLink own ik cls :: Cond.initialized cls :: vx_atS own ic cls names, vx_ot w = true)
    (hU : vx_Zq Bundle.tN "UNASSIGNED_STACK" Bundle.steD A s s.heap) (hN : vx_Zq Bundle.tN "SUPPRESSED_SENTINEL" Bundle.listD A s s.heap) (hS : va_S A s.heap H locs) (hsize : ls.size = c.maxLocals)
    (d0 : decode cc pc = .ok (.new ik, 3)) (d3 : decode cc (pc + 3) = .ok (.dup, 1)) (d4 : decode cc (pc + 4) = .ok (.ldc_w is, 3)) (d7 : decode cc (pc + 7) = .ok (.invokespecial ic, 3)) (d10 : decode cc (pc + 10) = .ok (.athrow, 1))
    (hout : ∀ x ∈ c.exceptionTable.toList, covers x (pc + 10) = false)
    (hRframes : names.length + 3 < R.frames) (hRlocals : (rest.map fun v => v.category).sum + (13 * (names.length + 1) + 43) ≤ R.locals) (hRcells : cells + 1 ≤ R.cells) (hRslots : slots + 6 ≤ R.slots) (hlocks : meth.locks = false)
    (hx : ∀ t : State, s.vm.Alike t.vm → H.size ≤ t.heap.size → (∀ q : Nat, q < H.size → t.heap[q]? = H[q]?) → XC cls s t)
    (hf : ∀ z ∈ locs, free z.base) (hc : cells + 1 ≤ mc) (hs : slots + 6 ≤ ms) :
    W p l e R s m args below meth c H locs cells slots (vx_MQ below Qc XC args s mc ms free) (F0 m pc ls rest) := by
  intro T hT X
  have htr : e.platform.stackTraces = false := (show e.platform.stackTraces = l.stackTraces by rw [X.admits.platform]).trans hl
  have Y := vx_rebase X (R' := { frames := R.frames, locals := R.locals, cells := 1, slots := 6 }) (Nat.le_refl _) (Nat.le_refl _) hRcells hRslots
  obtain ⟨s', hA⟩ : ∃ z, z = (T.setVm s.vm).setFrames (.invoking m args :: below) := ⟨_, rfl⟩
  rw [← hA] at Y
  have hvm : s'.vm = s.vm := by rw [hA]; rfl
  have hhp : s'.heap = H := by rw [hA]; exact hT
  have hW0 : s.WarmedH s'.vm := by rw [hvm]; exact State.WarmedH.refl s
  have hat' : ∀ w ∈ vx_atS own ic cls names, w.before args s' = true := fun w hw => vx_ot_at hW0 hvm.symm (hgood w (List.mem_cons_of_mem _ (List.mem_cons_of_mem _ hw))) (hat w hw)
  have hk' : (Cond.classLink own ik cls).before args s' = true := vx_ot_at hW0 hvm.symm (hgood _ List.mem_cons_self) hk
  have hini' : (Cond.initialized cls).before args s' = true := vx_ot_at hW0 hvm.symm (hgood _ (List.mem_cons_of_mem _ List.mem_cons_self)) hini
  have hU' : vx_Zq Bundle.tN "UNASSIGNED_STACK" Bundle.steD A s' s'.heap := by rw [hhp]; exact vx_Zq.moved hW0.alike (hU.kept hS.2.1)
  have hN' : vx_Zq Bundle.tN "SUPPRESSED_SENTINEL" Bundle.listD A s' s'.heap := by rw [hhp]; exact vx_Zq.moved hW0.alike (hN.kept hS.2.1)
  have h : ∀ w ∈ Bundle.ownAtoms own ic cls names, w.before args s' = true := vx_own hat' (vx_isRefq hU'.1) (vx_isRefq hN'.1) hU'.2.word hN'.2.word
  have hown' : s'.vm.findClass own = some m.cls := by rw [hvm]; exact hown
  have hins : (Cond.instantiable cls 6).before args s' = true := h _ (by simp [Bundle.ownAtoms])
  obtain ⟨vm₁, cX, kX, hfX, hkX, -, -, X₁, st1⟩ := Y.newCold hexec (own := own) (C := cls) (index := ik) (n := 6) hown' hk' hins hini'
    (g := F0 m pc ls rest) rfl (by rw [hb]; exact d0) (Nat.le_refl _) (Nat.le_refl _)
  generalize hT1 : (T.setVm vm₁).pushCell { cls := cX, slots := kX.instanceTypes.map defaultValue, vm := .none } = T1 at X₁ st1
  have hcat : (Value.ref T.heap.size).category = 1 := rfl
  have hcellA : T1.heap[T.heap.size]? = some (freshCell cX kX) := by rw [← hT1]; exact State.heap_pushCell_size _ _
  have d3' : decode c.code (pc + 3) = .ok (.dup, 1) := by rw [hb]; exact d3
  have d4' : decode c.code (pc + 4) = .ok (.ldc_w is, 3) := by rw [hb]; exact d4
  have hstr' : vk_R own is text sa s' := vk_R.warm hW0 hstr
  obtain ⟨U, hsteps, hrun, hend, hW, hsame, ce, hce, hO⟩ := X₁.ctorThrowS hexec htr (own := own) (cls := cls) (names := names) (ic := ic) hown' hcls hnames h (fun x hx => nomatch hx) hfX hkX hcellA (by rw [hhp, hT]; exact Nat.le_refl _) (msg := .ref sa) rfl
    (g := { method := m, pc := pc + 7, locals := ls, stack := .ref sa :: .ref T.heap.size :: .ref T.heap.size :: rest, locked := none }) rfl hsize rfl rfl (rest := rest) rfl
    (by rw [hb]; exact d7) (by rw [hb]; exact d10) hout hRframes (by simp only [List.map_cons, List.sum_cons, hcat]; omega) hlocks
  obtain ⟨f1, f2⟩ := vx_frame hsame
  rw [hhp] at f1 f2
  have hWs : s.WarmedH U.vm := State.WarmedH.trans hW0 hW
  have hcl : s.vm.findClass cls = some ce.cls := by
    have h9 := hO.cls
    rw [hvm] at h9
    exact h9
  have hall : s.sameButNew ({ U with vm := s.vm } : State) locs mc ms := by
    subst hA
    obtain ⟨e1, e2⟩ := hsame
    rw [State.setFrames_setFrames] at e1
    have h2 : (T.setVm s.vm).sameButNew ({ U with vm := s.vm } : State) [] (0 + 1) (0 + 6) := ⟨e1, e2⟩
    have h3 := X.same.trans h2
    rw [List.append_nil] at h3
    exact h3.mono hc hs
  refine ⟨U, ?_, .threw T.heap.size, hrun, hend, Or.inr ⟨T.heap.size, rfl, cls, ce, locs, hx U hWs.alike f1 (fun q hq => f2 q hq (fun z hz => nomatch hz)), hce, hO.vm, hcl, hWs, hall, hf⟩⟩
  refine st1 _ ?_
  show Steps p.tables e below (T1.setTop { method := m, pc := pc + 3, locals := ls, stack := .ref T.heap.size :: rest, locked := none }) _
  jvm_step X₁.here [X₁.here.top, hexec, d3', Value.category]
  exact X₁.ldcStringW hexec (own := own) (text := text) (index := is) (a := sa) hown' hstr'.1 hstr'.2
    (g := { method := m, pc := pc + 4, locals := ls, stack := .ref T.heap.size :: .ref T.heap.size :: rest, locked := none }) rfl d4' _ hsteps
end Ends
section Bodies
variable {l : Launch}
theorem vx_ofW {y : MethodName} {ws ws' : List Cond} {rm : Room} {Pc : Array Value → State → Prop} {Qc : Array Value → State → Outcome → State → Prop} {XC : String → State → State → Prop} {mc ms : Nat} {free : Addr → Prop} {cc : ByteArray} {maxL : Nat} {ret : Option FieldType}
    (hy : plainName y.cls = true) (hw : ws = Cond.code y cc maxL ret :: ws')
    (body : ∀ p e s m args below meth c s₁, BodyLoose p l y (headSpec ws rm) cc maxL ret e s m args below meth c s₁ → c.maxLocals = maxL → (∀ x ∈ c.exceptionTable.toList, False) → Pc args s →
      W p l e (headSpec ws rm).room s m args below meth c s.heap [] 0 0 (vx_MQ below Qc XC args s mc ms free) (entryFrame m args maxL)) : vx_Met l y ws rm Pc Qc XC mc ms free := by
  refine MetFree.of_bodyS (code := cc) (maxLocals := maxL) (ret := ret) hy ?_ ?_
  · intro args s m h hn
    obtain ⟨meth, c, h1, h2, h3, h4, h5, h6, -, -⟩ := Cond.code_spec hn (atoms_spec (ws := ws) h _ (by rw [hw]; exact List.mem_cons_self))
    exact ⟨meth, c, h1, h2, h3, h4, h5, h6⟩
  · intro p e s m args below meth c s₁ B hml hP _
    have hh0 : s₁.heap = s.heap := by rw [B.state]; rfl
    have ht : ∀ x ∈ c.exceptionTable.toList, False := by
      obtain ⟨meth9, c9, h1, h2, -, -, -, -, h7, -⟩ := Cond.code_spec B.named (atoms_spec (ws := ws) B.pre _ (by rw [hw]; exact List.mem_cons_self))
      cases Option.some.inj (h1.symm.trans B.method)
      cases Option.some.inj (h2.symm.trans (Stand.of_body B).code)
      intro x hx
      rw [Array.isEmpty_iff.mp h7] at hx
      cases hx
    obtain ⟨t, a1, o, b1, b2, b3⟩ := body p e s m args below meth c s₁ B hml ht hP s₁ hh0 (Stand.of_body B)
    exact ⟨t, o, a1, b1, b2, b3⟩
/-- the table of a body with handlers -/
theorem vx_table {p : Program} {x y : MethodName} {S : Spec} {cc bytes : ByteArray} {maxL maxL' : Nat} {ret ret' : Option FieldType} {e : Env} {s s₁ : State} {m : MethodId} {args : Array Value} {below : List Frame} {meth : Method} {c : Code} {hh : List (Nat × Nat × Nat × Nat)}
    (B : BodyLoose p l y S cc maxL ret e s m args below meth c s₁) (h : (Cond.codeWith y bytes maxL' ret' hh).before args s = true) : c.exceptionTable.toList = tableOf hh := by
  obtain ⟨m9, meth9, c9, hn9, h1, h2, -, -, h6, -⟩ := Cond.codeWith_spec h
  cases Option.some.inj (hn9.symm.trans B.named)
  cases Option.some.inj (h1.symm.trans B.method)
  cases Option.some.inj (h2.symm.trans (Stand.of_body B).code)
  rw [← h6, table_eq]
end Bodies
end VXA
/-! ===== END ===== -/
/-! ===== BEGIN a static call of a method with an exception table ===== -/
section VXS
variable {p : Program} {l : Launch} {e : Env} {R : Room} {s : State} {m : MethodId} {args : Array Value} {below : List Frame} {meth : Method} {c : Code} {T : State} {H : Heap} {locs : List Loc} {cells slots : Nat}
abbrev vx_CSW (R : Room) (s : State) (args : Array Value) (own : String) (index : Nat) (y : MethodName) (bytes : ByteArray) (maxL : Nat) (ret : Option FieldType) (hh : List (Nat × Nat × Nat × Nat)) (ws : List Cond) (rm : Room) (mc ms n : Nat) : Prop :=
  (rm.cells = mc ∧ rm.slots = ms ∧ rm.frames + 1 ≤ R.frames ∧ 8 + (maxL + 11) + rm.locals ≤ R.locals ∧ (∀ w ∈ ws, ∀ (a' : Array Value) (U : State), s.WarmedH U.vm → w.before a' U = true) ∧ Cond.codeWith y bytes maxL ret hh ∈ ws) ∧
  (Cond.codeWith y bytes maxL ret hh).before args s = true ∧ (Cond.initialized y.cls).before args s = true ∧ (y.cls ≠ "java/lang/invoke/MethodHandle" ∧ y.cls ≠ "java/lang/invoke/VarHandle") ∧
  (∀ sig, parseMethodDescriptor y.desc = some sig → n = sig.parameters.length) ∧ (Cond.methodLink own index y).before args s = true ∧ (Cond.static y).before args s = true
theorem vx_cwSW {own : String} {index maxL mc ms : Nat} {y : MethodName} {bytes : ByteArray} {ret : Option FieldType} {hh : List (Nat × Nat × Nat × Nat)} {Ts ws ws' : List Cond} {rm : Room} (n : Nat) (ht : ∀ w ∈ Ts, w.before args s = true) (hT : GoodIn Ts (va_wsS own index y ws)) (hw : ws = Cond.codeWith y bytes maxL ret hh :: ws') (hrc : rm.cells = mc) (hrs : rm.slots = ms)
    (hd : y.cls ≠ "java/lang/invoke/MethodHandle" ∧ y.cls ≠ "java/lang/invoke/VarHandle" ∧ (parseMethodDescriptor y.desc).map (fun d => d.parameters.length) = some n) (hR : rm.frames + 1 ≤ R.frames ∧ 8 + (maxL + 11) + rm.locals ≤ R.locals) :
    vx_CSW R s args own index y bytes maxL ret hh ws rm mc ms n := by
  have ok : ∀ w ∈ va_wsS own index y ws, w.before args s = true := fun w h => ht w (hT w h).1
  have hG : GoodIn Ts ws := fun w h => hT w (by unfold va_wsS; exact List.mem_append_right _ h)
  have hc : Cond.codeWith y bytes maxL ret hh ∈ ws := by rw [hw]; exact List.mem_cons_self
  refine ⟨⟨hrc, hrs, hR.1, hR.2, pay_in ht hG, hc⟩, ht _ (hG _ hc).1, ok _ (by simp [va_wsS]), ⟨hd.1, hd.2.1⟩, fun sig h => ?_, ok _ (by simp [va_wsS]), ok _ (by simp [va_wsS])⟩
  have h2 := hd.2.2
  rw [h] at h2
  exact (Option.some.inj h2).symm
theorem vx_callSW (X : Stand p l e R s m args below meth c T locs cells slots) (hexec : p.tables.exec = Jvm.exec) {own : String} {index : Nat} {y : MethodName} {bytes : ByteArray} {maxL : Nat} {ret : Option FieldType} {hh : List (Nat × Nat × Nat × Nat)}
    (hown : s.vm.findClass own = some m.cls) (hlink : (Cond.methodLink own index y).before args s = true) (hstat : (Cond.static y).before args s = true) (hinit : (Cond.initialized y.cls).before args s = true)
    (hcode : (Cond.codeWith y bytes maxL ret hh).before args s = true) (hy : y.cls ≠ "java/lang/invoke/MethodHandle" ∧ y.cls ≠ "java/lang/invoke/VarHandle")
    {W9 : Nat} {Pre : Pt → Array Value → Prop} {Post : Pt → Array Value → Option Value → Pt → Prop} (hK : Back l R p e below s args y 3 W9 Pre Post)
    {g : JFrame} (hg : g.method = m) (hsize : g.locals.size = c.maxLocals) {argsL rest : List Value} (hlen : ∀ sig, parseMethodDescriptor y.desc = some sig → argsL.length = sig.parameters.length)
    (hstack : g.stack = argsL.reverse ++ rest) (hW : 2 * g.monitorRoom + (rest.map fun v => v.category).sum ≤ W9) (hdg : decode c.code g.pc = .ok (.invokestatic index, 3))
    (hpre : ∀ vm₁, s.WarmedH vm₁ → Pre ⟨T.setVm vm₁, locs, cells, slots⟩ argsL.toArray) :
    ∃ (v : Option Value) (vm₁ : Vm) (B : Pt), s.WarmedH vm₁ ∧ Stand p l e R s m args below meth c B.U B.locs B.cells B.slots ∧ Post ⟨T.setVm vm₁, locs, cells, slots⟩ argsL.toArray v B ∧
      ∀ target, Steps p.tables e below (B.U.setTop { g with pc := g.pc + 3, stack := v.toList ++ rest }) target → Steps p.tables e below (T.setTop g) target := by
  obtain ⟨mk, methM, cM, hnamed, hmethM, -, -, -, -, -, -, hsigM⟩ := Cond.codeWith_spec hcode
  have hstatic : methM.isStatic = true := Cond.static_spec hnamed hmethM hstat
  obtain ⟨kP, hkP, -⟩ := className_of_methodNamed hnamed
  have hinitP : kP.init = .initialized := Cond.initialized_spec (findClass_of_methodNamed hnamed) hkP hinit
  obtain ⟨vm₁, X₁, hstep₁⟩ := X.invokestatic hexec hown hlink hnamed hmethM hstatic hkP hinitP hy (g := g) hg (argsL := argsL) (rest := rest) (hlen _ hsigM) hstack hdg
  obtain ⟨v, B, X', hpost, hsteps⟩ := hK m meth c ⟨T.setVm vm₁, locs, cells, slots⟩ { g with stack := rest } (.invokestatic index) mk argsL.toArray X₁ hg hsize hdg hW (X₁.named hnamed) (hpre vm₁ X₁.warmed)
  exact ⟨v, vm₁, B, X₁.warmed, X', hpost, fun target h => hstep₁ _ fun acts => by rw [doInvoke_state]; exact hsteps.trans h⟩
theorem vx_runSW {y : MethodName} {bytes cc : ByteArray} {maxL nL mc ms n index : Nat} {ret : Option FieldType} {hh : List (Nat × Nat × Nat × Nat)} {ws : List Cond} {rm : Room} {Pc : Array Value → State → Prop} {Qc : Array Value → State → Outcome → State → Prop} {free : Addr → Prop} {Ts : List Cond} {own : String} {As rest : List Value} {g : JFrame}
    (S : CallFix p m c cc nL s args Ts own) (hM : Met l y ws rm Pc Qc mc ms free) (cw : vx_CSW R s args own index y bytes maxL ret hh ws rm mc ms n) (hp : PreS s H Pc As)
    (hg : g.method = m) (hn : As.length = n) (hsize : g.locals.size = nL) (hstack : g.stack = As.reverse ++ rest) (hW : 2 * g.monitorRoom + (rest.map fun v => v.category).sum ≤ 8) (hdg : decode cc g.pc = .ok (.invokestatic index, 3)) (hf : cells + mc ≤ R.cells ∧ slots + ms ≤ R.slots) :
    va_Run p l e R s m args below meth c H locs cells slots mc ms g rest (Qc As.toArray) (free) := by
  obtain ⟨⟨hrc, hrs, hfr, hlo, hws, hcw⟩, hcode, hini, hy, hlen, hl, hstt⟩ := cw
  have hK : Back l R p e below s args y 3 8 (PreOf R mc ms Pc) (PostOf Qc mc ms free) := va_backW (hh := hh) (bytes := bytes) (maxL := maxL) (ret := ret) hM hp.1 hrc hrs hfr hlo hws hcw (fun a' U hW => word_at hW (Or.inl (by first | rfl | simp [Cond.onTables, Cond.keeps, Cond.steady])) hini)
  obtain ⟨hx, hb, hml, ho, -⟩ := S
  intro T hT X
  obtain ⟨v, vm₁, ⟨U', l2, c2, s2⟩, hW₁, X', ⟨g', mk, t, L, e1, e2, hq, h1, hL, h2, h3⟩, st⟩ := vx_callSW X hx (hh := hh) (bytes := bytes) (maxL := maxL) (ret := ret) ho hl hstt hini hcode hy hK hg (hsize.trans hml.symm) (argsL := As) (rest := rest) (fun sig h => hn.trans (hlen sig h)) hstack hW (by rw [hb]; exact hdg)
    (fun vm₁ hW₁ => ⟨hf.1, hf.2, hp.2 (T.setVm vm₁) hT hW₁⟩)
  dsimp only [Pt.U, Pt.locs, Pt.cells, Pt.slots] at X' e1 e2 h1 h2 h3 st
  subst h1; subst h2; subst h3
  exact ⟨v, (T.setVm vm₁).calling g' mk As.toArray, t, U', L, hT, X', hL, e1, e2, hq, st⟩
/-- not caught here, past rows that name other classes: it goes on to the caller -/
theorem vx_outP {p : Program} {l : Launch} {e : Env} {R : Room} {s : State} {m : MethodId} {args : Array Value} {below : List Frame} {meth : Method} {c : Code} {H : Heap} {locs : List Loc} {cells slots : Nat} {free : Addr → Prop} {ls : Array Slot} {rest : List Value} {Qc : Array Value → State → Outcome → State → Prop} {XC : String → State → State → Prop}
    {pc : Nat} {own E : String} {ce : Cell} {q : Addr} {mc ms : Nat} (hown : s.vm.findClass own = some m.cls) (hlocks : meth.locks = false)
    (hpass : ∀ z ∈ c.exceptionTable.toList, covers z pc = false ∨ (z.catchType ≠ 0 ∧ ∃ nm : String, (Cond.classLink own z.catchType nm).before args s = true ∧ va_Nc E nm s)) (hcell : H[q]? = some ce) (hv : ce.vm = .none) (hcl : s.vm.findClass E = some ce.cls)
    (hx : ∀ t : State, t.heap = H → s.vm.Alike t.vm → XC E s t) (hf : ∀ z ∈ locs, free z.base) (hc : cells ≤ mc) (hs : slots ≤ ms) :
    vx_W p l e R s m args below meth c H locs cells slots (vx_MQ below Qc XC args s mc ms free) (F0 m pc ls rest) q := by
  intro T hT X
  have hpl : e.platform.magicAccessors = ({} : Platform).magicAccessors := by rw [X.admits.platform]
  obtain ⟨vm', hW', X', st⟩ := X.outThrough hlocks q (g := F0 m pc ls rest) rfl rfl rfl (cell := ce) (by rw [hT]; exact hcell) (by rw [hv]; rfl)
    (by obtain ⟨k9, h9, -⟩ := Vm.findClass_spec hcl; exact ⟨k9, h9⟩) (fun z hz => by
      rcases hpass z hz with h | ⟨hz0, nm, hl1, hn1⟩
      · exact Or.inl h
      · obtain ⟨c6, hc6, hcl6⟩ := Cond.classLink_spec hown hl1 e.platform hpl
        obtain ⟨a8, b8, h1, h2, h3⟩ := hn1
        cases Option.some.inj (h1.symm.trans hcl)
        cases Option.some.inj (h2.symm.trans hc6)
        exact Or.inr ⟨hz0, _, hcl6, h3⟩)
  obtain ⟨g₀, hfr⟩ := X'.frames_eq
  have hcell9 : ((T.setVm vm').setFrames (.throwing q :: below)).heap[q]? = some ce := by
    show T.heap[q]? = some ce
    rw [hT]; exact hcell
  have hend : Ended ((T.setVm vm').setFrames (.throwing q :: below)) below (.threw q) := State.frames_setFrames _ (State.cur_lt_of_frames hfr)
  refine ⟨(T.setVm vm').setFrames (.throwing q :: below), ?_, .threw q, X'.here.running, hend, Or.inr ⟨q, rfl, E, ce, locs, hx _ hT (X'.ends _).1.alike, hcell9, hv, hcl, (X'.ends _).1, (X'.ends _).2.mono hc hs, hf⟩⟩
  rw [X.pushThrowing_eq]
  exact st
/-- a thing of a world lies in the heap -/
theorem vx_lt {D : va_G} {cl : List vw_C} {ws : va_W} {H1 : Heap} (h : va_P D cl ws H1) {k : Nat} {q : Nat × va_E} (hk : ws[k]? = some q) : q.1 < H1.size := (h k q hk).lt
end VXS
/-! ===== END ===== -/
/-! ===== BEGIN methods with a table of their own: called by a name, returning or throwing ===== -/
section VXH
/-! vx_backW, vx_callVX, vx_callSX, vx_callVW, vx_runVW, vx_runVX, vx_runSX, vx_ofWH follow the same proofs as their sisters above (Free/Laws.lean, Shelf42/LK1.lean); vx_outP calls Shelf42/NT130.lean (outThrough). -/
section
variable {l : Launch} {R : Room} {p : Program} {e : Env} {below : List Frame} {s : State} {sargs : Array Value} {y : MethodName} {len W9 : Nat}
theorem vx_backW {ws : List Cond} {rm : Room} {Pc : Array Value → State → Prop} {Qc : Array Value → State → Outcome → State → Prop} {XC : String → State → State → Prop} {mc ms : Nat} {free : Addr → Prop} {bytes : ByteArray} {maxL : Nat} {ret : Option FieldType} {hh : List (Nat × Nat × Nat × Nat)}
    (hM : vx_Met l y ws rm Pc Qc XC mc ms free) (hblind : FrameBlind Pc) (hrc : rm.cells = mc) (hrs : rm.slots = ms)
    (hframes : rm.frames + 1 ≤ R.frames) (hlocals : W9 + (maxL + 11) + rm.locals ≤ R.locals)
    (hws : ∀ w ∈ ws, ∀ a' U, s.WarmedH U.vm → w.before a' U = true) (hcode : Cond.codeWith y bytes maxL ret hh ∈ ws) (hinit : ∀ a' U, s.WarmedH U.vm → (Cond.initialized y.cls).before a' U = true) :
    vx_Back l R p e below s sargs y len W9 (PreOf R mc ms Pc) (PostOf Qc mc ms free) (vx_Post XC mc ms free) := by
  intro m meth c A g ig mk a X hg hsize hdg hW hn hp
  have h1 : (headSpec ws rm).pre.before a A.U = true := atoms_intro fun w hw => hws w hw _ _ X.warmed
  have h2 : (Cond.codeWith y bytes maxL ret hh).before a A.U = true := hws _ hcode _ _ X.warmed
  have h3 : (Cond.initialized y.cls).before a A.U = true := hinit _ _ X.warmed
  have h4 : A.cells + (headSpec ws rm).room.cells ≤ R.cells := by rw [show (headSpec ws rm).room.cells = mc from hrc]; exact hp.1
  have h5 : A.slots + (headSpec ws rm).room.slots ≤ R.slots := by rw [show (headSpec ws rm).room.slots = ms from hrs]; exact hp.2.1
  have hPc : Pc a (A.U.calling g mk a) := hblind _ _ _ _ hp.2.2
  obtain ⟨U, Ls, c0, s0⟩ := A
  dsimp only [Pt.U, Pt.locs, Pt.cells, Pt.slots] at h1 h2 h3 h4 h5 X hn hPc ⊢
  obtain ⟨m9, methY, cY, hn9, hmY, hcY, -, hlY, -⟩ := Cond.codeWith_spec h2
  cases Option.some.inj (hn9.symm.trans hn)
  obtain ⟨kY, hkY, -⟩ := className_of_methodNamed hn
  have hinitY : kY.init = .initialized := Cond.initialized_spec (findClass_of_methodNamed hn) hkY h3
  have h : At U g.method c below := by rw [hg]; exact X.here
  have hlocals9 : W9 + (maxL + 11) + (headSpec ws rm).room.locals ≤ R.locals := hlocals
  have happ : (headSpec ws rm).appliesLoose y e.platform (U.calling g mk a) = true :=
    Spec.appliesLoose_calling (g := g) h hdg hn hkY hinitY
      (X.room_calling (g := g) (R' := (headSpec ws rm).room) hsize hmY hcY hframes (by rw [hlY]; omega) h4 h5) h1
  obtain ⟨mid, hmid⟩ := h.above
  have hfr : (U.setTop g).frames = (.java g :: mid) ++ below := by rw [State.frames_setTop' g h.top, hmid]; rfl
  obtain ⟨o, s₂, hsteps, -, hend, hq⟩ := Steps.callFree hM p X.admits X.cas X.clock (acts := []) hfr happ hPc trivial
  have hq' : vx_Q Qc XC mc ms free a (U.calling g mk a) o s₂ := hq
  rw [State.frames_setTop' g h.top] at hend
  obtain ⟨g₀, hg0⟩ := Option.isSome_iff_exists.mp h.top
  obtain ⟨r, hr⟩ := State.topJava?_eq_some.mp hg0
  have hr' : (({ U with heap := s₂.heap, slotsUsed := s₂.slotsUsed } : State).setVm s₂.vm).frames = .java g₀ :: r := hr
  rcases hq' with ⟨hqc, L, hfe, hL⟩ | ⟨q, rfl, E, ce, L, hx, hce, hcv, hcl, hW₂, hsm, hL⟩
  · obtain ⟨⟨v, rfl⟩, hW₂, e2, q2, q3, q4, q5, q6⟩ := id hfe
    have e3 : s₂ = ({ (U.calling g mk a).setFrames s₂.frames with heap := s₂.heap, slotsUsed := s₂.slotsUsed } : State).setVm s₂.vm := by
      have : s₂ = ({ s₂ with vm := (U.calling g mk a).vm } : State).setVm s₂.vm := rfl
      rw [e2] at this
      exact this
    obtain ⟨c₂, i₂, len₂, hc₂, hd₂, hf₂⟩ := hend
    have hW' : U.WarmedH s₂.vm := hW₂
    have hcc : c₂ = c := by
      have h1 : s₂.code? g.method = U.code? g.method := by
        rw [State.code?_eq, State.code?_eq, hW'.alike.method?]
      exact Option.some.inj (hc₂.symm.trans (h1.trans h.code))
    subst hcc
    have hlen : len₂ = len := by rw [hdg] at hd₂; cases hd₂; rfl
    subst hlen
    have hs₂ : s₂ = (({ U with heap := s₂.heap, slotsUsed := s₂.slotsUsed } : State).setVm s₂.vm).setTop { g with pc := g.pc + len₂, stack := v.toList ++ g.stack } := by
      refine e3.trans ?_
      rw [hf₂, State.calling_eq h.top, State.setFrames_setFrames, State.setTop_of_frames _ hr', hr]
      rfl
    have hsame : U.sameButNew ({ U with heap := s₂.heap, slotsUsed := s₂.slotsUsed } : State) L mc ms := by
      refine ⟨?_, q2, q3, q4, q5, q6⟩
      obtain ⟨t, ht, -⟩ := State.frames_cons hr
      show ({ U with heap := s₂.heap, slotsUsed := s₂.slotsUsed } : State) = { U.setFrames U.frames with heap := s₂.heap, slotsUsed := s₂.slotsUsed }
      rw [State.setFrames_self ht]
    subst hg
    refine Or.inl ⟨v, ⟨(({ U with heap := s₂.heap, slotsUsed := s₂.slotsUsed } : State).setVm s₂.vm), Ls ++ L, c0 + mc, s0 + ms⟩,
      ⟨X.admits, X.cas, X.clock, X.frames, X.room, X.hears, X.method, X.code, (X.here.setHeapUsed s₂.heap s₂.slotsUsed).setVm hW'.alike, X.tail, State.WarmedH.trans X.warmed hW', X.limits, X.bytes, X.same.trans (hsame.setVm s.vm)⟩,
      ⟨g, mk, s₂, L, rfl, rfl, hqc, rfl, hL, rfl, rfl⟩, ?_⟩
    show Steps p.tables e below _ ((({ U with heap := s₂.heap, slotsUsed := s₂.slotsUsed } : State).setVm s₂.vm).setTop { g with pc := g.pc + len₂, stack := v.toList ++ g.stack })
    rw [← hs₂]
    exact hsteps
  · obtain ⟨e2, q2, q3, q4, q5, q6⟩ := id hsm
    have e3 : s₂ = ({ (U.calling g mk a).setFrames s₂.frames with heap := s₂.heap, slotsUsed := s₂.slotsUsed } : State).setVm s₂.vm := by
      have : s₂ = ({ s₂ with vm := (U.calling g mk a).vm } : State).setVm s₂.vm := rfl
      rw [e2] at this
      exact this
    have hf₂ : s₂.frames = .throwing q :: .java g :: U.frames.tail := hend
    have hW' : U.WarmedH s₂.vm := hW₂
    have hs₂ : s₂ = ((({ U with heap := s₂.heap, slotsUsed := s₂.slotsUsed } : State).setVm s₂.vm).setTop g).pushFrame (.throwing q) := by
      refine e3.trans ?_
      rw [hf₂, State.calling_eq h.top, State.setFrames_setFrames, State.pushFrame, State.frames_setTop _ hr', State.setTop_of_frames _ hr', State.setFrames_setFrames, hr]
      rfl
    have hsame : U.sameButNew ({ U with heap := s₂.heap, slotsUsed := s₂.slotsUsed } : State) L mc ms := by
      refine ⟨?_, q2, q3, q4, q5, q6⟩
      obtain ⟨t, ht, -⟩ := State.frames_cons hr
      show ({ U with heap := s₂.heap, slotsUsed := s₂.slotsUsed } : State) = { U.setFrames U.frames with heap := s₂.heap, slotsUsed := s₂.slotsUsed }
      rw [State.setFrames_self ht]
    subst hg
    refine Or.inr ⟨q, ⟨(({ U with heap := s₂.heap, slotsUsed := s₂.slotsUsed } : State).setVm s₂.vm), Ls ++ L, c0 + mc, s0 + ms⟩,
      ⟨X.admits, X.cas, X.clock, X.frames, X.room, X.hears, X.method, X.code, (X.here.setHeapUsed s₂.heap s₂.slotsUsed).setVm hW'.alike, X.tail, State.WarmedH.trans X.warmed hW', X.limits, X.bytes, X.same.trans (hsame.setVm s.vm)⟩,
      ⟨g, mk, s₂, L, E, ce, rfl, rfl, hx, hce, hcv, hcl, rfl, hL, rfl, rfl⟩, ?_⟩
    show Steps p.tables e below _ (((({ U with heap := s₂.heap, slotsUsed := s₂.slotsUsed } : State).setVm s₂.vm).setTop g).pushFrame (.throwing q))
    rw [← hs₂]
    exact hsteps
end
variable {p : Program} {l : Launch} {e : Env} {R : Room} {s : State} {m : MethodId} {args : Array Value} {below : List Frame} {meth : Method} {c : Code} {T : State} {H : Heap} {locs : List Loc} {cells slots : Nat}
theorem vx_callVX (X : Stand p l e R s m args below meth c T locs cells slots) (hexec : p.tables.exec = Jvm.exec) {own C : String} {index : Nat} {y : MethodName} {bytes : ByteArray} {maxL : Nat} {ret : Option FieldType} {hh : List (Nat × Nat × Nat × Nat)}
    (hown : s.vm.findClass own = some m.cls) (hlink : (Cond.methodLink own index y).before args s = true) (hinst : (Cond.instanceMethod y).before args s = true) (hsel : (Cond.selects C y y).before args s = true)
    (hcode : (Cond.codeWith y bytes maxL ret hh).before args s = true) (hy : y.cls ≠ "java/lang/invoke/MethodHandle" ∧ y.cls ≠ "java/lang/invoke/VarHandle")
    {W9 : Nat} {Pre : Pt → Array Value → Prop} {Post : Pt → Array Value → Option Value → Pt → Prop} {PostX : Pt → Array Value → Addr → Pt → Prop} (hK : vx_Back l R p e below s args y 3 W9 Pre Post PostX)
    {b : Addr} {cellB : Cell} (hcell : T.heap[b]? = some cellB) (hobj : cellB.vm.isStatics = false) (hcls : s.vm.findClass C = some cellB.cls)
    {g : JFrame} (hg : g.method = m) (hsize : g.locals.size = c.maxLocals) {argsL rest : List Value} (hlen : ∀ sig, parseMethodDescriptor y.desc = some sig → argsL.length = sig.parameters.length)
    (hstack : g.stack = argsL.reverse ++ .ref b :: rest) (hW : 2 * g.monitorRoom + (rest.map fun v => v.category).sum ≤ W9) (hdg : decode c.code g.pc = .ok (.invokevirtual index, 3))
    (hpre : ∀ vm₁, s.WarmedH vm₁ → Pre ⟨T.setVm vm₁, locs, cells, slots⟩ (Value.ref b :: argsL).toArray) :
    (∃ (v : Option Value) (vm₁ : Vm) (B : Pt), s.WarmedH vm₁ ∧ Stand p l e R s m args below meth c B.U B.locs B.cells B.slots ∧ Post ⟨T.setVm vm₁, locs, cells, slots⟩ (Value.ref b :: argsL).toArray v B ∧
      ∀ target, Steps p.tables e below (B.U.setTop { g with pc := g.pc + 3, stack := v.toList ++ rest }) target → Steps p.tables e below (T.setTop g) target) ∨
    (∃ (q : Addr) (vm₁ : Vm) (B : Pt), s.WarmedH vm₁ ∧ Stand p l e R s m args below meth c B.U B.locs B.cells B.slots ∧ PostX ⟨T.setVm vm₁, locs, cells, slots⟩ (Value.ref b :: argsL).toArray q B ∧
      Steps p.tables e below (T.setTop g) ((B.U.setTop { g with stack := rest }).pushFrame (.throwing q))) := by
  obtain ⟨mk, methM, hnamed, hmethM, hstM, habM⟩ := Cond.instanceMethod_spec hinst
  obtain ⟨m8, methM', cM, hn8, hmethM', -, -, -, -, -, -, hsigM⟩ := Cond.codeWith_spec hcode
  cases Option.some.inj (hn8.symm.trans hnamed)
  cases hmethM.symm.trans hmethM'
  obtain ⟨c2, r2, m2, q1, q2, q3, q4, kP, hkP, hkPi⟩ := Cond.selects_spec hsel
  cases hcls.symm.trans q1
  cases (State.methodFound?_of_named hnamed hy).symm.trans q2
  cases hnamed.symm.trans q3
  have hselP : selectMethod e.platform s.vm cellB.cls mk = .method mk := by rw [Launch.admits_selectMethod X.admits]; exact q4
  obtain ⟨vm₁, X₁, hstep₁⟩ := X.invokevirtual hexec hown hlink hnamed hmethM hstM hkP hkPi hy (a := b) (cell := cellB) hcell
    (fun z h => by rw [h] at hobj; cases hobj) hselP hmethM habM hkP hkPi (g := g) hg (argsL := argsL) (rest := rest) (hlen _ hsigM) hstack hdg
  rcases hK m meth c ⟨T.setVm vm₁, locs, cells, slots⟩ { g with stack := rest } (.invokevirtual index) mk (Value.ref b :: argsL).toArray X₁ hg hsize hdg hW (X₁.named hnamed) (hpre vm₁ X₁.warmed) with ⟨v, B, X', hpost, hsteps⟩ | ⟨q, B, X', hpost, hsteps⟩
  · exact Or.inl ⟨v, vm₁, B, X₁.warmed, X', hpost, fun target h => hstep₁ _ fun acts => by rw [doInvoke_state]; exact hsteps.trans h⟩
  · exact Or.inr ⟨q, vm₁, B, X₁.warmed, X', hpost, hstep₁ _ fun acts => by rw [doInvoke_state]; exact hsteps⟩
theorem vx_callSX (X : Stand p l e R s m args below meth c T locs cells slots) (hexec : p.tables.exec = Jvm.exec) {own : String} {index : Nat} {y : MethodName} {bytes : ByteArray} {maxL : Nat} {ret : Option FieldType} {hh : List (Nat × Nat × Nat × Nat)}
    (hown : s.vm.findClass own = some m.cls) (hlink : (Cond.methodLink own index y).before args s = true) (hstat : (Cond.static y).before args s = true) (hinit : (Cond.initialized y.cls).before args s = true)
    (hcode : (Cond.codeWith y bytes maxL ret hh).before args s = true) (hy : y.cls ≠ "java/lang/invoke/MethodHandle" ∧ y.cls ≠ "java/lang/invoke/VarHandle")
    {W9 : Nat} {Pre : Pt → Array Value → Prop} {Post : Pt → Array Value → Option Value → Pt → Prop} {PostX : Pt → Array Value → Addr → Pt → Prop} (hK : vx_Back l R p e below s args y 3 W9 Pre Post PostX)
    {g : JFrame} (hg : g.method = m) (hsize : g.locals.size = c.maxLocals) {argsL rest : List Value} (hlen : ∀ sig, parseMethodDescriptor y.desc = some sig → argsL.length = sig.parameters.length)
    (hstack : g.stack = argsL.reverse ++ rest) (hW : 2 * g.monitorRoom + (rest.map fun v => v.category).sum ≤ W9) (hdg : decode c.code g.pc = .ok (.invokestatic index, 3))
    (hpre : ∀ vm₁, s.WarmedH vm₁ → Pre ⟨T.setVm vm₁, locs, cells, slots⟩ argsL.toArray) :
    (∃ (v : Option Value) (vm₁ : Vm) (B : Pt), s.WarmedH vm₁ ∧ Stand p l e R s m args below meth c B.U B.locs B.cells B.slots ∧ Post ⟨T.setVm vm₁, locs, cells, slots⟩ argsL.toArray v B ∧
      ∀ target, Steps p.tables e below (B.U.setTop { g with pc := g.pc + 3, stack := v.toList ++ rest }) target → Steps p.tables e below (T.setTop g) target) ∨
    (∃ (q : Addr) (vm₁ : Vm) (B : Pt), s.WarmedH vm₁ ∧ Stand p l e R s m args below meth c B.U B.locs B.cells B.slots ∧ PostX ⟨T.setVm vm₁, locs, cells, slots⟩ argsL.toArray q B ∧
      Steps p.tables e below (T.setTop g) ((B.U.setTop { g with stack := rest }).pushFrame (.throwing q))) := by
  obtain ⟨mk, methM, cM, hnamed, hmethM, -, -, -, -, -, -, hsigM⟩ := Cond.codeWith_spec hcode
  have hstatic : methM.isStatic = true := Cond.static_spec hnamed hmethM hstat
  obtain ⟨kP, hkP, -⟩ := className_of_methodNamed hnamed
  have hinitP : kP.init = .initialized := Cond.initialized_spec (findClass_of_methodNamed hnamed) hkP hinit
  obtain ⟨vm₁, X₁, hstep₁⟩ := X.invokestatic hexec hown hlink hnamed hmethM hstatic hkP hinitP hy (g := g) hg (argsL := argsL) (rest := rest) (hlen _ hsigM) hstack hdg
  rcases hK m meth c ⟨T.setVm vm₁, locs, cells, slots⟩ { g with stack := rest } (.invokestatic index) mk argsL.toArray X₁ hg hsize hdg hW (X₁.named hnamed) (hpre vm₁ X₁.warmed) with ⟨v, B, X', hpost, hsteps⟩ | ⟨q, B, X', hpost, hsteps⟩
  · exact Or.inl ⟨v, vm₁, B, X₁.warmed, X', hpost, fun target h => hstep₁ _ fun acts => by rw [doInvoke_state]; exact hsteps.trans h⟩
  · exact Or.inr ⟨q, vm₁, B, X₁.warmed, X', hpost, hstep₁ _ fun acts => by rw [doInvoke_state]; exact hsteps⟩
theorem vx_callVW (X : Stand p l e R s m args below meth c T locs cells slots) (hexec : p.tables.exec = Jvm.exec) {own C : String} {index : Nat} {y : MethodName} {bytes : ByteArray} {maxL : Nat} {ret : Option FieldType} {hh : List (Nat × Nat × Nat × Nat)}
    (hown : s.vm.findClass own = some m.cls) (hlink : (Cond.methodLink own index y).before args s = true) (hinst : (Cond.instanceMethod y).before args s = true) (hsel : (Cond.selects C y y).before args s = true)
    (hcode : (Cond.codeWith y bytes maxL ret hh).before args s = true) (hy : y.cls ≠ "java/lang/invoke/MethodHandle" ∧ y.cls ≠ "java/lang/invoke/VarHandle")
    {W9 : Nat} {Pre : Pt → Array Value → Prop} {Post : Pt → Array Value → Option Value → Pt → Prop} (hK : Back l R p e below s args y 3 W9 Pre Post)
    {b : Addr} {cellB : Cell} (hcell : T.heap[b]? = some cellB) (hobj : cellB.vm.isStatics = false) (hcls : s.vm.findClass C = some cellB.cls)
    {g : JFrame} (hg : g.method = m) (hsize : g.locals.size = c.maxLocals) {argsL rest : List Value} (hlen : ∀ sig, parseMethodDescriptor y.desc = some sig → argsL.length = sig.parameters.length)
    (hstack : g.stack = argsL.reverse ++ .ref b :: rest) (hW : 2 * g.monitorRoom + (rest.map fun v => v.category).sum ≤ W9) (hdg : decode c.code g.pc = .ok (.invokevirtual index, 3))
    (hpre : ∀ vm₁, s.WarmedH vm₁ → Pre ⟨T.setVm vm₁, locs, cells, slots⟩ (Value.ref b :: argsL).toArray) :
    ∃ (v : Option Value) (vm₁ : Vm) (B : Pt), s.WarmedH vm₁ ∧ Stand p l e R s m args below meth c B.U B.locs B.cells B.slots ∧ Post ⟨T.setVm vm₁, locs, cells, slots⟩ (Value.ref b :: argsL).toArray v B ∧
      ∀ target, Steps p.tables e below (B.U.setTop { g with pc := g.pc + 3, stack := v.toList ++ rest }) target → Steps p.tables e below (T.setTop g) target := by
  obtain ⟨mk, methM, hnamed, hmethM, hstM, habM⟩ := Cond.instanceMethod_spec hinst
  obtain ⟨m8, methM', cM, hn8, hmethM', -, -, -, -, -, -, hsigM⟩ := Cond.codeWith_spec hcode
  cases Option.some.inj (hn8.symm.trans hnamed)
  cases hmethM.symm.trans hmethM'
  obtain ⟨c2, r2, m2, q1, q2, q3, q4, kP, hkP, hkPi⟩ := Cond.selects_spec hsel
  cases hcls.symm.trans q1
  cases (State.methodFound?_of_named hnamed hy).symm.trans q2
  cases hnamed.symm.trans q3
  have hselP : selectMethod e.platform s.vm cellB.cls mk = .method mk := by rw [Launch.admits_selectMethod X.admits]; exact q4
  obtain ⟨vm₁, X₁, hstep₁⟩ := X.invokevirtual hexec hown hlink hnamed hmethM hstM hkP hkPi hy (a := b) (cell := cellB) hcell
    (fun z h => by rw [h] at hobj; cases hobj) hselP hmethM habM hkP hkPi (g := g) hg (argsL := argsL) (rest := rest) (hlen _ hsigM) hstack hdg
  obtain ⟨v, B, X', hpost, hsteps⟩ := hK m meth c ⟨T.setVm vm₁, locs, cells, slots⟩ { g with stack := rest } (.invokevirtual index) mk (Value.ref b :: argsL).toArray X₁ hg hsize hdg hW (X₁.named hnamed) (hpre vm₁ X₁.warmed)
  exact ⟨v, vm₁, B, X₁.warmed, X', hpost, fun target h => hstep₁ _ fun acts => by rw [doInvoke_state]; exact hsteps.trans h⟩
abbrev vx_CVW (R : Room) (s : State) (args : Array Value) (own C : String) (index : Nat) (y : MethodName) (bytes : ByteArray) (maxL : Nat) (ret : Option FieldType) (hh : List (Nat × Nat × Nat × Nat)) (ws : List Cond) (rm : Room) (mc ms n : Nat) : Prop :=
  (rm.cells = mc ∧ rm.slots = ms ∧ rm.frames + 1 ≤ R.frames ∧ 8 + (maxL + 11) + rm.locals ≤ R.locals ∧ (∀ w ∈ ws, ∀ (a' : Array Value) (U : State), s.WarmedH U.vm → w.before a' U = true) ∧ Cond.codeWith y bytes maxL ret hh ∈ ws) ∧
  (Cond.codeWith y bytes maxL ret hh).before args s = true ∧ (Cond.initialized y.cls).before args s = true ∧ (y.cls ≠ "java/lang/invoke/MethodHandle" ∧ y.cls ≠ "java/lang/invoke/VarHandle") ∧
  (∀ sig, parseMethodDescriptor y.desc = some sig → n = sig.parameters.length) ∧ (Cond.methodLink own index y).before args s = true ∧ (Cond.instanceMethod y).before args s = true ∧ (Cond.selects C y y).before args s = true
theorem vx_cwVW {own C : String} {index maxL mc ms : Nat} {y : MethodName} {bytes : ByteArray} {ret : Option FieldType} {hh : List (Nat × Nat × Nat × Nat)} {Ts ws ws' : List Cond} {rm : Room} (n : Nat) (ht : ∀ w ∈ Ts, w.before args s = true) (hT : GoodIn Ts (wsV own index C y ws)) (hw : ws = Cond.codeWith y bytes maxL ret hh :: ws') (hrc : rm.cells = mc) (hrs : rm.slots = ms)
    (hd : y.cls = C ∧ y.cls ≠ "java/lang/invoke/MethodHandle" ∧ y.cls ≠ "java/lang/invoke/VarHandle" ∧ (parseMethodDescriptor y.desc).map (fun d => d.parameters.length) = some n) (hR : rm.frames + 1 ≤ R.frames ∧ 8 + (maxL + 11) + rm.locals ≤ R.locals) :
    vx_CVW R s args own C index y bytes maxL ret hh ws rm mc ms n := by
  obtain ⟨hC, hd⟩ := hd
  subst hC
  have ok : ∀ w ∈ wsV own index y.cls y ws, w.before args s = true := fun w h => ht w (hT w h).1
  have hG : GoodIn Ts ws := fun w h => hT w (by unfold wsV; exact List.mem_append_right _ h)
  have hc : Cond.codeWith y bytes maxL ret hh ∈ ws := by rw [hw]; exact List.mem_cons_self
  refine ⟨⟨hrc, hrs, hR.1, hR.2, pay_in ht hG, hc⟩, ht _ (hG _ hc).1, ok _ (by simp [wsV]), ⟨hd.1, hd.2.1⟩, fun sig h => ?_, ok _ (by simp [wsV]), ok _ (by simp [wsV]), ok _ (by simp [wsV])⟩
  have h2 := hd.2.2
  rw [h] at h2
  exact (Option.some.inj h2).symm
theorem vx_runVW {y : MethodName} {bytes cc : ByteArray} {maxL nL mc ms n index : Nat} {ret : Option FieldType} {hh : List (Nat × Nat × Nat × Nat)} {ws : List Cond} {rm : Room} {Pc : Array Value → State → Prop} {Qc : Array Value → State → Outcome → State → Prop} {free : Addr → Prop} {Ts : List Cond} {own C : String} {b : Addr} {As rest : List Value} {g : JFrame}
    (S : CallFix p m c cc nL s args Ts own) (hM : Met l y ws rm Pc Qc mc ms free) (cw : vx_CVW R s args own C index y bytes maxL ret hh ws rm mc ms n) (hp : PreV s H C b Pc As)
    (hg : g.method = m) (hn : As.length = n) (hsize : g.locals.size = nL) (hstack : g.stack = As.reverse ++ .ref b :: rest) (hW : 2 * g.monitorRoom + (rest.map fun v => v.category).sum ≤ 8) (hdg : decode cc g.pc = .ok (.invokevirtual index, 3)) (hf : cells + mc ≤ R.cells ∧ slots + ms ≤ R.slots) :
    va_Run p l e R s m args below meth c H locs cells slots mc ms g rest (Qc (Value.ref b :: As).toArray) free := by
  obtain ⟨⟨hrc, hrs, hfr, hlo, hws, hcw⟩, hcode, hini, hy, hlen, hl, hin, hse⟩ := cw
  have hK : Back l R p e below s args y 3 8 (PreOf R mc ms Pc) (PostOf Qc mc ms free) := va_backW (hh := hh) (bytes := bytes) (maxL := maxL) (ret := ret) hM hp.1 hrc hrs hfr hlo hws hcw (fun a' U hW => word_at hW (Or.inl (by first | rfl | simp [Cond.onTables, Cond.keeps, Cond.steady])) hini)
  obtain ⟨hx, hb, hml, ho, -⟩ := S
  obtain ⟨-, ⟨cellB, hcB, hoB, hclB⟩, hPc⟩ := hp
  intro T hT X
  obtain ⟨v, vm₁, ⟨U', l2, c2, s2⟩, hW₁, X', ⟨g', mk, t, L, e1, e2, hq, h1, hL, h2, h3⟩, st⟩ := vx_callVW X hx (C := C) (hh := hh) (bytes := bytes) (maxL := maxL) (ret := ret) ho hl hin hse hcode hy hK (by rw [hT]; exact hcB) hoB hclB hg (hsize.trans hml.symm) (argsL := As) (rest := rest) (fun sig h => hn.trans (hlen sig h)) hstack hW (by rw [hb]; exact hdg)
    (fun vm₁ hW₁ => ⟨hf.1, hf.2, hPc (T.setVm vm₁) hT hW₁⟩)
  dsimp only [Pt.U, Pt.locs, Pt.cells, Pt.slots] at X' e1 e2 h1 h2 h3 st
  subst h1; subst h2; subst h3
  exact ⟨v, (T.setVm vm₁).calling g' mk (Value.ref b :: As).toArray, t, U', L, hT, X', hL, e1, e2, hq, st⟩
section
variable {y : MethodName} {bytes cc : ByteArray} {maxL nL mc ms n index : Nat} {ret : Option FieldType} {ws : List Cond} {rm : Room} {Pc : Array Value → State → Prop} {Qc : Array Value → State → Outcome → State → Prop} {XC : String → State → State → Prop} {free : Addr → Prop} {Ts : List Cond} {own C : String} {b : Addr} {As rest : List Value} {g : JFrame}
theorem vx_runVX {hh : List (Nat × Nat × Nat × Nat)} (S : CallFix p m c cc nL s args Ts own) (hM : vx_Met l y ws rm Pc Qc XC mc ms free) (cw : vx_CVW R s args own C index y bytes maxL ret hh ws rm mc ms n) (hp : PreV s H C b Pc As)
    (hg : g.method = m) (hn : As.length = n) (hsize : g.locals.size = nL) (hstack : g.stack = As.reverse ++ .ref b :: rest) (hW : 2 * g.monitorRoom + (rest.map fun v => v.category).sum ≤ 8) (hdg : decode cc g.pc = .ok (.invokevirtual index, 3)) (hf : cells + mc ≤ R.cells ∧ slots + ms ≤ R.slots) :
    vx_Run p l e R s m args below meth c H locs cells slots mc ms g rest (Qc (Value.ref b :: As).toArray) XC free := by
  obtain ⟨⟨hrc, hrs, hfr, hlo, hws, hcw⟩, hcode, hini, hy, hlen, hl, hin, hse⟩ := cw
  have hK : vx_Back l R p e below s args y 3 8 (PreOf R mc ms Pc) (PostOf Qc mc ms free) (vx_Post XC mc ms free) := vx_backW (hh := hh) (bytes := bytes) (maxL := maxL) (ret := ret) hM hp.1 hrc hrs hfr hlo hws hcw (fun a' U hW => word_at hW (Or.inl (by first | rfl | simp [Cond.onTables, Cond.keeps, Cond.steady])) hini)
  obtain ⟨hx, hb, hml, ho, -⟩ := S
  obtain ⟨-, ⟨cellB, hcB, hoB, hclB⟩, hPc⟩ := hp
  intro T hT X
  rcases vx_callVX X hx (C := C) (hh := hh) (bytes := bytes) (maxL := maxL) (ret := ret) ho hl hin hse hcode hy hK (by rw [hT]; exact hcB) hoB hclB hg (hsize.trans hml.symm) (argsL := As) (rest := rest) (fun sig h => hn.trans (hlen sig h)) hstack hW (by rw [hb]; exact hdg)
    (fun vm₁ hW₁ => ⟨hf.1, hf.2, hPc (T.setVm vm₁) hT hW₁⟩) with ⟨v, vm₁, ⟨U', l2, c2, s2⟩, hW₁, X', ⟨g', mk, t, L, e1, e2, hq, h1, hL, h2, h3⟩, st⟩ | ⟨q, vm₁, ⟨U', l2, c2, s2⟩, hW₁, X', ⟨g', mk, t, L, E, ce, e1, e2, hq, hce, hcv, hcl, h1, hL, h2, h3⟩, st⟩
  · dsimp only [Pt.U, Pt.locs, Pt.cells, Pt.slots] at X' e1 e2 h1 h2 h3 st
    subst h1; subst h2; subst h3
    exact Or.inl ⟨v, (T.setVm vm₁).calling g' mk (Value.ref b :: As).toArray, t, U', L, hT, X', hL, e1, e2, hq, st⟩
  · dsimp only [Pt.U, Pt.locs, Pt.cells, Pt.slots] at X' e1 e2 h1 h2 h3 st hcl
    subst h1; subst h2; subst h3
    exact Or.inr ⟨q, (T.setVm vm₁).calling g' mk (Value.ref b :: As).toArray, t, U', L, E, ce, hT, X', hL, e1, e2, hq, hce, hcv, vx_cls hW₁ hcl, st⟩
theorem vx_runSX {hh : List (Nat × Nat × Nat × Nat)} (S : CallFix p m c cc nL s args Ts own) (hM : vx_Met l y ws rm Pc Qc XC mc ms free) (cw : vx_CSW R s args own index y bytes maxL ret hh ws rm mc ms n) (hp : PreS s H Pc As)
    (hg : g.method = m) (hn : As.length = n) (hsize : g.locals.size = nL) (hstack : g.stack = As.reverse ++ rest) (hW : 2 * g.monitorRoom + (rest.map fun v => v.category).sum ≤ 8) (hdg : decode cc g.pc = .ok (.invokestatic index, 3)) (hf : cells + mc ≤ R.cells ∧ slots + ms ≤ R.slots) :
    vx_Run p l e R s m args below meth c H locs cells slots mc ms g rest (Qc As.toArray) XC free := by
  obtain ⟨⟨hrc, hrs, hfr, hlo, hws, hcw⟩, hcode, hini, hy, hlen, hl, hstt⟩ := cw
  have hK : vx_Back l R p e below s args y 3 8 (PreOf R mc ms Pc) (PostOf Qc mc ms free) (vx_Post XC mc ms free) := vx_backW (hh := hh) (bytes := bytes) (maxL := maxL) (ret := ret) hM hp.1 hrc hrs hfr hlo hws hcw (fun a' U hW => word_at hW (Or.inl (by first | rfl | simp [Cond.onTables, Cond.keeps, Cond.steady])) hini)
  obtain ⟨hx, hb, hml, ho, -⟩ := S
  intro T hT X
  rcases vx_callSX X hx (hh := hh) (bytes := bytes) (maxL := maxL) (ret := ret) ho hl hstt hini hcode hy hK hg (hsize.trans hml.symm) (argsL := As) (rest := rest) (fun sig h => hn.trans (hlen sig h)) hstack hW (by rw [hb]; exact hdg)
    (fun vm₁ hW₁ => ⟨hf.1, hf.2, hp.2 (T.setVm vm₁) hT hW₁⟩) with ⟨v, vm₁, ⟨U', l2, c2, s2⟩, hW₁, X', ⟨g', mk, t, L, e1, e2, hq, h1, hL, h2, h3⟩, st⟩ | ⟨q, vm₁, ⟨U', l2, c2, s2⟩, hW₁, X', ⟨g', mk, t, L, E, ce, e1, e2, hq, hce, hcv, hcl, h1, hL, h2, h3⟩, st⟩
  · dsimp only [Pt.U, Pt.locs, Pt.cells, Pt.slots] at X' e1 e2 h1 h2 h3 st
    subst h1; subst h2; subst h3
    exact Or.inl ⟨v, (T.setVm vm₁).calling g' mk As.toArray, t, U', L, hT, X', hL, e1, e2, hq, st⟩
  · dsimp only [Pt.U, Pt.locs, Pt.cells, Pt.slots] at X' e1 e2 h1 h2 h3 st hcl
    subst h1; subst h2; subst h3
    exact Or.inr ⟨q, (T.setVm vm₁).calling g' mk As.toArray, t, U', L, E, ce, hT, X', hL, e1, e2, hq, hce, hcv, vx_cls hW₁ hcl, st⟩
end
end VXH
theorem vx_ofWH {l : Launch} {y : MethodName} {ws ws' : List Cond} {rm : Room} {Pc : Array Value → State → Prop} {Qc : Array Value → State → Outcome → State → Prop} {XC : String → State → State → Prop} {mc ms : Nat} {free : Addr → Prop} {cc : ByteArray} {maxL : Nat} {ret : Option FieldType} {hh : List (Nat × Nat × Nat × Nat)}
    (hy : plainName y.cls = true) (hw : ws = Cond.codeWith y cc maxL ret hh :: ws')
    (body : ∀ p e s m args below meth c s₁, BodyLoose p l y (headSpec ws rm) cc maxL ret e s m args below meth c s₁ → c.maxLocals = maxL → Pc args s →
      W p l e (headSpec ws rm).room s m args below meth c s.heap [] 0 0 (vx_MQ below Qc XC args s mc ms free) (entryFrame m args maxL)) : vx_Met l y ws rm Pc Qc XC mc ms free := by
  refine MetFree.of_bodyS (code := cc) (maxLocals := maxL) (ret := ret) hy ?_ ?_
  · intro args s m h hn
    obtain ⟨m9, meth, c, hn9, h1, h2, h3, h4, -, h5, h6, -⟩ := Cond.codeWith_spec (atoms_spec (ws := ws) h _ (by rw [hw]; exact List.mem_cons_self))
    cases hn.symm.trans hn9
    exact ⟨meth, c, h1, h2, h3, h4, h5, h6⟩
  · intro p e s m args below meth c s₁ B hml hP _
    have hh0 : s₁.heap = s.heap := by rw [B.state]; rfl
    obtain ⟨t, a1, o, b1, b2, b3⟩ := body p e s m args below meth c s₁ B hml hP s₁ hh0 (Stand.of_body B)
    exact ⟨t, o, a1, b1, b2, b3⟩
/-! ===== END ===== -/
end
section
def RX0 : String := "SignRoots$Division"
def TX0 : u_T := fun k => match k with
  | 0 => ("SignRoots$Division", "dividend", "[I", true)
  | 1 => ("SignRoots$Division", "quotient", "[I", true)
  | 2 => ("SignRoots$Division", "bestRow", "[I", true)
  | 3 => ("SignRoots$Division", "root", "I", false)
  | 4 => ("SignRoots$Division", "highest", "I", false)
  | _ => ("SignRoots$Division", "place", "I", false)
def tyX0 : Nat → FieldType := fun k => match k with
  | 0 => .array .int
  | 1 => .array .int
  | 2 => .array .int
  | 3 => .int
  | 4 => .int
  | _ => .int
abbrev wsX00 : List Cond := u_ws RX0 TX0 6
theorem nmX0 : ∀ a, a < 6 → ∀ b, b < 6 → a ≠ b → (TX0 a).2.1 ≠ (TX0 b).2.1 := by decide +kernel
theorem tyX0_ok : ∀ k, k < 6 → parseFieldDescriptor (TX0 k).2.2.1 = some (tyX0 k) := by decide +kernel
abbrev cX0_init : ByteArray := prog_2_method_1_code
def yX0_init : MethodName := ⟨RX0, "<init>", "()V"⟩
abbrev cX0_start : ByteArray := prog_2_method_2_code
def yX0_start : MethodName := ⟨RX0, "start", "([II)V"⟩
abbrev cX0_advance : ByteArray := prog_2_method_3_code
def yX0_advance : MethodName := ⟨RX0, "advance", "()Z"⟩
abbrev cX0_rememberBest : ByteArray := prog_2_method_4_code
def yX0_rememberBest : MethodName := ⟨RX0, "rememberBest", "()V"⟩
abbrev cX0_fits : ByteArray := prog_2_method_5_code
def yX0_fits : MethodName := ⟨RX0, "fits", "(I)Z"⟩
def RX1 : String := "SignRoots$State"
def TX1 : u_T := fun k => match k with
  | 0 => ("SignRoots$State", "signs", "[[I", true)
  | 1 => ("SignRoots$State", "roots", "[I", true)
  | 2 => ("SignRoots$State", "rootCount", "I", false)
  | 3 => ("SignRoots$State", "taken", "I", false)
  | _ => ("SignRoots$State", "refused", "I", false)
def tyX1 : Nat → FieldType := fun k => match k with
  | 0 => .array (.array .int)
  | 1 => .array .int
  | 2 => .int
  | 3 => .int
  | _ => .int
abbrev wsX10 : List Cond := u_ws RX1 TX1 5
theorem nmX1 : ∀ a, a < 5 → ∀ b, b < 5 → a ≠ b → (TX1 a).2.1 ≠ (TX1 b).2.1 := by decide +kernel
theorem tyX1_ok : ∀ k, k < 5 → parseFieldDescriptor (TX1 k).2.2.1 = some (tyX1 k) := by decide +kernel
abbrev cX1_init : ByteArray := prog_3_method_1_code
def yX1_init : MethodName := ⟨RX1, "<init>", "()V"⟩
abbrev cX1_takeOver : ByteArray := prog_3_method_2_code
def yX1_takeOver : MethodName := ⟨RX1, "takeOver", "(LSignRoots$State;)V"⟩
def RX2 : String := "SignRoots"
def TX2 : u_T := fun k => match k with
  | 0 => ("SignRoots", "now", "LSignRoots$State;", true)
  | 1 => ("SignRoots", "saved", "[LSignRoots$State;", true)
  | 2 => ("SignRoots", "savedStates", "I", false)
  | 3 => ("SignRoots", "slots", "[LSignRoots$State;", true)
  | 4 => ("SignRoots", "kept", "[Z", true)
  | 5 => ("SignRoots", "buffer", "[I", true)
  | 6 => ("SignRoots", "bufferLength", "I", false)
  | 7 => ("SignRoots", "whole", "[J", true)
  | _ => ("SignRoots", "divisions", "[LSignRoots$Division;", true)
def tyX2 : Nat → FieldType := fun k => match k with
  | 0 => .object "SignRoots$State"
  | 1 => .array (.object "SignRoots$State")
  | 2 => .int
  | 3 => .array (.object "SignRoots$State")
  | 4 => .array .boolean
  | 5 => .array .int
  | 6 => .int
  | 7 => .array .long
  | _ => .array (.object "SignRoots$Division")
abbrev wsX20 : List Cond := u_ws RX2 TX2 9
theorem nmX2 : ∀ a, a < 9 → ∀ b, b < 9 → a ≠ b → (TX2 a).2.1 ≠ (TX2 b).2.1 := by decide +kernel
theorem tyX2_ok : ∀ k, k < 9 → parseFieldDescriptor (TX2 k).2.2.1 = some (tyX2 k) := by decide +kernel
abbrev cX2_init : ByteArray := prog_1_method_1_code
def yX2_init : MethodName := ⟨RX2, "<init>", "()V"⟩
abbrev cX2_put : ByteArray := prog_1_method_2_code
def yX2_put : MethodName := ⟨RX2, "put", "(III)I"⟩
abbrev cX2_copy : ByteArray := prog_1_method_3_code
def yX2_copy : MethodName := ⟨RX2, "copy", "(II)I"⟩
abbrev cX2_divide : ByteArray := prog_1_method_4_code
def yX2_divide : MethodName := ⟨RX2, "divide", "(II)I"⟩
abbrev cX2_root : ByteArray := prog_1_method_5_code
def yX2_root : MethodName := ⟨RX2, "root", "(I)I"⟩
abbrev cX2_unroot : ByteArray := prog_1_method_6_code
def yX2_unroot : MethodName := ⟨RX2, "unroot", "()I"⟩
abbrev cX2_lower : ByteArray := prog_1_method_7_code
def yX2_lower : MethodName := ⟨RX2, "lower", "(I)I"⟩
abbrev cX2_append : ByteArray := prog_1_method_8_code
def yX2_append : MethodName := ⟨RX2, "append", "(I)I"⟩
abbrev cX2_clearBuffer : ByteArray := prog_1_method_9_code
def yX2_clearBuffer : MethodName := ⟨RX2, "clearBuffer", "()I"⟩
abbrev cX2_firstError : ByteArray := prog_1_method_10_code
def yX2_firstError : MethodName := ⟨RX2, "firstError", "()I"⟩
abbrev cX2_load : ByteArray := prog_1_method_11_code
def yX2_load : MethodName := ⟨RX2, "load", "(I)I"⟩
abbrev cX2_keep : ByteArray := prog_1_method_12_code
def yX2_keep : MethodName := ⟨RX2, "keep", "(I)I"⟩
abbrev cX2_goBack : ByteArray := prog_1_method_13_code
def yX2_goBack : MethodName := ⟨RX2, "goBack", "(I)I"⟩
abbrev cX2_undo : ByteArray := prog_1_method_14_code
def yX2_undo : MethodName := ⟨RX2, "undo", "()I"⟩
abbrev cX2_sign : ByteArray := prog_1_method_15_code
def yX2_sign : MethodName := ⟨RX2, "sign", "(II)I"⟩
abbrev cX2_of : ByteArray := prog_1_method_16_code
def yX2_of : MethodName := ⟨RX2, "of", "(II)I"⟩
abbrev cX2_isRoot : ByteArray := prog_1_method_17_code
def yX2_isRoot : MethodName := ⟨RX2, "isRoot", "(II)I"⟩
abbrev cX2_times : ByteArray := prog_1_method_18_code
def yX2_times : MethodName := ⟨RX2, "times", "(III)I"⟩
abbrev cX2_quotients : ByteArray := prog_1_method_19_code
def yX2_quotients : MethodName := ⟨RX2, "quotients", "(II)I"⟩
abbrev cX2_best : ByteArray := prog_1_method_20_code
def yX2_best : MethodName := ⟨RX2, "best", "(II)I"⟩
abbrev cX2_many : ByteArray := prog_1_method_21_code
def yX2_many : MethodName := ⟨RX2, "many", "(III)I"⟩
abbrev cX2_isIn : ByteArray := prog_1_method_22_code
def yX2_isIn : MethodName := ⟨RX2, "isIn", "(IIII)I"⟩
abbrev cX2_coefficient : ByteArray := prog_1_method_23_code
def yX2_coefficient : MethodName := ⟨RX2, "coefficient", "(I)J"⟩
abbrev cX2_count : ByteArray := prog_1_method_24_code
def yX2_count : MethodName := ⟨RX2, "count", "(I)I"⟩
abbrev cX2_takenShare : ByteArray := prog_1_method_25_code
def yX2_takenShare : MethodName := ⟨RX2, "takenShare", "(I)D"⟩
abbrev cX2_digest : ByteArray := prog_1_method_26_code
def yX2_digest : MethodName := ⟨RX2, "digest", "()J"⟩
abbrev cX2_checkNumber : ByteArray := prog_1_method_27_code
def yX2_checkNumber : MethodName := ⟨RX2, "checkNumber", "(I)V"⟩
abbrev cX2_checkPower : ByteArray := prog_1_method_28_code
def yX2_checkPower : MethodName := ⟨RX2, "checkPower", "(I)V"⟩
abbrev cX2_checkSign : ByteArray := prog_1_method_29_code
def yX2_checkSign : MethodName := ⟨RX2, "checkSign", "(I)V"⟩
abbrev cX2_checkSlot : ByteArray := prog_1_method_30_code
def yX2_checkSlot : MethodName := ⟨RX2, "checkSlot", "(I)V"⟩
abbrev cX2_checkWhat : ByteArray := prog_1_method_31_code
def yX2_checkWhat : MethodName := ⟨RX2, "checkWhat", "(II)V"⟩
abbrev cX2_save : ByteArray := prog_1_method_32_code
def yX2_save : MethodName := ⟨RX2, "save", "()V"⟩
abbrev cX2_dropOldest : ByteArray := prog_1_method_33_code
def yX2_dropOldest : MethodName := ⟨RX2, "dropOldest", "()V"⟩
abbrev cX2_signOf : ByteArray := prog_1_method_34_code
def yX2_signOf : MethodName := ⟨RX2, "signOf", "(J)I"⟩
abbrev cX2_markOf : ByteArray := prog_1_method_35_code
def yX2_markOf : MethodName := ⟨RX2, "markOf", "(I)I"⟩
abbrev cX2_holds : ByteArray := prog_1_method_36_code
def yX2_holds : MethodName := ⟨RX2, "holds", "(II)Z"⟩
abbrev cX2_sumMarks : ByteArray := prog_1_method_37_code
def yX2_sumMarks : MethodName := ⟨RX2, "sumMarks", "([I[II)I"⟩
abbrev cX2_productMarks : ByteArray := prog_1_method_38_code
def yX2_productMarks : MethodName := ⟨RX2, "productMarks", "([I[II)I"⟩
abbrev cX2_marksAt : ByteArray := prog_1_method_39_code
def yX2_marksAt : MethodName := ⟨RX2, "marksAt", "([I[III)I"⟩
abbrev cX2_isTooHigh : ByteArray := prog_1_method_40_code
def yX2_isTooHigh : MethodName := ⟨RX2, "isTooHigh", "([I[II)Z"⟩
abbrev cX2_rowsOf : ByteArray := prog_1_method_41_code
def yX2_rowsOf : MethodName := ⟨RX2, "rowsOf", "([I[II)I"⟩
abbrev cX2_isAmong : ByteArray := prog_1_method_42_code
def yX2_isAmong : MethodName := ⟨RX2, "isAmong", "([I[I[II)Z"⟩
abbrev cX2_degreeOf : ByteArray := prog_1_method_43_code
def yX2_degreeOf : MethodName := ⟨RX2, "degreeOf", "([I)I"⟩
abbrev cX2_notZero : ByteArray := prog_1_method_44_code
def yX2_notZero : MethodName := ⟨RX2, "notZero", "([I)I"⟩
abbrev cX2_isAloneNotZero : ByteArray := prog_1_method_45_code
def yX2_isAloneNotZero : MethodName := ⟨RX2, "isAloneNotZero", "([II)Z"⟩
abbrev cX2_formOf : ByteArray := prog_1_method_46_code
def yX2_formOf : MethodName := ⟨RX2, "formOf", "([I)I"⟩
abbrev cX2_powerOf : ByteArray := prog_1_method_47_code
def yX2_powerOf : MethodName := ⟨RX2, "powerOf", "(II)I"⟩
abbrev cX2_hasRoot : ByteArray := prog_1_method_48_code
def yX2_hasRoot : MethodName := ⟨RX2, "hasRoot", "([II)Z"⟩
abbrev cX2_changesOf : ByteArray := prog_1_method_49_code
def yX2_changesOf : MethodName := ⟨RX2, "changesOf", "([II)I"⟩
abbrev cX2_zerosBelow : ByteArray := prog_1_method_50_code
def yX2_zerosBelow : MethodName := ⟨RX2, "zerosBelow", "([I)I"⟩
abbrev cX2_countedTimes : ByteArray := prog_1_method_51_code
def yX2_countedTimes : MethodName := ⟨RX2, "countedTimes", "([II)I"⟩
abbrev cX2_shareOf : ByteArray := prog_1_method_52_code
def yX2_shareOf : MethodName := ⟨RX2, "shareOf", "([I)D"⟩
abbrev cX2_quotientsOf : ByteArray := prog_1_method_53_code
def yX2_quotientsOf : MethodName := ⟨RX2, "quotientsOf", "([II)I"⟩
abbrev cX2_bestForm : ByteArray := prog_1_method_54_code
def yX2_bestForm : MethodName := ⟨RX2, "bestForm", "(I)I"⟩
abbrev cX2_tryQuotients : ByteArray := prog_1_method_55_code
def yX2_tryQuotients : MethodName := ⟨RX2, "tryQuotients", "([II[LSignRoots$Division;I)I"⟩
abbrev cX2_expandWhole : ByteArray := prog_1_method_56_code
def yX2_expandWhole : MethodName := ⟨RX2, "expandWhole", "()V"⟩
abbrev cX2_rootsOfSign : ByteArray := prog_1_method_57_code
def yX2_rootsOfSign : MethodName := ⟨RX2, "rootsOfSign", "(I)I"⟩
abbrev cX2_errorPlace : ByteArray := prog_1_method_58_code
def yX2_errorPlace : MethodName := ⟨RX2, "errorPlace", "()I"⟩
abbrev cX2_isSignCode : ByteArray := prog_1_method_59_code
def yX2_isSignCode : MethodName := ⟨RX2, "isSignCode", "(I)Z"⟩
abbrev cX2_signOfCode : ByteArray := prog_1_method_60_code
def yX2_signOfCode : MethodName := ⟨RX2, "signOfCode", "(I)I"⟩
abbrev cX2_degreesTogether : ByteArray := prog_1_method_61_code
def yX2_degreesTogether : MethodName := ⟨RX2, "degreesTogether", "()I"⟩
abbrev cX2_withRootOne : ByteArray := prog_1_method_62_code
def yX2_withRootOne : MethodName := ⟨RX2, "withRootOne", "()I"⟩
abbrev cX2_mixed : ByteArray := prog_1_method_63_code
def yX2_mixed : MethodName := ⟨RX2, "mixed", "(JJ)J"⟩
abbrev cX2_mixedPolynomial : ByteArray := prog_1_method_64_code
def yX2_mixedPolynomial : MethodName := ⟨RX2, "mixedPolynomial", "(J[I)J"⟩
abbrev cX2_mixedPairs : ByteArray := prog_1_method_65_code
def yX2_mixedPairs : MethodName := ⟨RX2, "mixedPairs", "(J)J"⟩
abbrev cX2_mixedWhole : ByteArray := prog_1_method_66_code
def yX2_mixedWhole : MethodName := ⟨RX2, "mixedWhole", "(J)J"⟩
abbrev cX2_mixedTexts : ByteArray := prog_1_method_67_code
def yX2_mixedTexts : MethodName := ⟨RX2, "mixedTexts", "(J)J"⟩
abbrev cX2_bitsOf : ByteArray := prog_1_method_68_code
def yX2_bitsOf : MethodName := ⟨RX2, "bitsOf", "(D)J"⟩
def RX3 : String := "SignRootsModel"
def TX3 : u_T := fun k => match k with
  | 0 => ("SignRootsModel", "thrown", "I", false)
  | 1 => ("SignRootsModel", "s", "[I", true)
  | 2 => ("SignRootsModel", "saved", "[I", true)
  | 3 => ("SignRootsModel", "savedMany", "I", false)
  | 4 => ("SignRootsModel", "slots", "[I", true)
  | 5 => ("SignRootsModel", "hasSlot", "[Z", true)
  | 6 => ("SignRootsModel", "buffer", "[I", true)
  | 7 => ("SignRootsModel", "length", "I", false)
  | 8 => ("SignRootsModel", "quotient", "[I", true)
  | 9 => ("SignRootsModel", "best", "[I", true)
  | 10 => ("SignRootsModel", "bestTimes", "I", false)
  | 11 => ("SignRootsModel", "whole", "[J", true)
  | _ => ("SignRootsModel", "hash", "J", false)
def tyX3 : Nat → FieldType := fun k => match k with
  | 0 => .int
  | 1 => .array .int
  | 2 => .array .int
  | 3 => .int
  | 4 => .array .int
  | 5 => .array .boolean
  | 6 => .array .int
  | 7 => .int
  | 8 => .array .int
  | 9 => .array .int
  | 10 => .int
  | 11 => .array .long
  | _ => .long
abbrev wsX30 : List Cond := u_ws RX3 TX3 13
theorem nmX3 : ∀ a, a < 13 → ∀ b, b < 13 → a ≠ b → (TX3 a).2.1 ≠ (TX3 b).2.1 := by decide +kernel
theorem tyX3_ok : ∀ k, k < 13 → parseFieldDescriptor (TX3 k).2.2.1 = some (tyX3 k) := by decide +kernel
abbrev cX3_init : ByteArray := prog_5_method_1_code
def yX3_init : MethodName := ⟨RX3, "<init>", "()V"⟩
abbrev cX3_thrown : ByteArray := prog_5_method_2_code
def yX3_thrown : MethodName := ⟨RX3, "thrown", "()I"⟩
abbrev cX3_in : ByteArray := prog_5_method_3_code
def yX3_in : MethodName := ⟨RX3, "in", "(III)Z"⟩
abbrev cX3_fails : ByteArray := prog_5_method_4_code
def yX3_fails : MethodName := ⟨RX3, "fails", "(I)I"⟩
abbrev cX3_isPoly : ByteArray := prog_5_method_5_code
def yX3_isPoly : MethodName := ⟨RX3, "isPoly", "(I)Z"⟩
abbrev cX3_isSign : ByteArray := prog_5_method_6_code
def yX3_isSign : MethodName := ⟨RX3, "isSign", "(I)Z"⟩
abbrev cX3_signAt : ByteArray := prog_5_method_7_code
def yX3_signAt : MethodName := ⟨RX3, "signAt", "(II)I"⟩
abbrev cX3_degree : ByteArray := prog_5_method_8_code
def yX3_degree : MethodName := ⟨RX3, "degree", "(I)I"⟩
abbrev cX3_saves : ByteArray := prog_5_method_9_code
def yX3_saves : MethodName := ⟨RX3, "saves", "()V"⟩
abbrev cX3_refuses : ByteArray := prog_5_method_10_code
def yX3_refuses : MethodName := ⟨RX3, "refuses", "(I)I"⟩
abbrev cX3_isInSum : ByteArray := prog_5_method_11_code
def yX3_isInSum : MethodName := ⟨RX3, "isInSum", "(III)Z"⟩
abbrev cX3_changes : ByteArray := prog_5_method_12_code
def yX3_changes : MethodName := ⟨RX3, "changes", "([III)I"⟩
abbrev cX3_often : ByteArray := prog_5_method_13_code
def yX3_often : MethodName := ⟨RX3, "often", "(II)I"⟩
abbrev cX3_laysRow : ByteArray := prog_5_method_14_code
def yX3_laysRow : MethodName := ⟨RX3, "laysRow", "(II)V"⟩
abbrev cX3_isQuotient : ByteArray := prog_5_method_15_code
def yX3_isQuotient : MethodName := ⟨RX3, "isQuotient", "(III)Z"⟩
abbrev cX3_divides : ByteArray := prog_5_method_16_code
def yX3_divides : MethodName := ⟨RX3, "divides", "(II)I"⟩
abbrev cX3_notes : ByteArray := prog_5_method_17_code
def yX3_notes : MethodName := ⟨RX3, "notes", "(II)V"⟩
abbrev cX3_form : ByteArray := prog_5_method_18_code
def yX3_form : MethodName := ⟨RX3, "form", "([I)I"⟩
abbrev cX3_put : ByteArray := prog_5_method_19_code
def yX3_put : MethodName := ⟨RX3, "put", "(III)I"⟩
abbrev cX3_copy : ByteArray := prog_5_method_20_code
def yX3_copy : MethodName := ⟨RX3, "copy", "(II)I"⟩
abbrev cX3_divide : ByteArray := prog_5_method_21_code
def yX3_divide : MethodName := ⟨RX3, "divide", "(II)I"⟩
abbrev cX3_root : ByteArray := prog_5_method_22_code
def yX3_root : MethodName := ⟨RX3, "root", "(I)I"⟩
abbrev cX3_unroot : ByteArray := prog_5_method_23_code
def yX3_unroot : MethodName := ⟨RX3, "unroot", "()I"⟩
abbrev cX3_multiplies : ByteArray := prog_5_method_24_code
def yX3_multiplies : MethodName := ⟨RX3, "multiplies", "()V"⟩
abbrev cX3_lower : ByteArray := prog_5_method_25_code
def yX3_lower : MethodName := ⟨RX3, "lower", "(I)I"⟩
abbrev cX3_append : ByteArray := prog_5_method_26_code
def yX3_append : MethodName := ⟨RX3, "append", "(I)I"⟩
abbrev cX3_clearBuffer : ByteArray := prog_5_method_27_code
def yX3_clearBuffer : MethodName := ⟨RX3, "clearBuffer", "()I"⟩
abbrev cX3_error : ByteArray := prog_5_method_28_code
def yX3_error : MethodName := ⟨RX3, "error", "()I"⟩
abbrev cX3_firstError : ByteArray := prog_5_method_29_code
def yX3_firstError : MethodName := ⟨RX3, "firstError", "()I"⟩
abbrev cX3_load : ByteArray := prog_5_method_30_code
def yX3_load : MethodName := ⟨RX3, "load", "(I)I"⟩
abbrev cX3_degrees : ByteArray := prog_5_method_31_code
def yX3_degrees : MethodName := ⟨RX3, "degrees", "()I"⟩
abbrev cX3_keep : ByteArray := prog_5_method_32_code
def yX3_keep : MethodName := ⟨RX3, "keep", "(I)I"⟩
abbrev cX3_goBack : ByteArray := prog_5_method_33_code
def yX3_goBack : MethodName := ⟨RX3, "goBack", "(I)I"⟩
abbrev cX3_undo : ByteArray := prog_5_method_34_code
def yX3_undo : MethodName := ⟨RX3, "undo", "()I"⟩
abbrev cX3_sign : ByteArray := prog_5_method_35_code
def yX3_sign : MethodName := ⟨RX3, "sign", "(II)I"⟩
abbrev cX3_tells : ByteArray := prog_5_method_36_code
def yX3_tells : MethodName := ⟨RX3, "tells", "(II)I"⟩
abbrev cX3_of : ByteArray := prog_5_method_37_code
def yX3_of : MethodName := ⟨RX3, "of", "(II)I"⟩
abbrev cX3_has : ByteArray := prog_5_method_38_code
def yX3_has : MethodName := ⟨RX3, "has", "(II)Z"⟩
abbrev cX3_isRoot : ByteArray := prog_5_method_39_code
def yX3_isRoot : MethodName := ⟨RX3, "isRoot", "(II)I"⟩
abbrev cX3_times : ByteArray := prog_5_method_40_code
def yX3_times : MethodName := ⟨RX3, "times", "(III)I"⟩
abbrev cX3_quotients : ByteArray := prog_5_method_41_code
def yX3_quotients : MethodName := ⟨RX3, "quotients", "(II)I"⟩
abbrev cX3_bestForm : ByteArray := prog_5_method_42_code
def yX3_bestForm : MethodName := ⟨RX3, "bestForm", "(II)I"⟩
abbrev cX3_best : ByteArray := prog_5_method_43_code
def yX3_best : MethodName := ⟨RX3, "best", "(II)I"⟩
abbrev cX3_hasProduct : ByteArray := prog_5_method_44_code
def yX3_hasProduct : MethodName := ⟨RX3, "hasProduct", "(IIII)Z"⟩
abbrev cX3_isThree : ByteArray := prog_5_method_45_code
def yX3_isThree : MethodName := ⟨RX3, "isThree", "(IIII)Z"⟩
abbrev cX3_only : ByteArray := prog_5_method_46_code
def yX3_only : MethodName := ⟨RX3, "only", "(IIII)I"⟩
abbrev cX3_isTooHigh : ByteArray := prog_5_method_47_code
def yX3_isTooHigh : MethodName := ⟨RX3, "isTooHigh", "(III)Z"⟩
abbrev cX3_rows : ByteArray := prog_5_method_48_code
def yX3_rows : MethodName := ⟨RX3, "rows", "(III)I"⟩
abbrev cX3_many : ByteArray := prog_5_method_49_code
def yX3_many : MethodName := ⟨RX3, "many", "(III)I"⟩
abbrev cX3_isAmong : ByteArray := prog_5_method_50_code
def yX3_isAmong : MethodName := ⟨RX3, "isAmong", "(IIII)Z"⟩
abbrev cX3_isIn : ByteArray := prog_5_method_51_code
def yX3_isIn : MethodName := ⟨RX3, "isIn", "(IIII)I"⟩
abbrev cX3_coefficient : ByteArray := prog_5_method_52_code
def yX3_coefficient : MethodName := ⟨RX3, "coefficient", "(I)J"⟩
abbrev cX3_rootsOf : ByteArray := prog_5_method_53_code
def yX3_rootsOf : MethodName := ⟨RX3, "rootsOf", "(I)I"⟩
abbrev cX3_tellsCount : ByteArray := prog_5_method_54_code
def yX3_tellsCount : MethodName := ⟨RX3, "tellsCount", "(I)I"⟩
abbrev cX3_count : ByteArray := prog_5_method_55_code
def yX3_count : MethodName := ⟨RX3, "count", "(I)I"⟩
abbrev cX3_share : ByteArray := prog_5_method_56_code
def yX3_share : MethodName := ⟨RX3, "share", "(I)D"⟩
abbrev cX3_takenShare : ByteArray := prog_5_method_57_code
def yX3_takenShare : MethodName := ⟨RX3, "takenShare", "(I)D"⟩
abbrev cX3_hashes : ByteArray := prog_5_method_58_code
def yX3_hashes : MethodName := ⟨RX3, "hashes", "(J)V"⟩
abbrev cX3_hashesPoly : ByteArray := prog_5_method_59_code
def yX3_hashesPoly : MethodName := ⟨RX3, "hashesPoly", "(I)V"⟩
abbrev cX3_digest : ByteArray := prog_5_method_60_code
def yX3_digest : MethodName := ⟨RX3, "digest", "()J"⟩
def RJxe99ae : String := "java/lang/Double"
def TJxe99ae : u_T := fun k => match k with
  | _ => ("", "", "", false)
def tyJxe99ae : Nat → FieldType := fun k => match k with
  | _ => .int
theorem nmJxe99ae : ∀ a, a < 0 → ∀ b, b < 0 → a ≠ b → (TJxe99ae a).2.1 ≠ (TJxe99ae b).2.1 := by decide +kernel
theorem tyJxe99ae_ok : ∀ k, k < 0 → parseFieldDescriptor (TJxe99ae k).2.2.1 = some (tyJxe99ae k) := by decide +kernel
abbrev cJxe99ae_isNaN_b9ae7 : ByteArray := prog_6_method_6_code
def yJxe99ae_isNaN_b9ae7 : MethodName := ⟨RJxe99ae, "isNaN", "(D)Z"⟩
abbrev cJxe99ae_doubleToLongBits_ccdee : ByteArray := prog_6_method_23_code
def yJxe99ae_doubleToLongBits_ccdee : MethodName := ⟨RJxe99ae, "doubleToLongBits", "(D)J"⟩
def RJ0 : String := "java/lang/String"
def TJ0 : u_T := fun k => match k with
  | _ => ("", "", "", false)
def tyJ0 : Nat → FieldType := fun k => match k with
  | _ => .int
theorem nmJ0 : ∀ a, a < 0 → ∀ b, b < 0 → a ≠ b → (TJ0 a).2.1 ≠ (TJ0 b).2.1 := by decide +kernel
theorem tyJ0_ok : ∀ k, k < 0 → parseFieldDescriptor (TJ0 k).2.2.1 = some (tyJ0 k) := by decide +kernel
def RJ10 : String := "java/lang/System"
def TJ10 : u_T := fun k => match k with
  | _ => ("", "", "", false)
def tyJ10 : Nat → FieldType := fun k => match k with
  | _ => .int
theorem nmJ10 : ∀ a, a < 0 → ∀ b, b < 0 → a ≠ b → (TJ10 a).2.1 ≠ (TJ10 b).2.1 := by decide +kernel
theorem tyJ10_ok : ∀ k, k < 0 → parseFieldDescriptor (TJ10 k).2.2.1 = some (tyJ10 k) := by decide +kernel
def RL : String := "SignRootsLaw"
abbrev cL_put : ByteArray := method_3_code
def yL_put : MethodName := ⟨RL, "put", "(LSignRoots;III[J)I"⟩
abbrev cL_copy : ByteArray := method_4_code
def yL_copy : MethodName := ⟨RL, "copy", "(LSignRoots;II[J)I"⟩
abbrev cL_divide : ByteArray := method_5_code
def yL_divide : MethodName := ⟨RL, "divide", "(LSignRoots;II[J)I"⟩
abbrev cL_root : ByteArray := method_6_code
def yL_root : MethodName := ⟨RL, "root", "(LSignRoots;I[J)I"⟩
abbrev cL_lower : ByteArray := method_7_code
def yL_lower : MethodName := ⟨RL, "lower", "(LSignRoots;I[J)I"⟩
abbrev cL_append : ByteArray := method_8_code
def yL_append : MethodName := ⟨RL, "append", "(LSignRoots;I[J)I"⟩
abbrev cL_load : ByteArray := method_9_code
def yL_load : MethodName := ⟨RL, "load", "(LSignRoots;I[J)I"⟩
abbrev cL_keep : ByteArray := method_10_code
def yL_keep : MethodName := ⟨RL, "keep", "(LSignRoots;I[J)I"⟩
abbrev cL_goBack : ByteArray := method_11_code
def yL_goBack : MethodName := ⟨RL, "goBack", "(LSignRoots;I[J)I"⟩
abbrev cL_undo : ByteArray := method_12_code
def yL_undo : MethodName := ⟨RL, "undo", "(LSignRoots;[J)I"⟩
abbrev cL_sign : ByteArray := method_13_code
def yL_sign : MethodName := ⟨RL, "sign", "(LSignRoots;II[J)I"⟩
abbrev cL_of : ByteArray := method_14_code
def yL_of : MethodName := ⟨RL, "of", "(LSignRoots;II[J)I"⟩
abbrev cL_isRoot : ByteArray := method_15_code
def yL_isRoot : MethodName := ⟨RL, "isRoot", "(LSignRoots;II[J)I"⟩
abbrev cL_times : ByteArray := method_16_code
def yL_times : MethodName := ⟨RL, "times", "(LSignRoots;III[J)I"⟩
abbrev cL_quotients : ByteArray := method_17_code
def yL_quotients : MethodName := ⟨RL, "quotients", "(LSignRoots;II[J)I"⟩
abbrev cL_best : ByteArray := method_18_code
def yL_best : MethodName := ⟨RL, "best", "(LSignRoots;II[J)I"⟩
abbrev cL_many : ByteArray := method_19_code
def yL_many : MethodName := ⟨RL, "many", "(LSignRoots;III[J)I"⟩
abbrev cL_isIn : ByteArray := method_20_code
def yL_isIn : MethodName := ⟨RL, "isIn", "(LSignRoots;IIII[J)I"⟩
abbrev cL_coefficient : ByteArray := method_21_code
def yL_coefficient : MethodName := ⟨RL, "coefficient", "(LSignRoots;I[J)I"⟩
abbrev cL_count : ByteArray := method_22_code
def yL_count : MethodName := ⟨RL, "count", "(LSignRoots;I[J)I"⟩
abbrev cL_takenShare : ByteArray := method_23_code
def yL_takenShare : MethodName := ⟨RL, "takenShare", "(LSignRoots;I[D)I"⟩
abbrev cL_law : ByteArray := code
def yL_law : MethodName := ⟨RL, "law", "([I)Z"⟩
abbrev vwCl : List vw_C := [(RX0, TX0, 6), (RX1, TX1, 5), (RX2, TX2, 9), (RX3, TX3, 13)]
end
section
theorem dX0_init_0 : decode cX0_init 0 = .ok (.aload_n 0, 1) := by decide +kernel
theorem dX0_init_1 : decode cX0_init 1 = .ok (.invokespecial 3, 3) := by decide +kernel
theorem dX0_init_4 : decode cX0_init 4 = .ok (.aload_n 0, 1) := by decide +kernel
theorem dX0_init_5 : decode cX0_init 5 = .ok (.bipush 9, 2) := by decide +kernel
theorem dX0_init_7 : decode cX0_init 7 = .ok (.newarray .int, 2) := by decide +kernel
theorem dX0_init_9 : decode cX0_init 9 = .ok (.putfield 9, 3) := by decide +kernel
theorem dX0_init_12 : decode cX0_init 12 = .ok (.aload_n 0, 1) := by decide +kernel
theorem dX0_init_13 : decode cX0_init 13 = .ok (.bipush 9, 2) := by decide +kernel
theorem dX0_init_15 : decode cX0_init 15 = .ok (.newarray .int, 2) := by decide +kernel
theorem dX0_init_17 : decode cX0_init 17 = .ok (.putfield 15, 3) := by decide +kernel
theorem dX0_init_20 : decode cX0_init 20 = .ok (.aload_n 0, 1) := by decide +kernel
theorem dX0_init_21 : decode cX0_init 21 = .ok (.bipush 9, 2) := by decide +kernel
theorem dX0_init_23 : decode cX0_init 23 = .ok (.newarray .int, 2) := by decide +kernel
theorem dX0_init_25 : decode cX0_init 25 = .ok (.putfield 18, 3) := by decide +kernel
theorem dX0_init_28 : decode cX0_init 28 = .ok (.aload_n 0, 1) := by decide +kernel
theorem dX0_init_29 : decode cX0_init 29 = .ok (.iconst 0, 1) := by decide +kernel
theorem dX0_init_30 : decode cX0_init 30 = .ok (.putfield 21, 3) := by decide +kernel
theorem dX0_init_33 : decode cX0_init 33 = .ok (.aload_n 0, 1) := by decide +kernel
theorem dX0_init_34 : decode cX0_init 34 = .ok (.iconst (-1), 1) := by decide +kernel
theorem dX0_init_35 : decode cX0_init 35 = .ok (.putfield 25, 3) := by decide +kernel
theorem dX0_init_38 : decode cX0_init 38 = .ok (.aload_n 0, 1) := by decide +kernel
theorem dX0_init_39 : decode cX0_init 39 = .ok (.iconst (-1), 1) := by decide +kernel
theorem dX0_init_40 : decode cX0_init 40 = .ok (.putfield 28, 3) := by decide +kernel
theorem dX0_init_43 : decode cX0_init 43 = .ok (.return_, 1) := by decide +kernel
theorem dX0_start_0 : decode cX0_start 0 = .ok (.iconst 0, 1) := by decide +kernel
theorem dX0_start_1 : decode cX0_start 1 = .ok (.istore_n 3, 1) := by decide +kernel
theorem dX0_start_2 : decode cX0_start 2 = .ok (.iload_n 3, 1) := by decide +kernel
theorem dX0_start_3 : decode cX0_start 3 = .ok (.bipush 9, 2) := by decide +kernel
theorem dX0_start_5 : decode cX0_start 5 = .ok (.if_icmp .ge 25, 3) := by decide +kernel
theorem dX0_start_8 : decode cX0_start 8 = .ok (.aload_n 0, 1) := by decide +kernel
theorem dX0_start_9 : decode cX0_start 9 = .ok (.getfield 9, 3) := by decide +kernel
theorem dX0_start_12 : decode cX0_start 12 = .ok (.iload_n 3, 1) := by decide +kernel
theorem dX0_start_13 : decode cX0_start 13 = .ok (.aload_n 1, 1) := by decide +kernel
theorem dX0_start_14 : decode cX0_start 14 = .ok (.iload_n 3, 1) := by decide +kernel
theorem dX0_start_15 : decode cX0_start 15 = .ok (.iaload, 1) := by decide +kernel
theorem dX0_start_16 : decode cX0_start 16 = .ok (.iastore, 1) := by decide +kernel
theorem dX0_start_17 : decode cX0_start 17 = .ok (.aload_n 0, 1) := by decide +kernel
theorem dX0_start_18 : decode cX0_start 18 = .ok (.getfield 15, 3) := by decide +kernel
theorem dX0_start_21 : decode cX0_start 21 = .ok (.iload_n 3, 1) := by decide +kernel
theorem dX0_start_22 : decode cX0_start 22 = .ok (.iconst 0, 1) := by decide +kernel
theorem dX0_start_23 : decode cX0_start 23 = .ok (.iastore, 1) := by decide +kernel
theorem dX0_start_24 : decode cX0_start 24 = .ok (.iinc 3 1, 3) := by decide +kernel
theorem dX0_start_27 : decode cX0_start 27 = .ok (.goto (-25), 3) := by decide +kernel
theorem dX0_start_30 : decode cX0_start 30 = .ok (.aload_n 0, 1) := by decide +kernel
theorem dX0_start_31 : decode cX0_start 31 = .ok (.iload_n 2, 1) := by decide +kernel
theorem dX0_start_32 : decode cX0_start 32 = .ok (.putfield 21, 3) := by decide +kernel
theorem dX0_start_35 : decode cX0_start 35 = .ok (.aload_n 0, 1) := by decide +kernel
theorem dX0_start_36 : decode cX0_start 36 = .ok (.aload_n 1, 1) := by decide +kernel
theorem dX0_start_37 : decode cX0_start 37 = .ok (.invokestatic 31, 3) := by decide +kernel
theorem dX0_start_40 : decode cX0_start 40 = .ok (.iconst 1, 1) := by decide +kernel
theorem dX0_start_41 : decode cX0_start 41 = .ok (.isub, 1) := by decide +kernel
theorem dX0_start_42 : decode cX0_start 42 = .ok (.putfield 25, 3) := by decide +kernel
theorem dX0_start_45 : decode cX0_start 45 = .ok (.aload_n 0, 1) := by decide +kernel
theorem dX0_start_46 : decode cX0_start 46 = .ok (.aload_n 0, 1) := by decide +kernel
theorem dX0_start_47 : decode cX0_start 47 = .ok (.getfield 25, 3) := by decide +kernel
theorem dX0_start_50 : decode cX0_start 50 = .ok (.ifCond .ge 7, 3) := by decide +kernel
theorem dX0_start_53 : decode cX0_start 53 = .ok (.iconst (-1), 1) := by decide +kernel
theorem dX0_start_54 : decode cX0_start 54 = .ok (.goto 4, 3) := by decide +kernel
theorem dX0_start_57 : decode cX0_start 57 = .ok (.iconst 0, 1) := by decide +kernel
theorem dX0_start_58 : decode cX0_start 58 = .ok (.putfield 28, 3) := by decide +kernel
theorem dX0_start_61 : decode cX0_start 61 = .ok (.aload_n 0, 1) := by decide +kernel
theorem dX0_start_62 : decode cX0_start 62 = .ok (.getfield 15, 3) := by decide +kernel
theorem dX0_start_65 : decode cX0_start 65 = .ok (.iconst 0, 1) := by decide +kernel
theorem dX0_start_66 : decode cX0_start 66 = .ok (.aload_n 0, 1) := by decide +kernel
theorem dX0_start_67 : decode cX0_start 67 = .ok (.getfield 25, 3) := by decide +kernel
theorem dX0_start_70 : decode cX0_start 70 = .ok (.ifCond .ge 7, 3) := by decide +kernel
theorem dX0_start_73 : decode cX0_start 73 = .ok (.iconst 0, 1) := by decide +kernel
theorem dX0_start_74 : decode cX0_start 74 = .ok (.goto 5, 3) := by decide +kernel
theorem dX0_start_77 : decode cX0_start 77 = .ok (.bipush (-2), 2) := by decide +kernel
theorem dX0_start_79 : decode cX0_start 79 = .ok (.iastore, 1) := by decide +kernel
theorem dX0_start_80 : decode cX0_start 80 = .ok (.return_, 1) := by decide +kernel
theorem dX0_advance_0 : decode cX0_advance 0 = .ok (.iconst 0, 1) := by decide +kernel
theorem dX0_advance_1 : decode cX0_advance 1 = .ok (.istore_n 1, 1) := by decide +kernel
theorem dX0_advance_2 : decode cX0_advance 2 = .ok (.iload_n 1, 1) := by decide +kernel
theorem dX0_advance_3 : decode cX0_advance 3 = .ok (.ldc 35, 2) := by decide +kernel
theorem dX0_advance_5 : decode cX0_advance 5 = .ok (.if_icmp .ge 134, 3) := by decide +kernel
theorem dX0_advance_8 : decode cX0_advance 8 = .ok (.aload_n 0, 1) := by decide +kernel
theorem dX0_advance_9 : decode cX0_advance 9 = .ok (.getfield 28, 3) := by decide +kernel
theorem dX0_advance_12 : decode cX0_advance 12 = .ok (.ifCond .lt 127, 3) := by decide +kernel
theorem dX0_advance_15 : decode cX0_advance 15 = .ok (.aload_n 0, 1) := by decide +kernel
theorem dX0_advance_16 : decode cX0_advance 16 = .ok (.getfield 15, 3) := by decide +kernel
theorem dX0_advance_19 : decode cX0_advance 19 = .ok (.aload_n 0, 1) := by decide +kernel
theorem dX0_advance_20 : decode cX0_advance 20 = .ok (.getfield 28, 3) := by decide +kernel
theorem dX0_advance_23 : decode cX0_advance 23 = .ok (.iaload, 1) := by decide +kernel
theorem dX0_advance_24 : decode cX0_advance 24 = .ok (.iconst 1, 1) := by decide +kernel
theorem dX0_advance_25 : decode cX0_advance 25 = .ok (.if_icmp .lt 16, 3) := by decide +kernel
theorem dX0_advance_28 : decode cX0_advance 28 = .ok (.aload_n 0, 1) := by decide +kernel
theorem dX0_advance_29 : decode cX0_advance 29 = .ok (.dup, 1) := by decide +kernel
theorem dX0_advance_30 : decode cX0_advance 30 = .ok (.getfield 28, 3) := by decide +kernel
theorem dX0_advance_33 : decode cX0_advance 33 = .ok (.iconst 1, 1) := by decide +kernel
theorem dX0_advance_34 : decode cX0_advance 34 = .ok (.isub, 1) := by decide +kernel
theorem dX0_advance_35 : decode cX0_advance 35 = .ok (.putfield 28, 3) := by decide +kernel
theorem dX0_advance_38 : decode cX0_advance 38 = .ok (.goto 95, 3) := by decide +kernel
theorem dX0_advance_41 : decode cX0_advance 41 = .ok (.aload_n 0, 1) := by decide +kernel
theorem dX0_advance_42 : decode cX0_advance 42 = .ok (.getfield 15, 3) := by decide +kernel
theorem dX0_advance_45 : decode cX0_advance 45 = .ok (.aload_n 0, 1) := by decide +kernel
theorem dX0_advance_46 : decode cX0_advance 46 = .ok (.getfield 28, 3) := by decide +kernel
theorem dX0_advance_49 : decode cX0_advance 49 = .ok (.dup2, 1) := by decide +kernel
theorem dX0_advance_50 : decode cX0_advance 50 = .ok (.iaload, 1) := by decide +kernel
theorem dX0_advance_51 : decode cX0_advance 51 = .ok (.iconst 1, 1) := by decide +kernel
theorem dX0_advance_52 : decode cX0_advance 52 = .ok (.iadd, 1) := by decide +kernel
theorem dX0_advance_53 : decode cX0_advance 53 = .ok (.iastore, 1) := by decide +kernel
theorem dX0_advance_54 : decode cX0_advance 54 = .ok (.aload_n 0, 1) := by decide +kernel
theorem dX0_advance_55 : decode cX0_advance 55 = .ok (.aload_n 0, 1) := by decide +kernel
theorem dX0_advance_56 : decode cX0_advance 56 = .ok (.getfield 28, 3) := by decide +kernel
theorem dX0_advance_59 : decode cX0_advance 59 = .ok (.invokevirtual 36, 3) := by decide +kernel
theorem dX0_advance_62 : decode cX0_advance 62 = .ok (.istore_n 2, 1) := by decide +kernel
theorem dX0_advance_63 : decode cX0_advance 63 = .ok (.iload_n 2, 1) := by decide +kernel
theorem dX0_advance_64 : decode cX0_advance 64 = .ok (.ifCond .eq 38, 3) := by decide +kernel
theorem dX0_advance_67 : decode cX0_advance 67 = .ok (.aload_n 0, 1) := by decide +kernel
theorem dX0_advance_68 : decode cX0_advance 68 = .ok (.getfield 28, 3) := by decide +kernel
theorem dX0_advance_71 : decode cX0_advance 71 = .ok (.aload_n 0, 1) := by decide +kernel
theorem dX0_advance_72 : decode cX0_advance 72 = .ok (.getfield 25, 3) := by decide +kernel
theorem dX0_advance_75 : decode cX0_advance 75 = .ok (.if_icmp .ge 27, 3) := by decide +kernel
theorem dX0_advance_78 : decode cX0_advance 78 = .ok (.aload_n 0, 1) := by decide +kernel
theorem dX0_advance_79 : decode cX0_advance 79 = .ok (.dup, 1) := by decide +kernel
theorem dX0_advance_80 : decode cX0_advance 80 = .ok (.getfield 28, 3) := by decide +kernel
theorem dX0_advance_83 : decode cX0_advance 83 = .ok (.iconst 1, 1) := by decide +kernel
theorem dX0_advance_84 : decode cX0_advance 84 = .ok (.iadd, 1) := by decide +kernel
theorem dX0_advance_85 : decode cX0_advance 85 = .ok (.putfield 28, 3) := by decide +kernel
theorem dX0_advance_88 : decode cX0_advance 88 = .ok (.aload_n 0, 1) := by decide +kernel
theorem dX0_advance_89 : decode cX0_advance 89 = .ok (.getfield 15, 3) := by decide +kernel
theorem dX0_advance_92 : decode cX0_advance 92 = .ok (.aload_n 0, 1) := by decide +kernel
theorem dX0_advance_93 : decode cX0_advance 93 = .ok (.getfield 28, 3) := by decide +kernel
theorem dX0_advance_96 : decode cX0_advance 96 = .ok (.bipush (-2), 2) := by decide +kernel
theorem dX0_advance_98 : decode cX0_advance 98 = .ok (.iastore, 1) := by decide +kernel
theorem dX0_advance_99 : decode cX0_advance 99 = .ok (.goto 34, 3) := by decide +kernel
theorem dX0_advance_102 : decode cX0_advance 102 = .ok (.iload_n 2, 1) := by decide +kernel
theorem dX0_advance_103 : decode cX0_advance 103 = .ok (.ifCond .eq 30, 3) := by decide +kernel
theorem dX0_advance_106 : decode cX0_advance 106 = .ok (.aload_n 0, 1) := by decide +kernel
theorem dX0_advance_107 : decode cX0_advance 107 = .ok (.getfield 15, 3) := by decide +kernel
theorem dX0_advance_110 : decode cX0_advance 110 = .ok (.aload_n 0, 1) := by decide +kernel
theorem dX0_advance_111 : decode cX0_advance 111 = .ok (.getfield 25, 3) := by decide +kernel
theorem dX0_advance_114 : decode cX0_advance 114 = .ok (.iaload, 1) := by decide +kernel
theorem dX0_advance_115 : decode cX0_advance 115 = .ok (.ifCond .eq 18, 3) := by decide +kernel
theorem dX0_advance_118 : decode cX0_advance 118 = .ok (.aload_n 0, 1) := by decide +kernel
theorem dX0_advance_119 : decode cX0_advance 119 = .ok (.aload_n 0, 1) := by decide +kernel
theorem dX0_advance_120 : decode cX0_advance 120 = .ok (.getfield 25, 3) := by decide +kernel
theorem dX0_advance_123 : decode cX0_advance 123 = .ok (.iconst 1, 1) := by decide +kernel
theorem dX0_advance_124 : decode cX0_advance 124 = .ok (.iadd, 1) := by decide +kernel
theorem dX0_advance_125 : decode cX0_advance 125 = .ok (.invokevirtual 36, 3) := by decide +kernel
theorem dX0_advance_128 : decode cX0_advance 128 = .ok (.ifCond .eq 5, 3) := by decide +kernel
theorem dX0_advance_131 : decode cX0_advance 131 = .ok (.iconst 1, 1) := by decide +kernel
theorem dX0_advance_132 : decode cX0_advance 132 = .ok (.ireturn, 1) := by decide +kernel
theorem dX0_advance_133 : decode cX0_advance 133 = .ok (.iinc 1 1, 3) := by decide +kernel
theorem dX0_advance_136 : decode cX0_advance 136 = .ok (.goto (-134), 3) := by decide +kernel
theorem dX0_advance_139 : decode cX0_advance 139 = .ok (.iconst 0, 1) := by decide +kernel
theorem dX0_advance_140 : decode cX0_advance 140 = .ok (.ireturn, 1) := by decide +kernel
theorem dX0_rememberBest_0 : decode cX0_rememberBest 0 = .ok (.aload_n 0, 1) := by decide +kernel
theorem dX0_rememberBest_1 : decode cX0_rememberBest 1 = .ok (.getfield 15, 3) := by decide +kernel
theorem dX0_rememberBest_4 : decode cX0_rememberBest 4 = .ok (.iconst 0, 1) := by decide +kernel
theorem dX0_rememberBest_5 : decode cX0_rememberBest 5 = .ok (.aload_n 0, 1) := by decide +kernel
theorem dX0_rememberBest_6 : decode cX0_rememberBest 6 = .ok (.getfield 18, 3) := by decide +kernel
theorem dX0_rememberBest_9 : decode cX0_rememberBest 9 = .ok (.iconst 0, 1) := by decide +kernel
theorem dX0_rememberBest_10 : decode cX0_rememberBest 10 = .ok (.bipush 9, 2) := by decide +kernel
theorem dX0_rememberBest_12 : decode cX0_rememberBest 12 = .ok (.invokestatic 40, 3) := by decide +kernel
theorem dX0_rememberBest_15 : decode cX0_rememberBest 15 = .ok (.return_, 1) := by decide +kernel
theorem dX0_fits_0 : decode cX0_fits 0 = .ok (.iload_n 1, 1) := by decide +kernel
theorem dX0_fits_1 : decode cX0_fits 1 = .ok (.ifCond .ne 7, 3) := by decide +kernel
theorem dX0_fits_4 : decode cX0_fits 4 = .ok (.iconst 0, 1) := by decide +kernel
theorem dX0_fits_5 : decode cX0_fits 5 = .ok (.goto 11, 3) := by decide +kernel
theorem dX0_fits_8 : decode cX0_fits 8 = .ok (.aload_n 0, 1) := by decide +kernel
theorem dX0_fits_9 : decode cX0_fits 9 = .ok (.getfield 15, 3) := by decide +kernel
theorem dX0_fits_12 : decode cX0_fits 12 = .ok (.iload_n 1, 1) := by decide +kernel
theorem dX0_fits_13 : decode cX0_fits 13 = .ok (.iconst 1, 1) := by decide +kernel
theorem dX0_fits_14 : decode cX0_fits 14 = .ok (.isub, 1) := by decide +kernel
theorem dX0_fits_15 : decode cX0_fits 15 = .ok (.iaload, 1) := by decide +kernel
theorem dX0_fits_16 : decode cX0_fits 16 = .ok (.istore_n 2, 1) := by decide +kernel
theorem dX0_fits_17 : decode cX0_fits 17 = .ok (.iload_n 2, 1) := by decide +kernel
theorem dX0_fits_18 : decode cX0_fits 18 = .ok (.invokestatic 46, 3) := by decide +kernel
theorem dX0_fits_21 : decode cX0_fits 21 = .ok (.aload_n 0, 1) := by decide +kernel
theorem dX0_fits_22 : decode cX0_fits 22 = .ok (.getfield 21, 3) := by decide +kernel
theorem dX0_fits_25 : decode cX0_fits 25 = .ok (.ineg, 1) := by decide +kernel
theorem dX0_fits_26 : decode cX0_fits 26 = .ok (.aload_n 0, 1) := by decide +kernel
theorem dX0_fits_27 : decode cX0_fits 27 = .ok (.getfield 15, 3) := by decide +kernel
theorem dX0_fits_30 : decode cX0_fits 30 = .ok (.iload_n 1, 1) := by decide +kernel
theorem dX0_fits_31 : decode cX0_fits 31 = .ok (.iaload, 1) := by decide +kernel
theorem dX0_fits_32 : decode cX0_fits 32 = .ok (.imul, 1) := by decide +kernel
theorem dX0_fits_33 : decode cX0_fits 33 = .ok (.invokestatic 46, 3) := by decide +kernel
theorem dX0_fits_36 : decode cX0_fits 36 = .ok (.ior, 1) := by decide +kernel
theorem dX0_fits_37 : decode cX0_fits 37 = .ok (.istore_n 3, 1) := by decide +kernel
theorem dX0_fits_38 : decode cX0_fits 38 = .ok (.iload_n 3, 1) := by decide +kernel
theorem dX0_fits_39 : decode cX0_fits 39 = .ok (.aload_n 0, 1) := by decide +kernel
theorem dX0_fits_40 : decode cX0_fits 40 = .ok (.getfield 9, 3) := by decide +kernel
theorem dX0_fits_43 : decode cX0_fits 43 = .ok (.iload_n 1, 1) := by decide +kernel
theorem dX0_fits_44 : decode cX0_fits 44 = .ok (.iaload, 1) := by decide +kernel
theorem dX0_fits_45 : decode cX0_fits 45 = .ok (.invokestatic 50, 3) := by decide +kernel
theorem dX0_fits_48 : decode cX0_fits 48 = .ok (.ireturn, 1) := by decide +kernel
theorem dX1_init_0 : decode cX1_init 0 = .ok (.aload_n 0, 1) := by decide +kernel
theorem dX1_init_1 : decode cX1_init 1 = .ok (.invokespecial 3, 3) := by decide +kernel
theorem dX1_init_4 : decode cX1_init 4 = .ok (.aload_n 0, 1) := by decide +kernel
theorem dX1_init_5 : decode cX1_init 5 = .ok (.iconst 5, 1) := by decide +kernel
theorem dX1_init_6 : decode cX1_init 6 = .ok (.bipush 9, 2) := by decide +kernel
theorem dX1_init_8 : decode cX1_init 8 = .ok (.multianewarray 9 2, 4) := by decide +kernel
theorem dX1_init_12 : decode cX1_init 12 = .ok (.putfield 11, 3) := by decide +kernel
theorem dX1_init_15 : decode cX1_init 15 = .ok (.aload_n 0, 1) := by decide +kernel
theorem dX1_init_16 : decode cX1_init 16 = .ok (.bipush 8, 2) := by decide +kernel
theorem dX1_init_18 : decode cX1_init 18 = .ok (.newarray .int, 2) := by decide +kernel
theorem dX1_init_20 : decode cX1_init 20 = .ok (.putfield 16, 3) := by decide +kernel
theorem dX1_init_23 : decode cX1_init 23 = .ok (.aload_n 0, 1) := by decide +kernel
theorem dX1_init_24 : decode cX1_init 24 = .ok (.iconst 0, 1) := by decide +kernel
theorem dX1_init_25 : decode cX1_init 25 = .ok (.putfield 20, 3) := by decide +kernel
theorem dX1_init_28 : decode cX1_init 28 = .ok (.aload_n 0, 1) := by decide +kernel
theorem dX1_init_29 : decode cX1_init 29 = .ok (.iconst 0, 1) := by decide +kernel
theorem dX1_init_30 : decode cX1_init 30 = .ok (.putfield 24, 3) := by decide +kernel
theorem dX1_init_33 : decode cX1_init 33 = .ok (.aload_n 0, 1) := by decide +kernel
theorem dX1_init_34 : decode cX1_init 34 = .ok (.iconst 0, 1) := by decide +kernel
theorem dX1_init_35 : decode cX1_init 35 = .ok (.putfield 27, 3) := by decide +kernel
theorem dX1_init_38 : decode cX1_init 38 = .ok (.iconst 0, 1) := by decide +kernel
theorem dX1_init_39 : decode cX1_init 39 = .ok (.istore_n 1, 1) := by decide +kernel
theorem dX1_init_40 : decode cX1_init 40 = .ok (.iload_n 1, 1) := by decide +kernel
theorem dX1_init_41 : decode cX1_init 41 = .ok (.iconst 5, 1) := by decide +kernel
theorem dX1_init_42 : decode cX1_init 42 = .ok (.if_icmp .ge 18, 3) := by decide +kernel
theorem dX1_init_45 : decode cX1_init 45 = .ok (.aload_n 0, 1) := by decide +kernel
theorem dX1_init_46 : decode cX1_init 46 = .ok (.getfield 11, 3) := by decide +kernel
theorem dX1_init_49 : decode cX1_init 49 = .ok (.iload_n 1, 1) := by decide +kernel
theorem dX1_init_50 : decode cX1_init 50 = .ok (.aaload, 1) := by decide +kernel
theorem dX1_init_51 : decode cX1_init 51 = .ok (.iconst 0, 1) := by decide +kernel
theorem dX1_init_52 : decode cX1_init 52 = .ok (.iconst 1, 1) := by decide +kernel
theorem dX1_init_53 : decode cX1_init 53 = .ok (.iastore, 1) := by decide +kernel
theorem dX1_init_54 : decode cX1_init 54 = .ok (.iinc 1 1, 3) := by decide +kernel
theorem dX1_init_57 : decode cX1_init 57 = .ok (.goto (-17), 3) := by decide +kernel
theorem dX1_init_60 : decode cX1_init 60 = .ok (.return_, 1) := by decide +kernel
theorem dX1_takeOver_0 : decode cX1_takeOver 0 = .ok (.iconst 0, 1) := by decide +kernel
theorem dX1_takeOver_1 : decode cX1_takeOver 1 = .ok (.istore_n 2, 1) := by decide +kernel
theorem dX1_takeOver_2 : decode cX1_takeOver 2 = .ok (.iload_n 2, 1) := by decide +kernel
theorem dX1_takeOver_3 : decode cX1_takeOver 3 = .ok (.iconst 5, 1) := by decide +kernel
theorem dX1_takeOver_4 : decode cX1_takeOver 4 = .ok (.if_icmp .ge 28, 3) := by decide +kernel
theorem dX1_takeOver_7 : decode cX1_takeOver 7 = .ok (.aload_n 1, 1) := by decide +kernel
theorem dX1_takeOver_8 : decode cX1_takeOver 8 = .ok (.getfield 11, 3) := by decide +kernel
theorem dX1_takeOver_11 : decode cX1_takeOver 11 = .ok (.iload_n 2, 1) := by decide +kernel
theorem dX1_takeOver_12 : decode cX1_takeOver 12 = .ok (.aaload, 1) := by decide +kernel
theorem dX1_takeOver_13 : decode cX1_takeOver 13 = .ok (.iconst 0, 1) := by decide +kernel
theorem dX1_takeOver_14 : decode cX1_takeOver 14 = .ok (.aload_n 0, 1) := by decide +kernel
theorem dX1_takeOver_15 : decode cX1_takeOver 15 = .ok (.getfield 11, 3) := by decide +kernel
theorem dX1_takeOver_18 : decode cX1_takeOver 18 = .ok (.iload_n 2, 1) := by decide +kernel
theorem dX1_takeOver_19 : decode cX1_takeOver 19 = .ok (.aaload, 1) := by decide +kernel
theorem dX1_takeOver_20 : decode cX1_takeOver 20 = .ok (.iconst 0, 1) := by decide +kernel
theorem dX1_takeOver_21 : decode cX1_takeOver 21 = .ok (.bipush 9, 2) := by decide +kernel
theorem dX1_takeOver_23 : decode cX1_takeOver 23 = .ok (.invokestatic 30, 3) := by decide +kernel
theorem dX1_takeOver_26 : decode cX1_takeOver 26 = .ok (.iinc 2 1, 3) := by decide +kernel
theorem dX1_takeOver_29 : decode cX1_takeOver 29 = .ok (.goto (-27), 3) := by decide +kernel
theorem dX1_takeOver_32 : decode cX1_takeOver 32 = .ok (.aload_n 1, 1) := by decide +kernel
theorem dX1_takeOver_33 : decode cX1_takeOver 33 = .ok (.getfield 16, 3) := by decide +kernel
theorem dX1_takeOver_36 : decode cX1_takeOver 36 = .ok (.iconst 0, 1) := by decide +kernel
theorem dX1_takeOver_37 : decode cX1_takeOver 37 = .ok (.aload_n 0, 1) := by decide +kernel
theorem dX1_takeOver_38 : decode cX1_takeOver 38 = .ok (.getfield 16, 3) := by decide +kernel
theorem dX1_takeOver_41 : decode cX1_takeOver 41 = .ok (.iconst 0, 1) := by decide +kernel
theorem dX1_takeOver_42 : decode cX1_takeOver 42 = .ok (.bipush 8, 2) := by decide +kernel
theorem dX1_takeOver_44 : decode cX1_takeOver 44 = .ok (.invokestatic 30, 3) := by decide +kernel
theorem dX1_takeOver_47 : decode cX1_takeOver 47 = .ok (.aload_n 0, 1) := by decide +kernel
theorem dX1_takeOver_48 : decode cX1_takeOver 48 = .ok (.aload_n 1, 1) := by decide +kernel
theorem dX1_takeOver_49 : decode cX1_takeOver 49 = .ok (.getfield 20, 3) := by decide +kernel
theorem dX1_takeOver_52 : decode cX1_takeOver 52 = .ok (.putfield 20, 3) := by decide +kernel
theorem dX1_takeOver_55 : decode cX1_takeOver 55 = .ok (.aload_n 0, 1) := by decide +kernel
theorem dX1_takeOver_56 : decode cX1_takeOver 56 = .ok (.aload_n 1, 1) := by decide +kernel
theorem dX1_takeOver_57 : decode cX1_takeOver 57 = .ok (.getfield 24, 3) := by decide +kernel
theorem dX1_takeOver_60 : decode cX1_takeOver 60 = .ok (.putfield 24, 3) := by decide +kernel
theorem dX1_takeOver_63 : decode cX1_takeOver 63 = .ok (.aload_n 0, 1) := by decide +kernel
theorem dX1_takeOver_64 : decode cX1_takeOver 64 = .ok (.aload_n 1, 1) := by decide +kernel
theorem dX1_takeOver_65 : decode cX1_takeOver 65 = .ok (.getfield 27, 3) := by decide +kernel
theorem dX1_takeOver_68 : decode cX1_takeOver 68 = .ok (.putfield 27, 3) := by decide +kernel
theorem dX1_takeOver_71 : decode cX1_takeOver 71 = .ok (.return_, 1) := by decide +kernel
theorem dX2_init_0 : decode cX2_init 0 = .ok (.aload_n 0, 1) := by decide +kernel
theorem dX2_init_1 : decode cX2_init 1 = .ok (.invokespecial 3, 3) := by decide +kernel
theorem dX2_init_4 : decode cX2_init 4 = .ok (.aload_n 0, 1) := by decide +kernel
theorem dX2_init_5 : decode cX2_init 5 = .ok (.new 9, 3) := by decide +kernel
theorem dX2_init_8 : decode cX2_init 8 = .ok (.dup, 1) := by decide +kernel
theorem dX2_init_9 : decode cX2_init 9 = .ok (.invokespecial 11, 3) := by decide +kernel
theorem dX2_init_12 : decode cX2_init 12 = .ok (.putfield 12, 3) := by decide +kernel
theorem dX2_init_15 : decode cX2_init 15 = .ok (.aload_n 0, 1) := by decide +kernel
theorem dX2_init_16 : decode cX2_init 16 = .ok (.bipush 6, 2) := by decide +kernel
theorem dX2_init_18 : decode cX2_init 18 = .ok (.anewarray 9, 3) := by decide +kernel
theorem dX2_init_21 : decode cX2_init 21 = .ok (.putfield 16, 3) := by decide +kernel
theorem dX2_init_24 : decode cX2_init 24 = .ok (.aload_n 0, 1) := by decide +kernel
theorem dX2_init_25 : decode cX2_init 25 = .ok (.iconst 0, 1) := by decide +kernel
theorem dX2_init_26 : decode cX2_init 26 = .ok (.putfield 20, 3) := by decide +kernel
theorem dX2_init_29 : decode cX2_init 29 = .ok (.aload_n 0, 1) := by decide +kernel
theorem dX2_init_30 : decode cX2_init 30 = .ok (.iconst 2, 1) := by decide +kernel
theorem dX2_init_31 : decode cX2_init 31 = .ok (.anewarray 9, 3) := by decide +kernel
theorem dX2_init_34 : decode cX2_init 34 = .ok (.putfield 24, 3) := by decide +kernel
theorem dX2_init_37 : decode cX2_init 37 = .ok (.aload_n 0, 1) := by decide +kernel
theorem dX2_init_38 : decode cX2_init 38 = .ok (.iconst 2, 1) := by decide +kernel
theorem dX2_init_39 : decode cX2_init 39 = .ok (.newarray .boolean, 2) := by decide +kernel
theorem dX2_init_41 : decode cX2_init 41 = .ok (.putfield 27, 3) := by decide +kernel
theorem dX2_init_44 : decode cX2_init 44 = .ok (.aload_n 0, 1) := by decide +kernel
theorem dX2_init_45 : decode cX2_init 45 = .ok (.bipush 60, 2) := by decide +kernel
theorem dX2_init_47 : decode cX2_init 47 = .ok (.newarray .int, 2) := by decide +kernel
theorem dX2_init_49 : decode cX2_init 49 = .ok (.putfield 31, 3) := by decide +kernel
theorem dX2_init_52 : decode cX2_init 52 = .ok (.aload_n 0, 1) := by decide +kernel
theorem dX2_init_53 : decode cX2_init 53 = .ok (.iconst 0, 1) := by decide +kernel
theorem dX2_init_54 : decode cX2_init 54 = .ok (.putfield 35, 3) := by decide +kernel
theorem dX2_init_57 : decode cX2_init 57 = .ok (.aload_n 0, 1) := by decide +kernel
theorem dX2_init_58 : decode cX2_init 58 = .ok (.bipush 9, 2) := by decide +kernel
theorem dX2_init_60 : decode cX2_init 60 = .ok (.newarray .long, 2) := by decide +kernel
theorem dX2_init_62 : decode cX2_init 62 = .ok (.putfield 38, 3) := by decide +kernel
theorem dX2_init_65 : decode cX2_init 65 = .ok (.aload_n 0, 1) := by decide +kernel
theorem dX2_init_66 : decode cX2_init 66 = .ok (.bipush 9, 2) := by decide +kernel
theorem dX2_init_68 : decode cX2_init 68 = .ok (.anewarray 42, 3) := by decide +kernel
theorem dX2_init_71 : decode cX2_init 71 = .ok (.putfield 44, 3) := by decide +kernel
theorem dX2_init_74 : decode cX2_init 74 = .ok (.iconst 0, 1) := by decide +kernel
theorem dX2_init_75 : decode cX2_init 75 = .ok (.istore_n 1, 1) := by decide +kernel
theorem dX2_init_76 : decode cX2_init 76 = .ok (.iload_n 1, 1) := by decide +kernel
theorem dX2_init_77 : decode cX2_init 77 = .ok (.bipush 6, 2) := by decide +kernel
theorem dX2_init_79 : decode cX2_init 79 = .ok (.if_icmp .ge 22, 3) := by decide +kernel
theorem dX2_init_82 : decode cX2_init 82 = .ok (.aload_n 0, 1) := by decide +kernel
theorem dX2_init_83 : decode cX2_init 83 = .ok (.getfield 16, 3) := by decide +kernel
theorem dX2_init_86 : decode cX2_init 86 = .ok (.iload_n 1, 1) := by decide +kernel
theorem dX2_init_87 : decode cX2_init 87 = .ok (.new 9, 3) := by decide +kernel
theorem dX2_init_90 : decode cX2_init 90 = .ok (.dup, 1) := by decide +kernel
theorem dX2_init_91 : decode cX2_init 91 = .ok (.invokespecial 11, 3) := by decide +kernel
theorem dX2_init_94 : decode cX2_init 94 = .ok (.aastore, 1) := by decide +kernel
theorem dX2_init_95 : decode cX2_init 95 = .ok (.iinc 1 1, 3) := by decide +kernel
theorem dX2_init_98 : decode cX2_init 98 = .ok (.goto (-22), 3) := by decide +kernel
theorem dX2_init_101 : decode cX2_init 101 = .ok (.iconst 0, 1) := by decide +kernel
theorem dX2_init_102 : decode cX2_init 102 = .ok (.istore_n 1, 1) := by decide +kernel
theorem dX2_init_103 : decode cX2_init 103 = .ok (.iload_n 1, 1) := by decide +kernel
theorem dX2_init_104 : decode cX2_init 104 = .ok (.iconst 2, 1) := by decide +kernel
theorem dX2_init_105 : decode cX2_init 105 = .ok (.if_icmp .ge 22, 3) := by decide +kernel
theorem dX2_init_108 : decode cX2_init 108 = .ok (.aload_n 0, 1) := by decide +kernel
theorem dX2_init_109 : decode cX2_init 109 = .ok (.getfield 24, 3) := by decide +kernel
theorem dX2_init_112 : decode cX2_init 112 = .ok (.iload_n 1, 1) := by decide +kernel
theorem dX2_init_113 : decode cX2_init 113 = .ok (.new 9, 3) := by decide +kernel
theorem dX2_init_116 : decode cX2_init 116 = .ok (.dup, 1) := by decide +kernel
theorem dX2_init_117 : decode cX2_init 117 = .ok (.invokespecial 11, 3) := by decide +kernel
theorem dX2_init_120 : decode cX2_init 120 = .ok (.aastore, 1) := by decide +kernel
theorem dX2_init_121 : decode cX2_init 121 = .ok (.iinc 1 1, 3) := by decide +kernel
theorem dX2_init_124 : decode cX2_init 124 = .ok (.goto (-21), 3) := by decide +kernel
theorem dX2_init_127 : decode cX2_init 127 = .ok (.iconst 0, 1) := by decide +kernel
theorem dX2_init_128 : decode cX2_init 128 = .ok (.istore_n 1, 1) := by decide +kernel
theorem dX2_init_129 : decode cX2_init 129 = .ok (.iload_n 1, 1) := by decide +kernel
theorem dX2_init_130 : decode cX2_init 130 = .ok (.bipush 9, 2) := by decide +kernel
theorem dX2_init_132 : decode cX2_init 132 = .ok (.if_icmp .ge 22, 3) := by decide +kernel
theorem dX2_init_135 : decode cX2_init 135 = .ok (.aload_n 0, 1) := by decide +kernel
theorem dX2_init_136 : decode cX2_init 136 = .ok (.getfield 44, 3) := by decide +kernel
theorem dX2_init_139 : decode cX2_init 139 = .ok (.iload_n 1, 1) := by decide +kernel
theorem dX2_init_140 : decode cX2_init 140 = .ok (.new 42, 3) := by decide +kernel
theorem dX2_init_143 : decode cX2_init 143 = .ok (.dup, 1) := by decide +kernel
theorem dX2_init_144 : decode cX2_init 144 = .ok (.invokespecial 48, 3) := by decide +kernel
theorem dX2_init_147 : decode cX2_init 147 = .ok (.aastore, 1) := by decide +kernel
theorem dX2_init_148 : decode cX2_init 148 = .ok (.iinc 1 1, 3) := by decide +kernel
theorem dX2_init_151 : decode cX2_init 151 = .ok (.goto (-22), 3) := by decide +kernel
theorem dX2_init_154 : decode cX2_init 154 = .ok (.return_, 1) := by decide +kernel
theorem dX2_put_0 : decode cX2_put 0 = .ok (.iload_n 1, 1) := by decide +kernel
theorem dX2_put_1 : decode cX2_put 1 = .ok (.invokestatic 49, 3) := by decide +kernel
theorem dX2_put_4 : decode cX2_put 4 = .ok (.iload_n 2, 1) := by decide +kernel
theorem dX2_put_5 : decode cX2_put 5 = .ok (.invokestatic 53, 3) := by decide +kernel
theorem dX2_put_8 : decode cX2_put 8 = .ok (.iload_n 3, 1) := by decide +kernel
theorem dX2_put_9 : decode cX2_put 9 = .ok (.invokestatic 56, 3) := by decide +kernel
theorem dX2_put_12 : decode cX2_put 12 = .ok (.aload_n 0, 1) := by decide +kernel
theorem dX2_put_13 : decode cX2_put 13 = .ok (.invokevirtual 59, 3) := by decide +kernel
theorem dX2_put_16 : decode cX2_put 16 = .ok (.aload_n 0, 1) := by decide +kernel
theorem dX2_put_17 : decode cX2_put 17 = .ok (.getfield 12, 3) := by decide +kernel
theorem dX2_put_20 : decode cX2_put 20 = .ok (.getfield 62, 3) := by decide +kernel
theorem dX2_put_23 : decode cX2_put 23 = .ok (.iload_n 1, 1) := by decide +kernel
theorem dX2_put_24 : decode cX2_put 24 = .ok (.aaload, 1) := by decide +kernel
theorem dX2_put_25 : decode cX2_put 25 = .ok (.astore 4, 2) := by decide +kernel
theorem dX2_put_27 : decode cX2_put 27 = .ok (.iload_n 3, 1) := by decide +kernel
theorem dX2_put_28 : decode cX2_put 28 = .ok (.ifCond .ne 28, 3) := by decide +kernel
theorem dX2_put_31 : decode cX2_put 31 = .ok (.aload 4, 2) := by decide +kernel
theorem dX2_put_33 : decode cX2_put 33 = .ok (.iload_n 2, 1) := by decide +kernel
theorem dX2_put_34 : decode cX2_put 34 = .ok (.invokestatic 66, 3) := by decide +kernel
theorem dX2_put_37 : decode cX2_put 37 = .ok (.ifCond .eq 19, 3) := by decide +kernel
theorem dX2_put_40 : decode cX2_put 40 = .ok (.aload_n 0, 1) := by decide +kernel
theorem dX2_put_41 : decode cX2_put 41 = .ok (.getfield 12, 3) := by decide +kernel
theorem dX2_put_44 : decode cX2_put 44 = .ok (.dup, 1) := by decide +kernel
theorem dX2_put_45 : decode cX2_put 45 = .ok (.getfield 70, 3) := by decide +kernel
theorem dX2_put_48 : decode cX2_put 48 = .ok (.iconst 1, 1) := by decide +kernel
theorem dX2_put_49 : decode cX2_put 49 = .ok (.iadd, 1) := by decide +kernel
theorem dX2_put_50 : decode cX2_put 50 = .ok (.putfield 70, 3) := by decide +kernel
theorem dX2_put_53 : decode cX2_put 53 = .ok (.bipush (-9), 2) := by decide +kernel
theorem dX2_put_55 : decode cX2_put 55 = .ok (.ireturn, 1) := by decide +kernel
theorem dX2_put_56 : decode cX2_put 56 = .ok (.aload 4, 2) := by decide +kernel
theorem dX2_put_58 : decode cX2_put 58 = .ok (.iload_n 2, 1) := by decide +kernel
theorem dX2_put_59 : decode cX2_put 59 = .ok (.iload_n 3, 1) := by decide +kernel
theorem dX2_put_60 : decode cX2_put 60 = .ok (.iastore, 1) := by decide +kernel
theorem dX2_put_61 : decode cX2_put 61 = .ok (.aload 4, 2) := by decide +kernel
theorem dX2_put_63 : decode cX2_put 63 = .ok (.invokestatic 73, 3) := by decide +kernel
theorem dX2_put_66 : decode cX2_put 66 = .ok (.ireturn, 1) := by decide +kernel
theorem dX2_copy_0 : decode cX2_copy 0 = .ok (.iload_n 1, 1) := by decide +kernel
theorem dX2_copy_1 : decode cX2_copy 1 = .ok (.invokestatic 49, 3) := by decide +kernel
theorem dX2_copy_4 : decode cX2_copy 4 = .ok (.iload_n 2, 1) := by decide +kernel
theorem dX2_copy_5 : decode cX2_copy 5 = .ok (.invokestatic 49, 3) := by decide +kernel
theorem dX2_copy_8 : decode cX2_copy 8 = .ok (.aload_n 0, 1) := by decide +kernel
theorem dX2_copy_9 : decode cX2_copy 9 = .ok (.invokevirtual 59, 3) := by decide +kernel
theorem dX2_copy_12 : decode cX2_copy 12 = .ok (.aload_n 0, 1) := by decide +kernel
theorem dX2_copy_13 : decode cX2_copy 13 = .ok (.getfield 12, 3) := by decide +kernel
theorem dX2_copy_16 : decode cX2_copy 16 = .ok (.getfield 62, 3) := by decide +kernel
theorem dX2_copy_19 : decode cX2_copy 19 = .ok (.iload_n 1, 1) := by decide +kernel
theorem dX2_copy_20 : decode cX2_copy 20 = .ok (.aaload, 1) := by decide +kernel
theorem dX2_copy_21 : decode cX2_copy 21 = .ok (.iconst 0, 1) := by decide +kernel
theorem dX2_copy_22 : decode cX2_copy 22 = .ok (.aload_n 0, 1) := by decide +kernel
theorem dX2_copy_23 : decode cX2_copy 23 = .ok (.getfield 12, 3) := by decide +kernel
theorem dX2_copy_26 : decode cX2_copy 26 = .ok (.getfield 62, 3) := by decide +kernel
theorem dX2_copy_29 : decode cX2_copy 29 = .ok (.iload_n 2, 1) := by decide +kernel
theorem dX2_copy_30 : decode cX2_copy 30 = .ok (.aaload, 1) := by decide +kernel
theorem dX2_copy_31 : decode cX2_copy 31 = .ok (.iconst 0, 1) := by decide +kernel
theorem dX2_copy_32 : decode cX2_copy 32 = .ok (.bipush 9, 2) := by decide +kernel
theorem dX2_copy_34 : decode cX2_copy 34 = .ok (.invokestatic 77, 3) := by decide +kernel
theorem dX2_copy_37 : decode cX2_copy 37 = .ok (.aload_n 0, 1) := by decide +kernel
theorem dX2_copy_38 : decode cX2_copy 38 = .ok (.getfield 12, 3) := by decide +kernel
theorem dX2_copy_41 : decode cX2_copy 41 = .ok (.getfield 62, 3) := by decide +kernel
theorem dX2_copy_44 : decode cX2_copy 44 = .ok (.iload_n 2, 1) := by decide +kernel
theorem dX2_copy_45 : decode cX2_copy 45 = .ok (.aaload, 1) := by decide +kernel
theorem dX2_copy_46 : decode cX2_copy 46 = .ok (.invokestatic 73, 3) := by decide +kernel
theorem dX2_copy_49 : decode cX2_copy 49 = .ok (.ireturn, 1) := by decide +kernel
theorem dX2_divide_0 : decode cX2_divide 0 = .ok (.iload_n 1, 1) := by decide +kernel
theorem dX2_divide_1 : decode cX2_divide 1 = .ok (.invokestatic 49, 3) := by decide +kernel
theorem dX2_divide_4 : decode cX2_divide 4 = .ok (.iload_n 2, 1) := by decide +kernel
theorem dX2_divide_5 : decode cX2_divide 5 = .ok (.invokestatic 56, 3) := by decide +kernel
theorem dX2_divide_8 : decode cX2_divide 8 = .ok (.aload_n 0, 1) := by decide +kernel
theorem dX2_divide_9 : decode cX2_divide 9 = .ok (.invokevirtual 59, 3) := by decide +kernel
theorem dX2_divide_12 : decode cX2_divide 12 = .ok (.aload_n 0, 1) := by decide +kernel
theorem dX2_divide_13 : decode cX2_divide 13 = .ok (.getfield 12, 3) := by decide +kernel
theorem dX2_divide_16 : decode cX2_divide 16 = .ok (.getfield 62, 3) := by decide +kernel
theorem dX2_divide_19 : decode cX2_divide 19 = .ok (.iload_n 1, 1) := by decide +kernel
theorem dX2_divide_20 : decode cX2_divide 20 = .ok (.aaload, 1) := by decide +kernel
theorem dX2_divide_21 : decode cX2_divide 21 = .ok (.astore_n 3, 1) := by decide +kernel
theorem dX2_divide_22 : decode cX2_divide 22 = .ok (.aload_n 3, 1) := by decide +kernel
theorem dX2_divide_23 : decode cX2_divide 23 = .ok (.iload_n 2, 1) := by decide +kernel
theorem dX2_divide_24 : decode cX2_divide 24 = .ok (.aload_n 0, 1) := by decide +kernel
theorem dX2_divide_25 : decode cX2_divide 25 = .ok (.getfield 44, 3) := by decide +kernel
theorem dX2_divide_28 : decode cX2_divide 28 = .ok (.iconst 0, 1) := by decide +kernel
theorem dX2_divide_29 : decode cX2_divide 29 = .ok (.invokestatic 83, 3) := by decide +kernel
theorem dX2_divide_32 : decode cX2_divide 32 = .ok (.ifCond .ne 19, 3) := by decide +kernel
theorem dX2_divide_35 : decode cX2_divide 35 = .ok (.aload_n 0, 1) := by decide +kernel
theorem dX2_divide_36 : decode cX2_divide 36 = .ok (.getfield 12, 3) := by decide +kernel
theorem dX2_divide_39 : decode cX2_divide 39 = .ok (.dup, 1) := by decide +kernel
theorem dX2_divide_40 : decode cX2_divide 40 = .ok (.getfield 70, 3) := by decide +kernel
theorem dX2_divide_43 : decode cX2_divide 43 = .ok (.iconst 1, 1) := by decide +kernel
theorem dX2_divide_44 : decode cX2_divide 44 = .ok (.iadd, 1) := by decide +kernel
theorem dX2_divide_45 : decode cX2_divide 45 = .ok (.putfield 70, 3) := by decide +kernel
theorem dX2_divide_48 : decode cX2_divide 48 = .ok (.bipush (-9), 2) := by decide +kernel
theorem dX2_divide_50 : decode cX2_divide 50 = .ok (.ireturn, 1) := by decide +kernel
theorem dX2_divide_51 : decode cX2_divide 51 = .ok (.aload_n 0, 1) := by decide +kernel
theorem dX2_divide_52 : decode cX2_divide 52 = .ok (.getfield 44, 3) := by decide +kernel
theorem dX2_divide_55 : decode cX2_divide 55 = .ok (.iconst 0, 1) := by decide +kernel
theorem dX2_divide_56 : decode cX2_divide 56 = .ok (.aaload, 1) := by decide +kernel
theorem dX2_divide_57 : decode cX2_divide 57 = .ok (.getfield 87, 3) := by decide +kernel
theorem dX2_divide_60 : decode cX2_divide 60 = .ok (.iconst 0, 1) := by decide +kernel
theorem dX2_divide_61 : decode cX2_divide 61 = .ok (.aload_n 3, 1) := by decide +kernel
theorem dX2_divide_62 : decode cX2_divide 62 = .ok (.iconst 0, 1) := by decide +kernel
theorem dX2_divide_63 : decode cX2_divide 63 = .ok (.bipush 9, 2) := by decide +kernel
theorem dX2_divide_65 : decode cX2_divide 65 = .ok (.invokestatic 77, 3) := by decide +kernel
theorem dX2_divide_68 : decode cX2_divide 68 = .ok (.aload_n 0, 1) := by decide +kernel
theorem dX2_divide_69 : decode cX2_divide 69 = .ok (.getfield 12, 3) := by decide +kernel
theorem dX2_divide_72 : decode cX2_divide 72 = .ok (.dup, 1) := by decide +kernel
theorem dX2_divide_73 : decode cX2_divide 73 = .ok (.getfield 90, 3) := by decide +kernel
theorem dX2_divide_76 : decode cX2_divide 76 = .ok (.iconst 1, 1) := by decide +kernel
theorem dX2_divide_77 : decode cX2_divide 77 = .ok (.iadd, 1) := by decide +kernel
theorem dX2_divide_78 : decode cX2_divide 78 = .ok (.putfield 90, 3) := by decide +kernel
theorem dX2_divide_81 : decode cX2_divide 81 = .ok (.aload_n 3, 1) := by decide +kernel
theorem dX2_divide_82 : decode cX2_divide 82 = .ok (.invokestatic 73, 3) := by decide +kernel
theorem dX2_divide_85 : decode cX2_divide 85 = .ok (.ireturn, 1) := by decide +kernel
theorem dX2_root_0 : decode cX2_root 0 = .ok (.iload_n 1, 1) := by decide +kernel
theorem dX2_root_1 : decode cX2_root 1 = .ok (.bipush (-9), 2) := by decide +kernel
theorem dX2_root_3 : decode cX2_root 3 = .ok (.if_icmp .lt 9, 3) := by decide +kernel
theorem dX2_root_6 : decode cX2_root 6 = .ok (.iload_n 1, 1) := by decide +kernel
theorem dX2_root_7 : decode cX2_root 7 = .ok (.bipush 9, 2) := by decide +kernel
theorem dX2_root_9 : decode cX2_root 9 = .ok (.if_icmp .le 13, 3) := by decide +kernel
theorem dX2_root_12 : decode cX2_root 12 = .ok (.new 93, 3) := by decide +kernel
theorem dX2_root_15 : decode cX2_root 15 = .ok (.dup, 1) := by decide +kernel
theorem dX2_root_16 : decode cX2_root 16 = .ok (.ldc 95, 2) := by decide +kernel
theorem dX2_root_18 : decode cX2_root 18 = .ok (.invokespecial 97, 3) := by decide +kernel
theorem dX2_root_21 : decode cX2_root 21 = .ok (.athrow, 1) := by decide +kernel
theorem dX2_root_22 : decode cX2_root 22 = .ok (.aload_n 0, 1) := by decide +kernel
theorem dX2_root_23 : decode cX2_root 23 = .ok (.invokevirtual 59, 3) := by decide +kernel
theorem dX2_root_26 : decode cX2_root 26 = .ok (.aload_n 0, 1) := by decide +kernel
theorem dX2_root_27 : decode cX2_root 27 = .ok (.getfield 12, 3) := by decide +kernel
theorem dX2_root_30 : decode cX2_root 30 = .ok (.getfield 100, 3) := by decide +kernel
theorem dX2_root_33 : decode cX2_root 33 = .ok (.bipush 8, 2) := by decide +kernel
theorem dX2_root_35 : decode cX2_root 35 = .ok (.if_icmp .lt 19, 3) := by decide +kernel
theorem dX2_root_38 : decode cX2_root 38 = .ok (.aload_n 0, 1) := by decide +kernel
theorem dX2_root_39 : decode cX2_root 39 = .ok (.getfield 12, 3) := by decide +kernel
theorem dX2_root_42 : decode cX2_root 42 = .ok (.dup, 1) := by decide +kernel
theorem dX2_root_43 : decode cX2_root 43 = .ok (.getfield 70, 3) := by decide +kernel
theorem dX2_root_46 : decode cX2_root 46 = .ok (.iconst 1, 1) := by decide +kernel
theorem dX2_root_47 : decode cX2_root 47 = .ok (.iadd, 1) := by decide +kernel
theorem dX2_root_48 : decode cX2_root 48 = .ok (.putfield 70, 3) := by decide +kernel
theorem dX2_root_51 : decode cX2_root 51 = .ok (.bipush (-9), 2) := by decide +kernel
theorem dX2_root_53 : decode cX2_root 53 = .ok (.ireturn, 1) := by decide +kernel
theorem dX2_root_54 : decode cX2_root 54 = .ok (.aload_n 0, 1) := by decide +kernel
theorem dX2_root_55 : decode cX2_root 55 = .ok (.getfield 12, 3) := by decide +kernel
theorem dX2_root_58 : decode cX2_root 58 = .ok (.getfield 103, 3) := by decide +kernel
theorem dX2_root_61 : decode cX2_root 61 = .ok (.aload_n 0, 1) := by decide +kernel
theorem dX2_root_62 : decode cX2_root 62 = .ok (.getfield 12, 3) := by decide +kernel
theorem dX2_root_65 : decode cX2_root 65 = .ok (.getfield 100, 3) := by decide +kernel
theorem dX2_root_68 : decode cX2_root 68 = .ok (.iload_n 1, 1) := by decide +kernel
theorem dX2_root_69 : decode cX2_root 69 = .ok (.iastore, 1) := by decide +kernel
theorem dX2_root_70 : decode cX2_root 70 = .ok (.aload_n 0, 1) := by decide +kernel
theorem dX2_root_71 : decode cX2_root 71 = .ok (.getfield 12, 3) := by decide +kernel
theorem dX2_root_74 : decode cX2_root 74 = .ok (.dup, 1) := by decide +kernel
theorem dX2_root_75 : decode cX2_root 75 = .ok (.getfield 100, 3) := by decide +kernel
theorem dX2_root_78 : decode cX2_root 78 = .ok (.iconst 1, 1) := by decide +kernel
theorem dX2_root_79 : decode cX2_root 79 = .ok (.iadd, 1) := by decide +kernel
theorem dX2_root_80 : decode cX2_root 80 = .ok (.putfield 100, 3) := by decide +kernel
theorem dX2_root_83 : decode cX2_root 83 = .ok (.aload_n 0, 1) := by decide +kernel
theorem dX2_root_84 : decode cX2_root 84 = .ok (.getfield 12, 3) := by decide +kernel
theorem dX2_root_87 : decode cX2_root 87 = .ok (.getfield 100, 3) := by decide +kernel
theorem dX2_root_90 : decode cX2_root 90 = .ok (.ireturn, 1) := by decide +kernel
theorem dX2_unroot_0 : decode cX2_unroot 0 = .ok (.aload_n 0, 1) := by decide +kernel
theorem dX2_unroot_1 : decode cX2_unroot 1 = .ok (.invokevirtual 59, 3) := by decide +kernel
theorem dX2_unroot_4 : decode cX2_unroot 4 = .ok (.aload_n 0, 1) := by decide +kernel
theorem dX2_unroot_5 : decode cX2_unroot 5 = .ok (.getfield 12, 3) := by decide +kernel
theorem dX2_unroot_8 : decode cX2_unroot 8 = .ok (.getfield 100, 3) := by decide +kernel
theorem dX2_unroot_11 : decode cX2_unroot 11 = .ok (.ifCond .gt 19, 3) := by decide +kernel
theorem dX2_unroot_14 : decode cX2_unroot 14 = .ok (.aload_n 0, 1) := by decide +kernel
theorem dX2_unroot_15 : decode cX2_unroot 15 = .ok (.getfield 12, 3) := by decide +kernel
theorem dX2_unroot_18 : decode cX2_unroot 18 = .ok (.dup, 1) := by decide +kernel
theorem dX2_unroot_19 : decode cX2_unroot 19 = .ok (.getfield 70, 3) := by decide +kernel
theorem dX2_unroot_22 : decode cX2_unroot 22 = .ok (.iconst 1, 1) := by decide +kernel
theorem dX2_unroot_23 : decode cX2_unroot 23 = .ok (.iadd, 1) := by decide +kernel
theorem dX2_unroot_24 : decode cX2_unroot 24 = .ok (.putfield 70, 3) := by decide +kernel
theorem dX2_unroot_27 : decode cX2_unroot 27 = .ok (.bipush 99, 2) := by decide +kernel
theorem dX2_unroot_29 : decode cX2_unroot 29 = .ok (.ireturn, 1) := by decide +kernel
theorem dX2_unroot_30 : decode cX2_unroot 30 = .ok (.aload_n 0, 1) := by decide +kernel
theorem dX2_unroot_31 : decode cX2_unroot 31 = .ok (.getfield 12, 3) := by decide +kernel
theorem dX2_unroot_34 : decode cX2_unroot 34 = .ok (.dup, 1) := by decide +kernel
theorem dX2_unroot_35 : decode cX2_unroot 35 = .ok (.getfield 100, 3) := by decide +kernel
theorem dX2_unroot_38 : decode cX2_unroot 38 = .ok (.iconst 1, 1) := by decide +kernel
theorem dX2_unroot_39 : decode cX2_unroot 39 = .ok (.isub, 1) := by decide +kernel
theorem dX2_unroot_40 : decode cX2_unroot 40 = .ok (.putfield 100, 3) := by decide +kernel
theorem dX2_unroot_43 : decode cX2_unroot 43 = .ok (.aload_n 0, 1) := by decide +kernel
theorem dX2_unroot_44 : decode cX2_unroot 44 = .ok (.getfield 12, 3) := by decide +kernel
theorem dX2_unroot_47 : decode cX2_unroot 47 = .ok (.getfield 103, 3) := by decide +kernel
theorem dX2_unroot_50 : decode cX2_unroot 50 = .ok (.aload_n 0, 1) := by decide +kernel
theorem dX2_unroot_51 : decode cX2_unroot 51 = .ok (.getfield 12, 3) := by decide +kernel
theorem dX2_unroot_54 : decode cX2_unroot 54 = .ok (.getfield 100, 3) := by decide +kernel
theorem dX2_unroot_57 : decode cX2_unroot 57 = .ok (.iaload, 1) := by decide +kernel
theorem dX2_unroot_58 : decode cX2_unroot 58 = .ok (.ireturn, 1) := by decide +kernel
theorem dX2_lower_0 : decode cX2_lower 0 = .ok (.iload_n 1, 1) := by decide +kernel
theorem dX2_lower_1 : decode cX2_lower 1 = .ok (.invokestatic 49, 3) := by decide +kernel
theorem dX2_lower_4 : decode cX2_lower 4 = .ok (.aload_n 0, 1) := by decide +kernel
theorem dX2_lower_5 : decode cX2_lower 5 = .ok (.invokevirtual 59, 3) := by decide +kernel
theorem dX2_lower_8 : decode cX2_lower 8 = .ok (.aload_n 0, 1) := by decide +kernel
theorem dX2_lower_9 : decode cX2_lower 9 = .ok (.invokevirtual 106, 3) := by decide +kernel
theorem dX2_lower_12 : decode cX2_lower 12 = .ok (.aload_n 0, 1) := by decide +kernel
theorem dX2_lower_13 : decode cX2_lower 13 = .ok (.getfield 12, 3) := by decide +kernel
theorem dX2_lower_16 : decode cX2_lower 16 = .ok (.getfield 62, 3) := by decide +kernel
theorem dX2_lower_19 : decode cX2_lower 19 = .ok (.iload_n 1, 1) := by decide +kernel
theorem dX2_lower_20 : decode cX2_lower 20 = .ok (.aaload, 1) := by decide +kernel
theorem dX2_lower_21 : decode cX2_lower 21 = .ok (.astore_n 2, 1) := by decide +kernel
theorem dX2_lower_22 : decode cX2_lower 22 = .ok (.iconst 0, 1) := by decide +kernel
theorem dX2_lower_23 : decode cX2_lower 23 = .ok (.istore_n 3, 1) := by decide +kernel
theorem dX2_lower_24 : decode cX2_lower 24 = .ok (.iload_n 3, 1) := by decide +kernel
theorem dX2_lower_25 : decode cX2_lower 25 = .ok (.bipush 9, 2) := by decide +kernel
theorem dX2_lower_27 : decode cX2_lower 27 = .ok (.if_icmp .ge 21, 3) := by decide +kernel
theorem dX2_lower_30 : decode cX2_lower 30 = .ok (.aload_n 2, 1) := by decide +kernel
theorem dX2_lower_31 : decode cX2_lower 31 = .ok (.iload_n 3, 1) := by decide +kernel
theorem dX2_lower_32 : decode cX2_lower 32 = .ok (.aload_n 0, 1) := by decide +kernel
theorem dX2_lower_33 : decode cX2_lower 33 = .ok (.getfield 38, 3) := by decide +kernel
theorem dX2_lower_36 : decode cX2_lower 36 = .ok (.iload_n 3, 1) := by decide +kernel
theorem dX2_lower_37 : decode cX2_lower 37 = .ok (.laload, 1) := by decide +kernel
theorem dX2_lower_38 : decode cX2_lower 38 = .ok (.invokestatic 109, 3) := by decide +kernel
theorem dX2_lower_41 : decode cX2_lower 41 = .ok (.iastore, 1) := by decide +kernel
theorem dX2_lower_42 : decode cX2_lower 42 = .ok (.iinc 3 1, 3) := by decide +kernel
theorem dX2_lower_45 : decode cX2_lower 45 = .ok (.goto (-21), 3) := by decide +kernel
theorem dX2_lower_48 : decode cX2_lower 48 = .ok (.aload_n 2, 1) := by decide +kernel
theorem dX2_lower_49 : decode cX2_lower 49 = .ok (.invokestatic 73, 3) := by decide +kernel
theorem dX2_lower_52 : decode cX2_lower 52 = .ok (.ireturn, 1) := by decide +kernel
theorem dX2_append_0 : decode cX2_append 0 = .ok (.iload_n 1, 1) := by decide +kernel
theorem dX2_append_1 : decode cX2_append 1 = .ok (.bipush 33, 2) := by decide +kernel
theorem dX2_append_3 : decode cX2_append 3 = .ok (.if_icmp .lt 9, 3) := by decide +kernel
theorem dX2_append_6 : decode cX2_append 6 = .ok (.iload_n 1, 1) := by decide +kernel
theorem dX2_append_7 : decode cX2_append 7 = .ok (.bipush 126, 2) := by decide +kernel
theorem dX2_append_9 : decode cX2_append 9 = .ok (.if_icmp .le 13, 3) := by decide +kernel
theorem dX2_append_12 : decode cX2_append 12 = .ok (.new 93, 3) := by decide +kernel
theorem dX2_append_15 : decode cX2_append 15 = .ok (.dup, 1) := by decide +kernel
theorem dX2_append_16 : decode cX2_append 16 = .ok (.ldc 113, 2) := by decide +kernel
theorem dX2_append_18 : decode cX2_append 18 = .ok (.invokespecial 97, 3) := by decide +kernel
theorem dX2_append_21 : decode cX2_append 21 = .ok (.athrow, 1) := by decide +kernel
theorem dX2_append_22 : decode cX2_append 22 = .ok (.aload_n 0, 1) := by decide +kernel
theorem dX2_append_23 : decode cX2_append 23 = .ok (.getfield 35, 3) := by decide +kernel
theorem dX2_append_26 : decode cX2_append 26 = .ok (.bipush 60, 2) := by decide +kernel
theorem dX2_append_28 : decode cX2_append 28 = .ok (.if_icmp .lt 13, 3) := by decide +kernel
theorem dX2_append_31 : decode cX2_append 31 = .ok (.new 115, 3) := by decide +kernel
theorem dX2_append_34 : decode cX2_append 34 = .ok (.dup, 1) := by decide +kernel
theorem dX2_append_35 : decode cX2_append 35 = .ok (.ldc 117, 2) := by decide +kernel
theorem dX2_append_37 : decode cX2_append 37 = .ok (.invokespecial 119, 3) := by decide +kernel
theorem dX2_append_40 : decode cX2_append 40 = .ok (.athrow, 1) := by decide +kernel
theorem dX2_append_41 : decode cX2_append 41 = .ok (.aload_n 0, 1) := by decide +kernel
theorem dX2_append_42 : decode cX2_append 42 = .ok (.getfield 31, 3) := by decide +kernel
theorem dX2_append_45 : decode cX2_append 45 = .ok (.aload_n 0, 1) := by decide +kernel
theorem dX2_append_46 : decode cX2_append 46 = .ok (.getfield 35, 3) := by decide +kernel
theorem dX2_append_49 : decode cX2_append 49 = .ok (.iload_n 1, 1) := by decide +kernel
theorem dX2_append_50 : decode cX2_append 50 = .ok (.iastore, 1) := by decide +kernel
theorem dX2_append_51 : decode cX2_append 51 = .ok (.aload_n 0, 1) := by decide +kernel
theorem dX2_append_52 : decode cX2_append 52 = .ok (.dup, 1) := by decide +kernel
theorem dX2_append_53 : decode cX2_append 53 = .ok (.getfield 35, 3) := by decide +kernel
theorem dX2_append_56 : decode cX2_append 56 = .ok (.iconst 1, 1) := by decide +kernel
theorem dX2_append_57 : decode cX2_append 57 = .ok (.iadd, 1) := by decide +kernel
theorem dX2_append_58 : decode cX2_append 58 = .ok (.putfield 35, 3) := by decide +kernel
theorem dX2_append_61 : decode cX2_append 61 = .ok (.aload_n 0, 1) := by decide +kernel
theorem dX2_append_62 : decode cX2_append 62 = .ok (.getfield 35, 3) := by decide +kernel
theorem dX2_append_65 : decode cX2_append 65 = .ok (.ireturn, 1) := by decide +kernel
theorem dX2_clearBuffer_0 : decode cX2_clearBuffer 0 = .ok (.aload_n 0, 1) := by decide +kernel
theorem dX2_clearBuffer_1 : decode cX2_clearBuffer 1 = .ok (.getfield 35, 3) := by decide +kernel
theorem dX2_clearBuffer_4 : decode cX2_clearBuffer 4 = .ok (.istore_n 1, 1) := by decide +kernel
theorem dX2_clearBuffer_5 : decode cX2_clearBuffer 5 = .ok (.aload_n 0, 1) := by decide +kernel
theorem dX2_clearBuffer_6 : decode cX2_clearBuffer 6 = .ok (.iconst 0, 1) := by decide +kernel
theorem dX2_clearBuffer_7 : decode cX2_clearBuffer 7 = .ok (.putfield 35, 3) := by decide +kernel
theorem dX2_clearBuffer_10 : decode cX2_clearBuffer 10 = .ok (.iload_n 1, 1) := by decide +kernel
theorem dX2_clearBuffer_11 : decode cX2_clearBuffer 11 = .ok (.ireturn, 1) := by decide +kernel
theorem dX2_firstError_0 : decode cX2_firstError 0 = .ok (.aload_n 0, 1) := by decide +kernel
theorem dX2_firstError_1 : decode cX2_firstError 1 = .ok (.invokevirtual 120, 3) := by decide +kernel
theorem dX2_firstError_4 : decode cX2_firstError 4 = .ok (.ireturn, 1) := by decide +kernel
theorem dX2_load_0 : decode cX2_load 0 = .ok (.iload_n 1, 1) := by decide +kernel
theorem dX2_load_1 : decode cX2_load 1 = .ok (.invokestatic 49, 3) := by decide +kernel
theorem dX2_load_4 : decode cX2_load 4 = .ok (.aload_n 0, 1) := by decide +kernel
theorem dX2_load_5 : decode cX2_load 5 = .ok (.getfield 35, 3) := by decide +kernel
theorem dX2_load_8 : decode cX2_load 8 = .ok (.ifCond .eq 14, 3) := by decide +kernel
theorem dX2_load_11 : decode cX2_load 11 = .ok (.aload_n 0, 1) := by decide +kernel
theorem dX2_load_12 : decode cX2_load 12 = .ok (.invokevirtual 120, 3) := by decide +kernel
theorem dX2_load_15 : decode cX2_load 15 = .ok (.aload_n 0, 1) := by decide +kernel
theorem dX2_load_16 : decode cX2_load 16 = .ok (.getfield 35, 3) := by decide +kernel
theorem dX2_load_19 : decode cX2_load 19 = .ok (.if_icmp .ge 13, 3) := by decide +kernel
theorem dX2_load_22 : decode cX2_load 22 = .ok (.new 93, 3) := by decide +kernel
theorem dX2_load_25 : decode cX2_load 25 = .ok (.dup, 1) := by decide +kernel
theorem dX2_load_26 : decode cX2_load 26 = .ok (.ldc 124, 2) := by decide +kernel
theorem dX2_load_28 : decode cX2_load 28 = .ok (.invokespecial 97, 3) := by decide +kernel
theorem dX2_load_31 : decode cX2_load 31 = .ok (.athrow, 1) := by decide +kernel
theorem dX2_load_32 : decode cX2_load 32 = .ok (.aload_n 0, 1) := by decide +kernel
theorem dX2_load_33 : decode cX2_load 33 = .ok (.invokevirtual 59, 3) := by decide +kernel
theorem dX2_load_36 : decode cX2_load 36 = .ok (.aload_n 0, 1) := by decide +kernel
theorem dX2_load_37 : decode cX2_load 37 = .ok (.getfield 12, 3) := by decide +kernel
theorem dX2_load_40 : decode cX2_load 40 = .ok (.getfield 62, 3) := by decide +kernel
theorem dX2_load_43 : decode cX2_load 43 = .ok (.iload_n 1, 1) := by decide +kernel
theorem dX2_load_44 : decode cX2_load 44 = .ok (.aaload, 1) := by decide +kernel
theorem dX2_load_45 : decode cX2_load 45 = .ok (.astore_n 2, 1) := by decide +kernel
theorem dX2_load_46 : decode cX2_load 46 = .ok (.iconst 0, 1) := by decide +kernel
theorem dX2_load_47 : decode cX2_load 47 = .ok (.istore_n 3, 1) := by decide +kernel
theorem dX2_load_48 : decode cX2_load 48 = .ok (.iload_n 3, 1) := by decide +kernel
theorem dX2_load_49 : decode cX2_load 49 = .ok (.bipush 9, 2) := by decide +kernel
theorem dX2_load_51 : decode cX2_load 51 = .ok (.if_icmp .ge 40, 3) := by decide +kernel
theorem dX2_load_54 : decode cX2_load 54 = .ok (.aload_n 2, 1) := by decide +kernel
theorem dX2_load_55 : decode cX2_load 55 = .ok (.iload_n 3, 1) := by decide +kernel
theorem dX2_load_56 : decode cX2_load 56 = .ok (.iload_n 3, 1) := by decide +kernel
theorem dX2_load_57 : decode cX2_load 57 = .ok (.aload_n 0, 1) := by decide +kernel
theorem dX2_load_58 : decode cX2_load 58 = .ok (.getfield 35, 3) := by decide +kernel
theorem dX2_load_61 : decode cX2_load 61 = .ok (.if_icmp .ge 22, 3) := by decide +kernel
theorem dX2_load_64 : decode cX2_load 64 = .ok (.aload_n 0, 1) := by decide +kernel
theorem dX2_load_65 : decode cX2_load 65 = .ok (.getfield 31, 3) := by decide +kernel
theorem dX2_load_68 : decode cX2_load 68 = .ok (.aload_n 0, 1) := by decide +kernel
theorem dX2_load_69 : decode cX2_load 69 = .ok (.getfield 35, 3) := by decide +kernel
theorem dX2_load_72 : decode cX2_load 72 = .ok (.iconst 1, 1) := by decide +kernel
theorem dX2_load_73 : decode cX2_load 73 = .ok (.isub, 1) := by decide +kernel
theorem dX2_load_74 : decode cX2_load 74 = .ok (.iload_n 3, 1) := by decide +kernel
theorem dX2_load_75 : decode cX2_load 75 = .ok (.isub, 1) := by decide +kernel
theorem dX2_load_76 : decode cX2_load 76 = .ok (.iaload, 1) := by decide +kernel
theorem dX2_load_77 : decode cX2_load 77 = .ok (.invokestatic 126, 3) := by decide +kernel
theorem dX2_load_80 : decode cX2_load 80 = .ok (.goto 4, 3) := by decide +kernel
theorem dX2_load_83 : decode cX2_load 83 = .ok (.iconst 0, 1) := by decide +kernel
theorem dX2_load_84 : decode cX2_load 84 = .ok (.iastore, 1) := by decide +kernel
theorem dX2_load_85 : decode cX2_load 85 = .ok (.iinc 3 1, 3) := by decide +kernel
theorem dX2_load_88 : decode cX2_load 88 = .ok (.goto (-40), 3) := by decide +kernel
theorem dX2_load_91 : decode cX2_load 91 = .ok (.aload_n 0, 1) := by decide +kernel
theorem dX2_load_92 : decode cX2_load 92 = .ok (.iconst 0, 1) := by decide +kernel
theorem dX2_load_93 : decode cX2_load 93 = .ok (.putfield 35, 3) := by decide +kernel
theorem dX2_load_96 : decode cX2_load 96 = .ok (.aload_n 2, 1) := by decide +kernel
theorem dX2_load_97 : decode cX2_load 97 = .ok (.invokestatic 73, 3) := by decide +kernel
theorem dX2_load_100 : decode cX2_load 100 = .ok (.ireturn, 1) := by decide +kernel
theorem dX2_keep_0 : decode cX2_keep 0 = .ok (.iload_n 1, 1) := by decide +kernel
theorem dX2_keep_1 : decode cX2_keep 1 = .ok (.invokestatic 130, 3) := by decide +kernel
theorem dX2_keep_4 : decode cX2_keep 4 = .ok (.aload_n 0, 1) := by decide +kernel
theorem dX2_keep_5 : decode cX2_keep 5 = .ok (.getfield 24, 3) := by decide +kernel
theorem dX2_keep_8 : decode cX2_keep 8 = .ok (.iload_n 1, 1) := by decide +kernel
theorem dX2_keep_9 : decode cX2_keep 9 = .ok (.aaload, 1) := by decide +kernel
theorem dX2_keep_10 : decode cX2_keep 10 = .ok (.aload_n 0, 1) := by decide +kernel
theorem dX2_keep_11 : decode cX2_keep 11 = .ok (.getfield 12, 3) := by decide +kernel
theorem dX2_keep_14 : decode cX2_keep 14 = .ok (.invokevirtual 133, 3) := by decide +kernel
theorem dX2_keep_17 : decode cX2_keep 17 = .ok (.aload_n 0, 1) := by decide +kernel
theorem dX2_keep_18 : decode cX2_keep 18 = .ok (.getfield 27, 3) := by decide +kernel
theorem dX2_keep_21 : decode cX2_keep 21 = .ok (.iload_n 1, 1) := by decide +kernel
theorem dX2_keep_22 : decode cX2_keep 22 = .ok (.iconst 1, 1) := by decide +kernel
theorem dX2_keep_23 : decode cX2_keep 23 = .ok (.bastore, 1) := by decide +kernel
theorem dX2_keep_24 : decode cX2_keep 24 = .ok (.aload_n 0, 1) := by decide +kernel
theorem dX2_keep_25 : decode cX2_keep 25 = .ok (.invokevirtual 137, 3) := by decide +kernel
theorem dX2_keep_28 : decode cX2_keep 28 = .ok (.ireturn, 1) := by decide +kernel
theorem dX2_goBack_0 : decode cX2_goBack 0 = .ok (.iload_n 1, 1) := by decide +kernel
theorem dX2_goBack_1 : decode cX2_goBack 1 = .ok (.invokestatic 130, 3) := by decide +kernel
theorem dX2_goBack_4 : decode cX2_goBack 4 = .ok (.aload_n 0, 1) := by decide +kernel
theorem dX2_goBack_5 : decode cX2_goBack 5 = .ok (.getfield 27, 3) := by decide +kernel
theorem dX2_goBack_8 : decode cX2_goBack 8 = .ok (.iload_n 1, 1) := by decide +kernel
theorem dX2_goBack_9 : decode cX2_goBack 9 = .ok (.baload, 1) := by decide +kernel
theorem dX2_goBack_10 : decode cX2_goBack 10 = .ok (.ifCond .ne 13, 3) := by decide +kernel
theorem dX2_goBack_13 : decode cX2_goBack 13 = .ok (.new 115, 3) := by decide +kernel
theorem dX2_goBack_16 : decode cX2_goBack 16 = .ok (.dup, 1) := by decide +kernel
theorem dX2_goBack_17 : decode cX2_goBack 17 = .ok (.ldc 140, 2) := by decide +kernel
theorem dX2_goBack_19 : decode cX2_goBack 19 = .ok (.invokespecial 119, 3) := by decide +kernel
theorem dX2_goBack_22 : decode cX2_goBack 22 = .ok (.athrow, 1) := by decide +kernel
theorem dX2_goBack_23 : decode cX2_goBack 23 = .ok (.aload_n 0, 1) := by decide +kernel
theorem dX2_goBack_24 : decode cX2_goBack 24 = .ok (.invokevirtual 59, 3) := by decide +kernel
theorem dX2_goBack_27 : decode cX2_goBack 27 = .ok (.aload_n 0, 1) := by decide +kernel
theorem dX2_goBack_28 : decode cX2_goBack 28 = .ok (.getfield 12, 3) := by decide +kernel
theorem dX2_goBack_31 : decode cX2_goBack 31 = .ok (.aload_n 0, 1) := by decide +kernel
theorem dX2_goBack_32 : decode cX2_goBack 32 = .ok (.getfield 24, 3) := by decide +kernel
theorem dX2_goBack_35 : decode cX2_goBack 35 = .ok (.iload_n 1, 1) := by decide +kernel
theorem dX2_goBack_36 : decode cX2_goBack 36 = .ok (.aaload, 1) := by decide +kernel
theorem dX2_goBack_37 : decode cX2_goBack 37 = .ok (.invokevirtual 133, 3) := by decide +kernel
theorem dX2_goBack_40 : decode cX2_goBack 40 = .ok (.aload_n 0, 1) := by decide +kernel
theorem dX2_goBack_41 : decode cX2_goBack 41 = .ok (.invokevirtual 137, 3) := by decide +kernel
theorem dX2_goBack_44 : decode cX2_goBack 44 = .ok (.ireturn, 1) := by decide +kernel
theorem dX2_undo_0 : decode cX2_undo 0 = .ok (.aload_n 0, 1) := by decide +kernel
theorem dX2_undo_1 : decode cX2_undo 1 = .ok (.getfield 20, 3) := by decide +kernel
theorem dX2_undo_4 : decode cX2_undo 4 = .ok (.ifCond .gt 13, 3) := by decide +kernel
theorem dX2_undo_7 : decode cX2_undo 7 = .ok (.new 115, 3) := by decide +kernel
theorem dX2_undo_10 : decode cX2_undo 10 = .ok (.dup, 1) := by decide +kernel
theorem dX2_undo_11 : decode cX2_undo 11 = .ok (.ldc 142, 2) := by decide +kernel
theorem dX2_undo_13 : decode cX2_undo 13 = .ok (.invokespecial 119, 3) := by decide +kernel
theorem dX2_undo_16 : decode cX2_undo 16 = .ok (.athrow, 1) := by decide +kernel
theorem dX2_undo_17 : decode cX2_undo 17 = .ok (.aload_n 0, 1) := by decide +kernel
theorem dX2_undo_18 : decode cX2_undo 18 = .ok (.dup, 1) := by decide +kernel
theorem dX2_undo_19 : decode cX2_undo 19 = .ok (.getfield 20, 3) := by decide +kernel
theorem dX2_undo_22 : decode cX2_undo 22 = .ok (.iconst 1, 1) := by decide +kernel
theorem dX2_undo_23 : decode cX2_undo 23 = .ok (.isub, 1) := by decide +kernel
theorem dX2_undo_24 : decode cX2_undo 24 = .ok (.putfield 20, 3) := by decide +kernel
theorem dX2_undo_27 : decode cX2_undo 27 = .ok (.aload_n 0, 1) := by decide +kernel
theorem dX2_undo_28 : decode cX2_undo 28 = .ok (.getfield 12, 3) := by decide +kernel
theorem dX2_undo_31 : decode cX2_undo 31 = .ok (.aload_n 0, 1) := by decide +kernel
theorem dX2_undo_32 : decode cX2_undo 32 = .ok (.getfield 16, 3) := by decide +kernel
theorem dX2_undo_35 : decode cX2_undo 35 = .ok (.aload_n 0, 1) := by decide +kernel
theorem dX2_undo_36 : decode cX2_undo 36 = .ok (.getfield 20, 3) := by decide +kernel
theorem dX2_undo_39 : decode cX2_undo 39 = .ok (.aaload, 1) := by decide +kernel
theorem dX2_undo_40 : decode cX2_undo 40 = .ok (.invokevirtual 133, 3) := by decide +kernel
theorem dX2_undo_43 : decode cX2_undo 43 = .ok (.aload_n 0, 1) := by decide +kernel
theorem dX2_undo_44 : decode cX2_undo 44 = .ok (.getfield 20, 3) := by decide +kernel
theorem dX2_undo_47 : decode cX2_undo 47 = .ok (.ireturn, 1) := by decide +kernel
theorem dX2_sign_0 : decode cX2_sign 0 = .ok (.iload_n 1, 1) := by decide +kernel
theorem dX2_sign_1 : decode cX2_sign 1 = .ok (.invokestatic 49, 3) := by decide +kernel
theorem dX2_sign_4 : decode cX2_sign 4 = .ok (.iload_n 2, 1) := by decide +kernel
theorem dX2_sign_5 : decode cX2_sign 5 = .ok (.invokestatic 53, 3) := by decide +kernel
theorem dX2_sign_8 : decode cX2_sign 8 = .ok (.aload_n 0, 1) := by decide +kernel
theorem dX2_sign_9 : decode cX2_sign 9 = .ok (.getfield 12, 3) := by decide +kernel
theorem dX2_sign_12 : decode cX2_sign 12 = .ok (.getfield 62, 3) := by decide +kernel
theorem dX2_sign_15 : decode cX2_sign 15 = .ok (.iload_n 1, 1) := by decide +kernel
theorem dX2_sign_16 : decode cX2_sign 16 = .ok (.aaload, 1) := by decide +kernel
theorem dX2_sign_17 : decode cX2_sign 17 = .ok (.iload_n 2, 1) := by decide +kernel
theorem dX2_sign_18 : decode cX2_sign 18 = .ok (.iaload, 1) := by decide +kernel
theorem dX2_sign_19 : decode cX2_sign 19 = .ok (.ireturn, 1) := by decide +kernel
theorem dX2_of_0 : decode cX2_of 0 = .ok (.iload_n 1, 1) := by decide +kernel
theorem dX2_of_1 : decode cX2_of 1 = .ok (.invokestatic 49, 3) := by decide +kernel
theorem dX2_of_4 : decode cX2_of 4 = .ok (.iload_n 2, 1) := by decide +kernel
theorem dX2_of_5 : decode cX2_of 5 = .ok (.iconst 4, 1) := by decide +kernel
theorem dX2_of_6 : decode cX2_of 6 = .ok (.invokestatic 144, 3) := by decide +kernel
theorem dX2_of_9 : decode cX2_of 9 = .ok (.aload_n 0, 1) := by decide +kernel
theorem dX2_of_10 : decode cX2_of 10 = .ok (.getfield 12, 3) := by decide +kernel
theorem dX2_of_13 : decode cX2_of 13 = .ok (.getfield 62, 3) := by decide +kernel
theorem dX2_of_16 : decode cX2_of 16 = .ok (.iload_n 1, 1) := by decide +kernel
theorem dX2_of_17 : decode cX2_of 17 = .ok (.aaload, 1) := by decide +kernel
theorem dX2_of_18 : decode cX2_of 18 = .ok (.astore_n 3, 1) := by decide +kernel
theorem dX2_of_19 : decode cX2_of 19 = .ok (.iload_n 2, 1) := by decide +kernel
theorem dX2_of_20 : decode cX2_of 20 = .ok (.tableswitch 44 0 2 #[28, 33, 38], 28) := by decide +kernel
theorem dX2_of_48 : decode cX2_of 48 = .ok (.aload_n 3, 1) := by decide +kernel
theorem dX2_of_49 : decode cX2_of 49 = .ok (.invokestatic 73, 3) := by decide +kernel
theorem dX2_of_52 : decode cX2_of 52 = .ok (.ireturn, 1) := by decide +kernel
theorem dX2_of_53 : decode cX2_of 53 = .ok (.aload_n 3, 1) := by decide +kernel
theorem dX2_of_54 : decode cX2_of 54 = .ok (.invokestatic 148, 3) := by decide +kernel
theorem dX2_of_57 : decode cX2_of 57 = .ok (.ireturn, 1) := by decide +kernel
theorem dX2_of_58 : decode cX2_of 58 = .ok (.aload_n 3, 1) := by decide +kernel
theorem dX2_of_59 : decode cX2_of 59 = .ok (.iconst 1, 1) := by decide +kernel
theorem dX2_of_60 : decode cX2_of 60 = .ok (.invokestatic 151, 3) := by decide +kernel
theorem dX2_of_63 : decode cX2_of 63 = .ok (.ireturn, 1) := by decide +kernel
theorem dX2_of_64 : decode cX2_of 64 = .ok (.aload_n 3, 1) := by decide +kernel
theorem dX2_of_65 : decode cX2_of 65 = .ok (.invokestatic 155, 3) := by decide +kernel
theorem dX2_of_68 : decode cX2_of 68 = .ok (.ireturn, 1) := by decide +kernel
theorem dX2_isRoot_0 : decode cX2_isRoot 0 = .ok (.iload_n 1, 1) := by decide +kernel
theorem dX2_isRoot_1 : decode cX2_isRoot 1 = .ok (.invokestatic 49, 3) := by decide +kernel
theorem dX2_isRoot_4 : decode cX2_isRoot 4 = .ok (.iload_n 2, 1) := by decide +kernel
theorem dX2_isRoot_5 : decode cX2_isRoot 5 = .ok (.invokestatic 56, 3) := by decide +kernel
theorem dX2_isRoot_8 : decode cX2_isRoot 8 = .ok (.aload_n 0, 1) := by decide +kernel
theorem dX2_isRoot_9 : decode cX2_isRoot 9 = .ok (.getfield 12, 3) := by decide +kernel
theorem dX2_isRoot_12 : decode cX2_isRoot 12 = .ok (.getfield 62, 3) := by decide +kernel
theorem dX2_isRoot_15 : decode cX2_isRoot 15 = .ok (.iload_n 1, 1) := by decide +kernel
theorem dX2_isRoot_16 : decode cX2_isRoot 16 = .ok (.aaload, 1) := by decide +kernel
theorem dX2_isRoot_17 : decode cX2_isRoot 17 = .ok (.iload_n 2, 1) := by decide +kernel
theorem dX2_isRoot_18 : decode cX2_isRoot 18 = .ok (.invokestatic 158, 3) := by decide +kernel
theorem dX2_isRoot_21 : decode cX2_isRoot 21 = .ok (.ifCond .eq 7, 3) := by decide +kernel
theorem dX2_isRoot_24 : decode cX2_isRoot 24 = .ok (.iconst 1, 1) := by decide +kernel
theorem dX2_isRoot_25 : decode cX2_isRoot 25 = .ok (.goto 4, 3) := by decide +kernel
theorem dX2_isRoot_28 : decode cX2_isRoot 28 = .ok (.iconst 0, 1) := by decide +kernel
theorem dX2_isRoot_29 : decode cX2_isRoot 29 = .ok (.ireturn, 1) := by decide +kernel
theorem dX2_times_0 : decode cX2_times 0 = .ok (.iload_n 1, 1) := by decide +kernel
theorem dX2_times_1 : decode cX2_times 1 = .ok (.invokestatic 49, 3) := by decide +kernel
theorem dX2_times_4 : decode cX2_times 4 = .ok (.iload_n 2, 1) := by decide +kernel
theorem dX2_times_5 : decode cX2_times 5 = .ok (.invokestatic 56, 3) := by decide +kernel
theorem dX2_times_8 : decode cX2_times 8 = .ok (.iload_n 3, 1) := by decide +kernel
theorem dX2_times_9 : decode cX2_times 9 = .ok (.iconst 2, 1) := by decide +kernel
theorem dX2_times_10 : decode cX2_times 10 = .ok (.invokestatic 144, 3) := by decide +kernel
theorem dX2_times_13 : decode cX2_times 13 = .ok (.aload_n 0, 1) := by decide +kernel
theorem dX2_times_14 : decode cX2_times 14 = .ok (.getfield 12, 3) := by decide +kernel
theorem dX2_times_17 : decode cX2_times 17 = .ok (.getfield 62, 3) := by decide +kernel
theorem dX2_times_20 : decode cX2_times 20 = .ok (.iload_n 1, 1) := by decide +kernel
theorem dX2_times_21 : decode cX2_times 21 = .ok (.aaload, 1) := by decide +kernel
theorem dX2_times_22 : decode cX2_times 22 = .ok (.astore 4, 2) := by decide +kernel
theorem dX2_times_24 : decode cX2_times 24 = .ok (.iload_n 3, 1) := by decide +kernel
theorem dX2_times_25 : decode cX2_times 25 = .ok (.ifCond .ne 17, 3) := by decide +kernel
theorem dX2_times_28 : decode cX2_times 28 = .ok (.aload 4, 2) := by decide +kernel
theorem dX2_times_30 : decode cX2_times 30 = .ok (.iload_n 2, 1) := by decide +kernel
theorem dX2_times_31 : decode cX2_times 31 = .ok (.aload_n 0, 1) := by decide +kernel
theorem dX2_times_32 : decode cX2_times 32 = .ok (.getfield 44, 3) := by decide +kernel
theorem dX2_times_35 : decode cX2_times 35 = .ok (.iconst 0, 1) := by decide +kernel
theorem dX2_times_36 : decode cX2_times 36 = .ok (.invokestatic 83, 3) := by decide +kernel
theorem dX2_times_39 : decode cX2_times 39 = .ok (.goto 9, 3) := by decide +kernel
theorem dX2_times_42 : decode cX2_times 42 = .ok (.aload 4, 2) := by decide +kernel
theorem dX2_times_44 : decode cX2_times 44 = .ok (.iload_n 2, 1) := by decide +kernel
theorem dX2_times_45 : decode cX2_times 45 = .ok (.invokestatic 161, 3) := by decide +kernel
theorem dX2_times_48 : decode cX2_times 48 = .ok (.ireturn, 1) := by decide +kernel
theorem dX2_quotients_0 : decode cX2_quotients 0 = .ok (.iload_n 1, 1) := by decide +kernel
theorem dX2_quotients_1 : decode cX2_quotients 1 = .ok (.invokestatic 49, 3) := by decide +kernel
theorem dX2_quotients_4 : decode cX2_quotients 4 = .ok (.iload_n 2, 1) := by decide +kernel
theorem dX2_quotients_5 : decode cX2_quotients 5 = .ok (.invokestatic 56, 3) := by decide +kernel
theorem dX2_quotients_8 : decode cX2_quotients 8 = .ok (.aload_n 0, 1) := by decide +kernel
theorem dX2_quotients_9 : decode cX2_quotients 9 = .ok (.aload_n 0, 1) := by decide +kernel
theorem dX2_quotients_10 : decode cX2_quotients 10 = .ok (.getfield 12, 3) := by decide +kernel
theorem dX2_quotients_13 : decode cX2_quotients 13 = .ok (.getfield 62, 3) := by decide +kernel
theorem dX2_quotients_16 : decode cX2_quotients 16 = .ok (.iload_n 1, 1) := by decide +kernel
theorem dX2_quotients_17 : decode cX2_quotients 17 = .ok (.aaload, 1) := by decide +kernel
theorem dX2_quotients_18 : decode cX2_quotients 18 = .ok (.iload_n 2, 1) := by decide +kernel
theorem dX2_quotients_19 : decode cX2_quotients 19 = .ok (.invokevirtual 164, 3) := by decide +kernel
theorem dX2_quotients_22 : decode cX2_quotients 22 = .ok (.ireturn, 1) := by decide +kernel
theorem dX2_best_0 : decode cX2_best 0 = .ok (.iload_n 1, 1) := by decide +kernel
theorem dX2_best_1 : decode cX2_best 1 = .ok (.invokestatic 49, 3) := by decide +kernel
theorem dX2_best_4 : decode cX2_best 4 = .ok (.iload_n 2, 1) := by decide +kernel
theorem dX2_best_5 : decode cX2_best 5 = .ok (.invokestatic 56, 3) := by decide +kernel
theorem dX2_best_8 : decode cX2_best 8 = .ok (.aload_n 0, 1) := by decide +kernel
theorem dX2_best_9 : decode cX2_best 9 = .ok (.aload_n 0, 1) := by decide +kernel
theorem dX2_best_10 : decode cX2_best 10 = .ok (.getfield 12, 3) := by decide +kernel
theorem dX2_best_13 : decode cX2_best 13 = .ok (.getfield 62, 3) := by decide +kernel
theorem dX2_best_16 : decode cX2_best 16 = .ok (.iload_n 1, 1) := by decide +kernel
theorem dX2_best_17 : decode cX2_best 17 = .ok (.aaload, 1) := by decide +kernel
theorem dX2_best_18 : decode cX2_best 18 = .ok (.iload_n 2, 1) := by decide +kernel
theorem dX2_best_19 : decode cX2_best 19 = .ok (.aload_n 0, 1) := by decide +kernel
theorem dX2_best_20 : decode cX2_best 20 = .ok (.getfield 44, 3) := by decide +kernel
theorem dX2_best_23 : decode cX2_best 23 = .ok (.iconst 0, 1) := by decide +kernel
theorem dX2_best_24 : decode cX2_best 24 = .ok (.invokestatic 83, 3) := by decide +kernel
theorem dX2_best_27 : decode cX2_best 27 = .ok (.invokevirtual 167, 3) := by decide +kernel
theorem dX2_best_30 : decode cX2_best 30 = .ok (.ireturn, 1) := by decide +kernel
theorem dX2_many_0 : decode cX2_many 0 = .ok (.iload_n 1, 1) := by decide +kernel
theorem dX2_many_1 : decode cX2_many 1 = .ok (.invokestatic 49, 3) := by decide +kernel
theorem dX2_many_4 : decode cX2_many 4 = .ok (.iload_n 2, 1) := by decide +kernel
theorem dX2_many_5 : decode cX2_many 5 = .ok (.invokestatic 49, 3) := by decide +kernel
theorem dX2_many_8 : decode cX2_many 8 = .ok (.iload_n 3, 1) := by decide +kernel
theorem dX2_many_9 : decode cX2_many 9 = .ok (.iconst 2, 1) := by decide +kernel
theorem dX2_many_10 : decode cX2_many 10 = .ok (.invokestatic 144, 3) := by decide +kernel
theorem dX2_many_13 : decode cX2_many 13 = .ok (.aload_n 0, 1) := by decide +kernel
theorem dX2_many_14 : decode cX2_many 14 = .ok (.getfield 12, 3) := by decide +kernel
theorem dX2_many_17 : decode cX2_many 17 = .ok (.getfield 62, 3) := by decide +kernel
theorem dX2_many_20 : decode cX2_many 20 = .ok (.iload_n 1, 1) := by decide +kernel
theorem dX2_many_21 : decode cX2_many 21 = .ok (.aaload, 1) := by decide +kernel
theorem dX2_many_22 : decode cX2_many 22 = .ok (.aload_n 0, 1) := by decide +kernel
theorem dX2_many_23 : decode cX2_many 23 = .ok (.getfield 12, 3) := by decide +kernel
theorem dX2_many_26 : decode cX2_many 26 = .ok (.getfield 62, 3) := by decide +kernel
theorem dX2_many_29 : decode cX2_many 29 = .ok (.iload_n 2, 1) := by decide +kernel
theorem dX2_many_30 : decode cX2_many 30 = .ok (.aaload, 1) := by decide +kernel
theorem dX2_many_31 : decode cX2_many 31 = .ok (.iload_n 3, 1) := by decide +kernel
theorem dX2_many_32 : decode cX2_many 32 = .ok (.invokestatic 170, 3) := by decide +kernel
theorem dX2_many_35 : decode cX2_many 35 = .ok (.ireturn, 1) := by decide +kernel
theorem dX2_isIn_0 : decode cX2_isIn 0 = .ok (.iload_n 1, 1) := by decide +kernel
theorem dX2_isIn_1 : decode cX2_isIn 1 = .ok (.invokestatic 49, 3) := by decide +kernel
theorem dX2_isIn_4 : decode cX2_isIn 4 = .ok (.iload_n 2, 1) := by decide +kernel
theorem dX2_isIn_5 : decode cX2_isIn 5 = .ok (.invokestatic 49, 3) := by decide +kernel
theorem dX2_isIn_8 : decode cX2_isIn 8 = .ok (.iload_n 3, 1) := by decide +kernel
theorem dX2_isIn_9 : decode cX2_isIn 9 = .ok (.invokestatic 49, 3) := by decide +kernel
theorem dX2_isIn_12 : decode cX2_isIn 12 = .ok (.iload 4, 2) := by decide +kernel
theorem dX2_isIn_14 : decode cX2_isIn 14 = .ok (.iconst 2, 1) := by decide +kernel
theorem dX2_isIn_15 : decode cX2_isIn 15 = .ok (.invokestatic 144, 3) := by decide +kernel
theorem dX2_isIn_18 : decode cX2_isIn 18 = .ok (.aload_n 0, 1) := by decide +kernel
theorem dX2_isIn_19 : decode cX2_isIn 19 = .ok (.getfield 12, 3) := by decide +kernel
theorem dX2_isIn_22 : decode cX2_isIn 22 = .ok (.getfield 62, 3) := by decide +kernel
theorem dX2_isIn_25 : decode cX2_isIn 25 = .ok (.iload_n 1, 1) := by decide +kernel
theorem dX2_isIn_26 : decode cX2_isIn 26 = .ok (.aaload, 1) := by decide +kernel
theorem dX2_isIn_27 : decode cX2_isIn 27 = .ok (.aload_n 0, 1) := by decide +kernel
theorem dX2_isIn_28 : decode cX2_isIn 28 = .ok (.getfield 12, 3) := by decide +kernel
theorem dX2_isIn_31 : decode cX2_isIn 31 = .ok (.getfield 62, 3) := by decide +kernel
theorem dX2_isIn_34 : decode cX2_isIn 34 = .ok (.iload_n 2, 1) := by decide +kernel
theorem dX2_isIn_35 : decode cX2_isIn 35 = .ok (.aaload, 1) := by decide +kernel
theorem dX2_isIn_36 : decode cX2_isIn 36 = .ok (.aload_n 0, 1) := by decide +kernel
theorem dX2_isIn_37 : decode cX2_isIn 37 = .ok (.getfield 12, 3) := by decide +kernel
theorem dX2_isIn_40 : decode cX2_isIn 40 = .ok (.getfield 62, 3) := by decide +kernel
theorem dX2_isIn_43 : decode cX2_isIn 43 = .ok (.iload_n 3, 1) := by decide +kernel
theorem dX2_isIn_44 : decode cX2_isIn 44 = .ok (.aaload, 1) := by decide +kernel
theorem dX2_isIn_45 : decode cX2_isIn 45 = .ok (.iload 4, 2) := by decide +kernel
theorem dX2_isIn_47 : decode cX2_isIn 47 = .ok (.invokestatic 174, 3) := by decide +kernel
theorem dX2_isIn_50 : decode cX2_isIn 50 = .ok (.ifCond .eq 7, 3) := by decide +kernel
theorem dX2_isIn_53 : decode cX2_isIn 53 = .ok (.iconst 1, 1) := by decide +kernel
theorem dX2_isIn_54 : decode cX2_isIn 54 = .ok (.goto 4, 3) := by decide +kernel
theorem dX2_isIn_57 : decode cX2_isIn 57 = .ok (.iconst 0, 1) := by decide +kernel
theorem dX2_isIn_58 : decode cX2_isIn 58 = .ok (.ireturn, 1) := by decide +kernel
theorem dX2_coefficient_0 : decode cX2_coefficient 0 = .ok (.iload_n 1, 1) := by decide +kernel
theorem dX2_coefficient_1 : decode cX2_coefficient 1 = .ok (.invokestatic 53, 3) := by decide +kernel
theorem dX2_coefficient_4 : decode cX2_coefficient 4 = .ok (.aload_n 0, 1) := by decide +kernel
theorem dX2_coefficient_5 : decode cX2_coefficient 5 = .ok (.invokevirtual 106, 3) := by decide +kernel
theorem dX2_coefficient_8 : decode cX2_coefficient 8 = .ok (.aload_n 0, 1) := by decide +kernel
theorem dX2_coefficient_9 : decode cX2_coefficient 9 = .ok (.getfield 38, 3) := by decide +kernel
theorem dX2_coefficient_12 : decode cX2_coefficient 12 = .ok (.iload_n 1, 1) := by decide +kernel
theorem dX2_coefficient_13 : decode cX2_coefficient 13 = .ok (.laload, 1) := by decide +kernel
theorem dX2_coefficient_14 : decode cX2_coefficient 14 = .ok (.lreturn, 1) := by decide +kernel
theorem dX2_count_0 : decode cX2_count 0 = .ok (.iload_n 1, 1) := by decide +kernel
theorem dX2_count_1 : decode cX2_count 1 = .ok (.bipush 8, 2) := by decide +kernel
theorem dX2_count_3 : decode cX2_count 3 = .ok (.invokestatic 144, 3) := by decide +kernel
theorem dX2_count_6 : decode cX2_count 6 = .ok (.iload_n 1, 1) := by decide +kernel
theorem dX2_count_7 : decode cX2_count 7 = .ok (.tableswitch 88 0 6 #[41, 49, 55, 61, 67, 75, 83], 41) := by decide +kernel
theorem dX2_count_48 : decode cX2_count 48 = .ok (.aload_n 0, 1) := by decide +kernel
theorem dX2_count_49 : decode cX2_count 49 = .ok (.getfield 12, 3) := by decide +kernel
theorem dX2_count_52 : decode cX2_count 52 = .ok (.getfield 100, 3) := by decide +kernel
theorem dX2_count_55 : decode cX2_count 55 = .ok (.ireturn, 1) := by decide +kernel
theorem dX2_count_56 : decode cX2_count 56 = .ok (.aload_n 0, 1) := by decide +kernel
theorem dX2_count_57 : decode cX2_count 57 = .ok (.iconst 1, 1) := by decide +kernel
theorem dX2_count_58 : decode cX2_count 58 = .ok (.invokevirtual 178, 3) := by decide +kernel
theorem dX2_count_61 : decode cX2_count 61 = .ok (.ireturn, 1) := by decide +kernel
theorem dX2_count_62 : decode cX2_count 62 = .ok (.aload_n 0, 1) := by decide +kernel
theorem dX2_count_63 : decode cX2_count 63 = .ok (.iconst (-1), 1) := by decide +kernel
theorem dX2_count_64 : decode cX2_count 64 = .ok (.invokevirtual 178, 3) := by decide +kernel
theorem dX2_count_67 : decode cX2_count 67 = .ok (.ireturn, 1) := by decide +kernel
theorem dX2_count_68 : decode cX2_count 68 = .ok (.aload_n 0, 1) := by decide +kernel
theorem dX2_count_69 : decode cX2_count 69 = .ok (.iconst 0, 1) := by decide +kernel
theorem dX2_count_70 : decode cX2_count 70 = .ok (.invokevirtual 178, 3) := by decide +kernel
theorem dX2_count_73 : decode cX2_count 73 = .ok (.ireturn, 1) := by decide +kernel
theorem dX2_count_74 : decode cX2_count 74 = .ok (.aload_n 0, 1) := by decide +kernel
theorem dX2_count_75 : decode cX2_count 75 = .ok (.getfield 12, 3) := by decide +kernel
theorem dX2_count_78 : decode cX2_count 78 = .ok (.getfield 90, 3) := by decide +kernel
theorem dX2_count_81 : decode cX2_count 81 = .ok (.ireturn, 1) := by decide +kernel
theorem dX2_count_82 : decode cX2_count 82 = .ok (.aload_n 0, 1) := by decide +kernel
theorem dX2_count_83 : decode cX2_count 83 = .ok (.getfield 12, 3) := by decide +kernel
theorem dX2_count_86 : decode cX2_count 86 = .ok (.getfield 70, 3) := by decide +kernel
theorem dX2_count_89 : decode cX2_count 89 = .ok (.ireturn, 1) := by decide +kernel
theorem dX2_count_90 : decode cX2_count 90 = .ok (.aload_n 0, 1) := by decide +kernel
theorem dX2_count_91 : decode cX2_count 91 = .ok (.invokevirtual 181, 3) := by decide +kernel
theorem dX2_count_94 : decode cX2_count 94 = .ok (.ireturn, 1) := by decide +kernel
theorem dX2_count_95 : decode cX2_count 95 = .ok (.aload_n 0, 1) := by decide +kernel
theorem dX2_count_96 : decode cX2_count 96 = .ok (.getfield 20, 3) := by decide +kernel
theorem dX2_count_99 : decode cX2_count 99 = .ok (.ireturn, 1) := by decide +kernel
theorem dX2_takenShare_0 : decode cX2_takenShare 0 = .ok (.iload_n 1, 1) := by decide +kernel
theorem dX2_takenShare_1 : decode cX2_takenShare 1 = .ok (.invokestatic 49, 3) := by decide +kernel
theorem dX2_takenShare_4 : decode cX2_takenShare 4 = .ok (.aload_n 0, 1) := by decide +kernel
theorem dX2_takenShare_5 : decode cX2_takenShare 5 = .ok (.getfield 12, 3) := by decide +kernel
theorem dX2_takenShare_8 : decode cX2_takenShare 8 = .ok (.getfield 62, 3) := by decide +kernel
theorem dX2_takenShare_11 : decode cX2_takenShare 11 = .ok (.iload_n 1, 1) := by decide +kernel
theorem dX2_takenShare_12 : decode cX2_takenShare 12 = .ok (.aaload, 1) := by decide +kernel
theorem dX2_takenShare_13 : decode cX2_takenShare 13 = .ok (.invokestatic 184, 3) := by decide +kernel
theorem dX2_takenShare_16 : decode cX2_takenShare 16 = .ok (.dreturn, 1) := by decide +kernel
theorem dX2_digest_0 : decode cX2_digest 0 = .ok (.ldc2_w 188, 3) := by decide +kernel
theorem dX2_digest_3 : decode cX2_digest 3 = .ok (.lstore_n 1, 1) := by decide +kernel
theorem dX2_digest_4 : decode cX2_digest 4 = .ok (.iconst 0, 1) := by decide +kernel
theorem dX2_digest_5 : decode cX2_digest 5 = .ok (.istore_n 3, 1) := by decide +kernel
theorem dX2_digest_6 : decode cX2_digest 6 = .ok (.iload_n 3, 1) := by decide +kernel
theorem dX2_digest_7 : decode cX2_digest 7 = .ok (.bipush 8, 2) := by decide +kernel
theorem dX2_digest_9 : decode cX2_digest 9 = .ok (.if_icmp .ge 20, 3) := by decide +kernel
theorem dX2_digest_12 : decode cX2_digest 12 = .ok (.lload_n 1, 1) := by decide +kernel
theorem dX2_digest_13 : decode cX2_digest 13 = .ok (.aload_n 0, 1) := by decide +kernel
theorem dX2_digest_14 : decode cX2_digest 14 = .ok (.iload_n 3, 1) := by decide +kernel
theorem dX2_digest_15 : decode cX2_digest 15 = .ok (.invokevirtual 190, 3) := by decide +kernel
theorem dX2_digest_18 : decode cX2_digest 18 = .ok (.i2l, 1) := by decide +kernel
theorem dX2_digest_19 : decode cX2_digest 19 = .ok (.invokestatic 193, 3) := by decide +kernel
theorem dX2_digest_22 : decode cX2_digest 22 = .ok (.lstore_n 1, 1) := by decide +kernel
theorem dX2_digest_23 : decode cX2_digest 23 = .ok (.iinc 3 1, 3) := by decide +kernel
theorem dX2_digest_26 : decode cX2_digest 26 = .ok (.goto (-20), 3) := by decide +kernel
theorem dX2_digest_29 : decode cX2_digest 29 = .ok (.iconst 0, 1) := by decide +kernel
theorem dX2_digest_30 : decode cX2_digest 30 = .ok (.istore_n 3, 1) := by decide +kernel
theorem dX2_digest_31 : decode cX2_digest 31 = .ok (.iload_n 3, 1) := by decide +kernel
theorem dX2_digest_32 : decode cX2_digest 32 = .ok (.iconst 5, 1) := by decide +kernel
theorem dX2_digest_33 : decode cX2_digest 33 = .ok (.if_icmp .ge 24, 3) := by decide +kernel
theorem dX2_digest_36 : decode cX2_digest 36 = .ok (.aload_n 0, 1) := by decide +kernel
theorem dX2_digest_37 : decode cX2_digest 37 = .ok (.lload_n 1, 1) := by decide +kernel
theorem dX2_digest_38 : decode cX2_digest 38 = .ok (.aload_n 0, 1) := by decide +kernel
theorem dX2_digest_39 : decode cX2_digest 39 = .ok (.getfield 12, 3) := by decide +kernel
theorem dX2_digest_42 : decode cX2_digest 42 = .ok (.getfield 62, 3) := by decide +kernel
theorem dX2_digest_45 : decode cX2_digest 45 = .ok (.iload_n 3, 1) := by decide +kernel
theorem dX2_digest_46 : decode cX2_digest 46 = .ok (.aaload, 1) := by decide +kernel
theorem dX2_digest_47 : decode cX2_digest 47 = .ok (.invokevirtual 197, 3) := by decide +kernel
theorem dX2_digest_50 : decode cX2_digest 50 = .ok (.lstore_n 1, 1) := by decide +kernel
theorem dX2_digest_51 : decode cX2_digest 51 = .ok (.iinc 3 1, 3) := by decide +kernel
theorem dX2_digest_54 : decode cX2_digest 54 = .ok (.goto (-23), 3) := by decide +kernel
theorem dX2_digest_57 : decode cX2_digest 57 = .ok (.aload_n 0, 1) := by decide +kernel
theorem dX2_digest_58 : decode cX2_digest 58 = .ok (.lload_n 1, 1) := by decide +kernel
theorem dX2_digest_59 : decode cX2_digest 59 = .ok (.invokevirtual 201, 3) := by decide +kernel
theorem dX2_digest_62 : decode cX2_digest 62 = .ok (.lstore_n 1, 1) := by decide +kernel
theorem dX2_digest_63 : decode cX2_digest 63 = .ok (.aload_n 0, 1) := by decide +kernel
theorem dX2_digest_64 : decode cX2_digest 64 = .ok (.lload_n 1, 1) := by decide +kernel
theorem dX2_digest_65 : decode cX2_digest 65 = .ok (.invokevirtual 205, 3) := by decide +kernel
theorem dX2_digest_68 : decode cX2_digest 68 = .ok (.lstore_n 1, 1) := by decide +kernel
theorem dX2_digest_69 : decode cX2_digest 69 = .ok (.aload_n 0, 1) := by decide +kernel
theorem dX2_digest_70 : decode cX2_digest 70 = .ok (.lload_n 1, 1) := by decide +kernel
theorem dX2_digest_71 : decode cX2_digest 71 = .ok (.invokevirtual 208, 3) := by decide +kernel
theorem dX2_digest_74 : decode cX2_digest 74 = .ok (.lreturn, 1) := by decide +kernel
theorem dX2_checkNumber_0 : decode cX2_checkNumber 0 = .ok (.iload_n 0, 1) := by decide +kernel
theorem dX2_checkNumber_1 : decode cX2_checkNumber 1 = .ok (.ifCond .lt 8, 3) := by decide +kernel
theorem dX2_checkNumber_4 : decode cX2_checkNumber 4 = .ok (.iload_n 0, 1) := by decide +kernel
theorem dX2_checkNumber_5 : decode cX2_checkNumber 5 = .ok (.iconst 5, 1) := by decide +kernel
theorem dX2_checkNumber_6 : decode cX2_checkNumber 6 = .ok (.if_icmp .lt 13, 3) := by decide +kernel
theorem dX2_checkNumber_9 : decode cX2_checkNumber 9 = .ok (.new 211, 3) := by decide +kernel
theorem dX2_checkNumber_12 : decode cX2_checkNumber 12 = .ok (.dup, 1) := by decide +kernel
theorem dX2_checkNumber_13 : decode cX2_checkNumber 13 = .ok (.ldc 213, 2) := by decide +kernel
theorem dX2_checkNumber_15 : decode cX2_checkNumber 15 = .ok (.invokespecial 215, 3) := by decide +kernel
theorem dX2_checkNumber_18 : decode cX2_checkNumber 18 = .ok (.athrow, 1) := by decide +kernel
theorem dX2_checkNumber_19 : decode cX2_checkNumber 19 = .ok (.return_, 1) := by decide +kernel
theorem dX2_checkPower_0 : decode cX2_checkPower 0 = .ok (.iload_n 0, 1) := by decide +kernel
theorem dX2_checkPower_1 : decode cX2_checkPower 1 = .ok (.ifCond .lt 9, 3) := by decide +kernel
theorem dX2_checkPower_4 : decode cX2_checkPower 4 = .ok (.iload_n 0, 1) := by decide +kernel
theorem dX2_checkPower_5 : decode cX2_checkPower 5 = .ok (.bipush 8, 2) := by decide +kernel
theorem dX2_checkPower_7 : decode cX2_checkPower 7 = .ok (.if_icmp .le 13, 3) := by decide +kernel
theorem dX2_checkPower_10 : decode cX2_checkPower 10 = .ok (.new 93, 3) := by decide +kernel
theorem dX2_checkPower_13 : decode cX2_checkPower 13 = .ok (.dup, 1) := by decide +kernel
theorem dX2_checkPower_14 : decode cX2_checkPower 14 = .ok (.ldc 216, 2) := by decide +kernel
theorem dX2_checkPower_16 : decode cX2_checkPower 16 = .ok (.invokespecial 97, 3) := by decide +kernel
theorem dX2_checkPower_19 : decode cX2_checkPower 19 = .ok (.athrow, 1) := by decide +kernel
theorem dX2_checkPower_20 : decode cX2_checkPower 20 = .ok (.return_, 1) := by decide +kernel
theorem dX2_checkSign_0 : decode cX2_checkSign 0 = .ok (.iload_n 0, 1) := by decide +kernel
theorem dX2_checkSign_1 : decode cX2_checkSign 1 = .ok (.iconst (-1), 1) := by decide +kernel
theorem dX2_checkSign_2 : decode cX2_checkSign 2 = .ok (.if_icmp .lt 8, 3) := by decide +kernel
theorem dX2_checkSign_5 : decode cX2_checkSign 5 = .ok (.iload_n 0, 1) := by decide +kernel
theorem dX2_checkSign_6 : decode cX2_checkSign 6 = .ok (.iconst 1, 1) := by decide +kernel
theorem dX2_checkSign_7 : decode cX2_checkSign 7 = .ok (.if_icmp .le 13, 3) := by decide +kernel
theorem dX2_checkSign_10 : decode cX2_checkSign 10 = .ok (.new 93, 3) := by decide +kernel
theorem dX2_checkSign_13 : decode cX2_checkSign 13 = .ok (.dup, 1) := by decide +kernel
theorem dX2_checkSign_14 : decode cX2_checkSign 14 = .ok (.ldc 218, 2) := by decide +kernel
theorem dX2_checkSign_16 : decode cX2_checkSign 16 = .ok (.invokespecial 97, 3) := by decide +kernel
theorem dX2_checkSign_19 : decode cX2_checkSign 19 = .ok (.athrow, 1) := by decide +kernel
theorem dX2_checkSign_20 : decode cX2_checkSign 20 = .ok (.return_, 1) := by decide +kernel
theorem dX2_checkSlot_0 : decode cX2_checkSlot 0 = .ok (.iload_n 0, 1) := by decide +kernel
theorem dX2_checkSlot_1 : decode cX2_checkSlot 1 = .ok (.ifCond .lt 8, 3) := by decide +kernel
theorem dX2_checkSlot_4 : decode cX2_checkSlot 4 = .ok (.iload_n 0, 1) := by decide +kernel
theorem dX2_checkSlot_5 : decode cX2_checkSlot 5 = .ok (.iconst 2, 1) := by decide +kernel
theorem dX2_checkSlot_6 : decode cX2_checkSlot 6 = .ok (.if_icmp .lt 13, 3) := by decide +kernel
theorem dX2_checkSlot_9 : decode cX2_checkSlot 9 = .ok (.new 93, 3) := by decide +kernel
theorem dX2_checkSlot_12 : decode cX2_checkSlot 12 = .ok (.dup, 1) := by decide +kernel
theorem dX2_checkSlot_13 : decode cX2_checkSlot 13 = .ok (.ldc 220, 2) := by decide +kernel
theorem dX2_checkSlot_15 : decode cX2_checkSlot 15 = .ok (.invokespecial 97, 3) := by decide +kernel
theorem dX2_checkSlot_18 : decode cX2_checkSlot 18 = .ok (.athrow, 1) := by decide +kernel
theorem dX2_checkSlot_19 : decode cX2_checkSlot 19 = .ok (.return_, 1) := by decide +kernel
theorem dX2_checkWhat_0 : decode cX2_checkWhat 0 = .ok (.iload_n 0, 1) := by decide +kernel
theorem dX2_checkWhat_1 : decode cX2_checkWhat 1 = .ok (.ifCond .lt 8, 3) := by decide +kernel
theorem dX2_checkWhat_4 : decode cX2_checkWhat 4 = .ok (.iload_n 0, 1) := by decide +kernel
theorem dX2_checkWhat_5 : decode cX2_checkWhat 5 = .ok (.iload_n 1, 1) := by decide +kernel
theorem dX2_checkWhat_6 : decode cX2_checkWhat 6 = .ok (.if_icmp .lt 13, 3) := by decide +kernel
theorem dX2_checkWhat_9 : decode cX2_checkWhat 9 = .ok (.new 93, 3) := by decide +kernel
theorem dX2_checkWhat_12 : decode cX2_checkWhat 12 = .ok (.dup, 1) := by decide +kernel
theorem dX2_checkWhat_13 : decode cX2_checkWhat 13 = .ok (.ldc 222, 2) := by decide +kernel
theorem dX2_checkWhat_15 : decode cX2_checkWhat 15 = .ok (.invokespecial 97, 3) := by decide +kernel
theorem dX2_checkWhat_18 : decode cX2_checkWhat 18 = .ok (.athrow, 1) := by decide +kernel
theorem dX2_checkWhat_19 : decode cX2_checkWhat 19 = .ok (.return_, 1) := by decide +kernel
theorem dX2_save_0 : decode cX2_save 0 = .ok (.aload_n 0, 1) := by decide +kernel
theorem dX2_save_1 : decode cX2_save 1 = .ok (.getfield 20, 3) := by decide +kernel
theorem dX2_save_4 : decode cX2_save 4 = .ok (.bipush 6, 2) := by decide +kernel
theorem dX2_save_6 : decode cX2_save 6 = .ok (.if_icmp .lt 7, 3) := by decide +kernel
theorem dX2_save_9 : decode cX2_save 9 = .ok (.aload_n 0, 1) := by decide +kernel
theorem dX2_save_10 : decode cX2_save 10 = .ok (.invokevirtual 224, 3) := by decide +kernel
theorem dX2_save_13 : decode cX2_save 13 = .ok (.aload_n 0, 1) := by decide +kernel
theorem dX2_save_14 : decode cX2_save 14 = .ok (.getfield 16, 3) := by decide +kernel
theorem dX2_save_17 : decode cX2_save 17 = .ok (.aload_n 0, 1) := by decide +kernel
theorem dX2_save_18 : decode cX2_save 18 = .ok (.getfield 20, 3) := by decide +kernel
theorem dX2_save_21 : decode cX2_save 21 = .ok (.aaload, 1) := by decide +kernel
theorem dX2_save_22 : decode cX2_save 22 = .ok (.aload_n 0, 1) := by decide +kernel
theorem dX2_save_23 : decode cX2_save 23 = .ok (.getfield 12, 3) := by decide +kernel
theorem dX2_save_26 : decode cX2_save 26 = .ok (.invokevirtual 133, 3) := by decide +kernel
theorem dX2_save_29 : decode cX2_save 29 = .ok (.aload_n 0, 1) := by decide +kernel
theorem dX2_save_30 : decode cX2_save 30 = .ok (.dup, 1) := by decide +kernel
theorem dX2_save_31 : decode cX2_save 31 = .ok (.getfield 20, 3) := by decide +kernel
theorem dX2_save_34 : decode cX2_save 34 = .ok (.iconst 1, 1) := by decide +kernel
theorem dX2_save_35 : decode cX2_save 35 = .ok (.iadd, 1) := by decide +kernel
theorem dX2_save_36 : decode cX2_save 36 = .ok (.putfield 20, 3) := by decide +kernel
theorem dX2_save_39 : decode cX2_save 39 = .ok (.return_, 1) := by decide +kernel
theorem dX2_dropOldest_0 : decode cX2_dropOldest 0 = .ok (.aload_n 0, 1) := by decide +kernel
theorem dX2_dropOldest_1 : decode cX2_dropOldest 1 = .ok (.getfield 16, 3) := by decide +kernel
theorem dX2_dropOldest_4 : decode cX2_dropOldest 4 = .ok (.iconst 0, 1) := by decide +kernel
theorem dX2_dropOldest_5 : decode cX2_dropOldest 5 = .ok (.aaload, 1) := by decide +kernel
theorem dX2_dropOldest_6 : decode cX2_dropOldest 6 = .ok (.astore_n 1, 1) := by decide +kernel
theorem dX2_dropOldest_7 : decode cX2_dropOldest 7 = .ok (.iconst 1, 1) := by decide +kernel
theorem dX2_dropOldest_8 : decode cX2_dropOldest 8 = .ok (.istore_n 2, 1) := by decide +kernel
theorem dX2_dropOldest_9 : decode cX2_dropOldest 9 = .ok (.iload_n 2, 1) := by decide +kernel
theorem dX2_dropOldest_10 : decode cX2_dropOldest 10 = .ok (.bipush 6, 2) := by decide +kernel
theorem dX2_dropOldest_12 : decode cX2_dropOldest 12 = .ok (.if_icmp .ge 23, 3) := by decide +kernel
theorem dX2_dropOldest_15 : decode cX2_dropOldest 15 = .ok (.aload_n 0, 1) := by decide +kernel
theorem dX2_dropOldest_16 : decode cX2_dropOldest 16 = .ok (.getfield 16, 3) := by decide +kernel
theorem dX2_dropOldest_19 : decode cX2_dropOldest 19 = .ok (.iload_n 2, 1) := by decide +kernel
theorem dX2_dropOldest_20 : decode cX2_dropOldest 20 = .ok (.iconst 1, 1) := by decide +kernel
theorem dX2_dropOldest_21 : decode cX2_dropOldest 21 = .ok (.isub, 1) := by decide +kernel
theorem dX2_dropOldest_22 : decode cX2_dropOldest 22 = .ok (.aload_n 0, 1) := by decide +kernel
theorem dX2_dropOldest_23 : decode cX2_dropOldest 23 = .ok (.getfield 16, 3) := by decide +kernel
theorem dX2_dropOldest_26 : decode cX2_dropOldest 26 = .ok (.iload_n 2, 1) := by decide +kernel
theorem dX2_dropOldest_27 : decode cX2_dropOldest 27 = .ok (.aaload, 1) := by decide +kernel
theorem dX2_dropOldest_28 : decode cX2_dropOldest 28 = .ok (.aastore, 1) := by decide +kernel
theorem dX2_dropOldest_29 : decode cX2_dropOldest 29 = .ok (.iinc 2 1, 3) := by decide +kernel
theorem dX2_dropOldest_32 : decode cX2_dropOldest 32 = .ok (.goto (-23), 3) := by decide +kernel
theorem dX2_dropOldest_35 : decode cX2_dropOldest 35 = .ok (.aload_n 0, 1) := by decide +kernel
theorem dX2_dropOldest_36 : decode cX2_dropOldest 36 = .ok (.getfield 16, 3) := by decide +kernel
theorem dX2_dropOldest_39 : decode cX2_dropOldest 39 = .ok (.iconst 5, 1) := by decide +kernel
theorem dX2_dropOldest_40 : decode cX2_dropOldest 40 = .ok (.aload_n 1, 1) := by decide +kernel
theorem dX2_dropOldest_41 : decode cX2_dropOldest 41 = .ok (.aastore, 1) := by decide +kernel
theorem dX2_dropOldest_42 : decode cX2_dropOldest 42 = .ok (.aload_n 0, 1) := by decide +kernel
theorem dX2_dropOldest_43 : decode cX2_dropOldest 43 = .ok (.dup, 1) := by decide +kernel
theorem dX2_dropOldest_44 : decode cX2_dropOldest 44 = .ok (.getfield 20, 3) := by decide +kernel
theorem dX2_dropOldest_47 : decode cX2_dropOldest 47 = .ok (.iconst 1, 1) := by decide +kernel
theorem dX2_dropOldest_48 : decode cX2_dropOldest 48 = .ok (.isub, 1) := by decide +kernel
theorem dX2_dropOldest_49 : decode cX2_dropOldest 49 = .ok (.putfield 20, 3) := by decide +kernel
theorem dX2_dropOldest_52 : decode cX2_dropOldest 52 = .ok (.return_, 1) := by decide +kernel
theorem dX2_signOf_0 : decode cX2_signOf 0 = .ok (.lload_n 0, 1) := by decide +kernel
theorem dX2_signOf_1 : decode cX2_signOf 1 = .ok (.lconst 0, 1) := by decide +kernel
theorem dX2_signOf_2 : decode cX2_signOf 2 = .ok (.lcmp, 1) := by decide +kernel
theorem dX2_signOf_3 : decode cX2_signOf 3 = .ok (.ifCond .le 7, 3) := by decide +kernel
theorem dX2_signOf_6 : decode cX2_signOf 6 = .ok (.iconst 1, 1) := by decide +kernel
theorem dX2_signOf_7 : decode cX2_signOf 7 = .ok (.goto 14, 3) := by decide +kernel
theorem dX2_signOf_10 : decode cX2_signOf 10 = .ok (.lload_n 0, 1) := by decide +kernel
theorem dX2_signOf_11 : decode cX2_signOf 11 = .ok (.lconst 0, 1) := by decide +kernel
theorem dX2_signOf_12 : decode cX2_signOf 12 = .ok (.lcmp, 1) := by decide +kernel
theorem dX2_signOf_13 : decode cX2_signOf 13 = .ok (.ifCond .ge 7, 3) := by decide +kernel
theorem dX2_signOf_16 : decode cX2_signOf 16 = .ok (.iconst (-1), 1) := by decide +kernel
theorem dX2_signOf_17 : decode cX2_signOf 17 = .ok (.goto 4, 3) := by decide +kernel
theorem dX2_signOf_20 : decode cX2_signOf 20 = .ok (.iconst 0, 1) := by decide +kernel
theorem dX2_signOf_21 : decode cX2_signOf 21 = .ok (.ireturn, 1) := by decide +kernel
theorem dX2_markOf_0 : decode cX2_markOf 0 = .ok (.iload_n 0, 1) := by decide +kernel
theorem dX2_markOf_1 : decode cX2_markOf 1 = .ok (.ifCond .le 7, 3) := by decide +kernel
theorem dX2_markOf_4 : decode cX2_markOf 4 = .ok (.iconst 1, 1) := by decide +kernel
theorem dX2_markOf_5 : decode cX2_markOf 5 = .ok (.goto 12, 3) := by decide +kernel
theorem dX2_markOf_8 : decode cX2_markOf 8 = .ok (.iload_n 0, 1) := by decide +kernel
theorem dX2_markOf_9 : decode cX2_markOf 9 = .ok (.ifCond .ge 7, 3) := by decide +kernel
theorem dX2_markOf_12 : decode cX2_markOf 12 = .ok (.iconst 2, 1) := by decide +kernel
theorem dX2_markOf_13 : decode cX2_markOf 13 = .ok (.goto 4, 3) := by decide +kernel
theorem dX2_markOf_16 : decode cX2_markOf 16 = .ok (.iconst 0, 1) := by decide +kernel
theorem dX2_markOf_17 : decode cX2_markOf 17 = .ok (.ireturn, 1) := by decide +kernel
theorem dX2_holds_0 : decode cX2_holds 0 = .ok (.iload_n 0, 1) := by decide +kernel
theorem dX2_holds_1 : decode cX2_holds 1 = .ok (.iconst 3, 1) := by decide +kernel
theorem dX2_holds_2 : decode cX2_holds 2 = .ok (.if_icmp .eq 11, 3) := by decide +kernel
theorem dX2_holds_5 : decode cX2_holds 5 = .ok (.iload_n 0, 1) := by decide +kernel
theorem dX2_holds_6 : decode cX2_holds 6 = .ok (.iload_n 1, 1) := by decide +kernel
theorem dX2_holds_7 : decode cX2_holds 7 = .ok (.invokestatic 227, 3) := by decide +kernel
theorem dX2_holds_10 : decode cX2_holds 10 = .ok (.if_icmp .ne 7, 3) := by decide +kernel
theorem dX2_holds_13 : decode cX2_holds 13 = .ok (.iconst 1, 1) := by decide +kernel
theorem dX2_holds_14 : decode cX2_holds 14 = .ok (.goto 4, 3) := by decide +kernel
theorem dX2_holds_17 : decode cX2_holds 17 = .ok (.iconst 0, 1) := by decide +kernel
theorem dX2_holds_18 : decode cX2_holds 18 = .ok (.ireturn, 1) := by decide +kernel
theorem dX2_sumMarks_0 : decode cX2_sumMarks 0 = .ok (.aload_n 0, 1) := by decide +kernel
theorem dX2_sumMarks_1 : decode cX2_sumMarks 1 = .ok (.iload_n 2, 1) := by decide +kernel
theorem dX2_sumMarks_2 : decode cX2_sumMarks 2 = .ok (.iaload, 1) := by decide +kernel
theorem dX2_sumMarks_3 : decode cX2_sumMarks 3 = .ok (.invokestatic 227, 3) := by decide +kernel
theorem dX2_sumMarks_6 : decode cX2_sumMarks 6 = .ok (.aload_n 1, 1) := by decide +kernel
theorem dX2_sumMarks_7 : decode cX2_sumMarks 7 = .ok (.iload_n 2, 1) := by decide +kernel
theorem dX2_sumMarks_8 : decode cX2_sumMarks 8 = .ok (.iaload, 1) := by decide +kernel
theorem dX2_sumMarks_9 : decode cX2_sumMarks 9 = .ok (.invokestatic 227, 3) := by decide +kernel
theorem dX2_sumMarks_12 : decode cX2_sumMarks 12 = .ok (.ior, 1) := by decide +kernel
theorem dX2_sumMarks_13 : decode cX2_sumMarks 13 = .ok (.ireturn, 1) := by decide +kernel
theorem dX2_productMarks_0 : decode cX2_productMarks 0 = .ok (.iconst 0, 1) := by decide +kernel
theorem dX2_productMarks_1 : decode cX2_productMarks 1 = .ok (.istore_n 3, 1) := by decide +kernel
theorem dX2_productMarks_2 : decode cX2_productMarks 2 = .ok (.iconst 0, 1) := by decide +kernel
theorem dX2_productMarks_3 : decode cX2_productMarks 3 = .ok (.istore 4, 2) := by decide +kernel
theorem dX2_productMarks_5 : decode cX2_productMarks 5 = .ok (.iload 4, 2) := by decide +kernel
theorem dX2_productMarks_7 : decode cX2_productMarks 7 = .ok (.iload_n 2, 1) := by decide +kernel
theorem dX2_productMarks_8 : decode cX2_productMarks 8 = .ok (.if_icmp .gt 26, 3) := by decide +kernel
theorem dX2_productMarks_11 : decode cX2_productMarks 11 = .ok (.iload_n 3, 1) := by decide +kernel
theorem dX2_productMarks_12 : decode cX2_productMarks 12 = .ok (.aload_n 0, 1) := by decide +kernel
theorem dX2_productMarks_13 : decode cX2_productMarks 13 = .ok (.iload 4, 2) := by decide +kernel
theorem dX2_productMarks_15 : decode cX2_productMarks 15 = .ok (.iaload, 1) := by decide +kernel
theorem dX2_productMarks_16 : decode cX2_productMarks 16 = .ok (.aload_n 1, 1) := by decide +kernel
theorem dX2_productMarks_17 : decode cX2_productMarks 17 = .ok (.iload_n 2, 1) := by decide +kernel
theorem dX2_productMarks_18 : decode cX2_productMarks 18 = .ok (.iload 4, 2) := by decide +kernel
theorem dX2_productMarks_20 : decode cX2_productMarks 20 = .ok (.isub, 1) := by decide +kernel
theorem dX2_productMarks_21 : decode cX2_productMarks 21 = .ok (.iaload, 1) := by decide +kernel
theorem dX2_productMarks_22 : decode cX2_productMarks 22 = .ok (.imul, 1) := by decide +kernel
theorem dX2_productMarks_23 : decode cX2_productMarks 23 = .ok (.invokestatic 227, 3) := by decide +kernel
theorem dX2_productMarks_26 : decode cX2_productMarks 26 = .ok (.ior, 1) := by decide +kernel
theorem dX2_productMarks_27 : decode cX2_productMarks 27 = .ok (.istore_n 3, 1) := by decide +kernel
theorem dX2_productMarks_28 : decode cX2_productMarks 28 = .ok (.iinc 4 1, 3) := by decide +kernel
theorem dX2_productMarks_31 : decode cX2_productMarks 31 = .ok (.goto (-26), 3) := by decide +kernel
theorem dX2_productMarks_34 : decode cX2_productMarks 34 = .ok (.iload_n 3, 1) := by decide +kernel
theorem dX2_productMarks_35 : decode cX2_productMarks 35 = .ok (.ireturn, 1) := by decide +kernel
theorem dX2_marksAt_0 : decode cX2_marksAt 0 = .ok (.iload_n 2, 1) := by decide +kernel
theorem dX2_marksAt_1 : decode cX2_marksAt 1 = .ok (.ifCond .ne 12, 3) := by decide +kernel
theorem dX2_marksAt_4 : decode cX2_marksAt 4 = .ok (.aload_n 0, 1) := by decide +kernel
theorem dX2_marksAt_5 : decode cX2_marksAt 5 = .ok (.aload_n 1, 1) := by decide +kernel
theorem dX2_marksAt_6 : decode cX2_marksAt 6 = .ok (.iload_n 3, 1) := by decide +kernel
theorem dX2_marksAt_7 : decode cX2_marksAt 7 = .ok (.invokestatic 230, 3) := by decide +kernel
theorem dX2_marksAt_10 : decode cX2_marksAt 10 = .ok (.goto 9, 3) := by decide +kernel
theorem dX2_marksAt_13 : decode cX2_marksAt 13 = .ok (.aload_n 0, 1) := by decide +kernel
theorem dX2_marksAt_14 : decode cX2_marksAt 14 = .ok (.aload_n 1, 1) := by decide +kernel
theorem dX2_marksAt_15 : decode cX2_marksAt 15 = .ok (.iload_n 3, 1) := by decide +kernel
theorem dX2_marksAt_16 : decode cX2_marksAt 16 = .ok (.invokestatic 233, 3) := by decide +kernel
theorem dX2_marksAt_19 : decode cX2_marksAt 19 = .ok (.ireturn, 1) := by decide +kernel
theorem dX2_isTooHigh_0 : decode cX2_isTooHigh 0 = .ok (.iload_n 2, 1) := by decide +kernel
theorem dX2_isTooHigh_1 : decode cX2_isTooHigh 1 = .ok (.iconst 1, 1) := by decide +kernel
theorem dX2_isTooHigh_2 : decode cX2_isTooHigh 2 = .ok (.if_icmp .ne 21, 3) := by decide +kernel
theorem dX2_isTooHigh_5 : decode cX2_isTooHigh 5 = .ok (.aload_n 0, 1) := by decide +kernel
theorem dX2_isTooHigh_6 : decode cX2_isTooHigh 6 = .ok (.invokestatic 73, 3) := by decide +kernel
theorem dX2_isTooHigh_9 : decode cX2_isTooHigh 9 = .ok (.aload_n 1, 1) := by decide +kernel
theorem dX2_isTooHigh_10 : decode cX2_isTooHigh 10 = .ok (.invokestatic 73, 3) := by decide +kernel
theorem dX2_isTooHigh_13 : decode cX2_isTooHigh 13 = .ok (.iadd, 1) := by decide +kernel
theorem dX2_isTooHigh_14 : decode cX2_isTooHigh 14 = .ok (.bipush 8, 2) := by decide +kernel
theorem dX2_isTooHigh_16 : decode cX2_isTooHigh 16 = .ok (.if_icmp .le 7, 3) := by decide +kernel
theorem dX2_isTooHigh_19 : decode cX2_isTooHigh 19 = .ok (.iconst 1, 1) := by decide +kernel
theorem dX2_isTooHigh_20 : decode cX2_isTooHigh 20 = .ok (.goto 4, 3) := by decide +kernel
theorem dX2_isTooHigh_23 : decode cX2_isTooHigh 23 = .ok (.iconst 0, 1) := by decide +kernel
theorem dX2_isTooHigh_24 : decode cX2_isTooHigh 24 = .ok (.ireturn, 1) := by decide +kernel
theorem dX2_rowsOf_0 : decode cX2_rowsOf 0 = .ok (.aload_n 0, 1) := by decide +kernel
theorem dX2_rowsOf_1 : decode cX2_rowsOf 1 = .ok (.aload_n 1, 1) := by decide +kernel
theorem dX2_rowsOf_2 : decode cX2_rowsOf 2 = .ok (.iload_n 2, 1) := by decide +kernel
theorem dX2_rowsOf_3 : decode cX2_rowsOf 3 = .ok (.invokestatic 236, 3) := by decide +kernel
theorem dX2_rowsOf_6 : decode cX2_rowsOf 6 = .ok (.ifCond .eq 6, 3) := by decide +kernel
theorem dX2_rowsOf_9 : decode cX2_rowsOf 9 = .ok (.bipush (-9), 2) := by decide +kernel
theorem dX2_rowsOf_11 : decode cX2_rowsOf 11 = .ok (.ireturn, 1) := by decide +kernel
theorem dX2_rowsOf_12 : decode cX2_rowsOf 12 = .ok (.iconst 1, 1) := by decide +kernel
theorem dX2_rowsOf_13 : decode cX2_rowsOf 13 = .ok (.istore_n 3, 1) := by decide +kernel
theorem dX2_rowsOf_14 : decode cX2_rowsOf 14 = .ok (.iconst 0, 1) := by decide +kernel
theorem dX2_rowsOf_15 : decode cX2_rowsOf 15 = .ok (.istore 4, 2) := by decide +kernel
theorem dX2_rowsOf_17 : decode cX2_rowsOf 17 = .ok (.iload 4, 2) := by decide +kernel
theorem dX2_rowsOf_19 : decode cX2_rowsOf 19 = .ok (.bipush 9, 2) := by decide +kernel
theorem dX2_rowsOf_21 : decode cX2_rowsOf 21 = .ok (.if_icmp .ge 25, 3) := by decide +kernel
theorem dX2_rowsOf_24 : decode cX2_rowsOf 24 = .ok (.aload_n 0, 1) := by decide +kernel
theorem dX2_rowsOf_25 : decode cX2_rowsOf 25 = .ok (.aload_n 1, 1) := by decide +kernel
theorem dX2_rowsOf_26 : decode cX2_rowsOf 26 = .ok (.iload_n 2, 1) := by decide +kernel
theorem dX2_rowsOf_27 : decode cX2_rowsOf 27 = .ok (.iload 4, 2) := by decide +kernel
theorem dX2_rowsOf_29 : decode cX2_rowsOf 29 = .ok (.invokestatic 240, 3) := by decide +kernel
theorem dX2_rowsOf_32 : decode cX2_rowsOf 32 = .ok (.iconst 3, 1) := by decide +kernel
theorem dX2_rowsOf_33 : decode cX2_rowsOf 33 = .ok (.if_icmp .ne 7, 3) := by decide +kernel
theorem dX2_rowsOf_36 : decode cX2_rowsOf 36 = .ok (.iload_n 3, 1) := by decide +kernel
theorem dX2_rowsOf_37 : decode cX2_rowsOf 37 = .ok (.iconst 3, 1) := by decide +kernel
theorem dX2_rowsOf_38 : decode cX2_rowsOf 38 = .ok (.imul, 1) := by decide +kernel
theorem dX2_rowsOf_39 : decode cX2_rowsOf 39 = .ok (.istore_n 3, 1) := by decide +kernel
theorem dX2_rowsOf_40 : decode cX2_rowsOf 40 = .ok (.iinc 4 1, 3) := by decide +kernel
theorem dX2_rowsOf_43 : decode cX2_rowsOf 43 = .ok (.goto (-26), 3) := by decide +kernel
theorem dX2_rowsOf_46 : decode cX2_rowsOf 46 = .ok (.iload_n 3, 1) := by decide +kernel
theorem dX2_rowsOf_47 : decode cX2_rowsOf 47 = .ok (.ireturn, 1) := by decide +kernel
theorem dX2_isAmong_0 : decode cX2_isAmong 0 = .ok (.aload_n 1, 1) := by decide +kernel
theorem dX2_isAmong_1 : decode cX2_isAmong 1 = .ok (.aload_n 2, 1) := by decide +kernel
theorem dX2_isAmong_2 : decode cX2_isAmong 2 = .ok (.iload_n 3, 1) := by decide +kernel
theorem dX2_isAmong_3 : decode cX2_isAmong 3 = .ok (.invokestatic 236, 3) := by decide +kernel
theorem dX2_isAmong_6 : decode cX2_isAmong 6 = .ok (.ifCond .eq 5, 3) := by decide +kernel
theorem dX2_isAmong_9 : decode cX2_isAmong 9 = .ok (.iconst 0, 1) := by decide +kernel
theorem dX2_isAmong_10 : decode cX2_isAmong 10 = .ok (.ireturn, 1) := by decide +kernel
theorem dX2_isAmong_11 : decode cX2_isAmong 11 = .ok (.iconst 0, 1) := by decide +kernel
theorem dX2_isAmong_12 : decode cX2_isAmong 12 = .ok (.istore 4, 2) := by decide +kernel
theorem dX2_isAmong_14 : decode cX2_isAmong 14 = .ok (.iload 4, 2) := by decide +kernel
theorem dX2_isAmong_16 : decode cX2_isAmong 16 = .ok (.bipush 9, 2) := by decide +kernel
theorem dX2_isAmong_18 : decode cX2_isAmong 18 = .ok (.if_icmp .ge 29, 3) := by decide +kernel
theorem dX2_isAmong_21 : decode cX2_isAmong 21 = .ok (.aload_n 1, 1) := by decide +kernel
theorem dX2_isAmong_22 : decode cX2_isAmong 22 = .ok (.aload_n 2, 1) := by decide +kernel
theorem dX2_isAmong_23 : decode cX2_isAmong 23 = .ok (.iload_n 3, 1) := by decide +kernel
theorem dX2_isAmong_24 : decode cX2_isAmong 24 = .ok (.iload 4, 2) := by decide +kernel
theorem dX2_isAmong_26 : decode cX2_isAmong 26 = .ok (.invokestatic 240, 3) := by decide +kernel
theorem dX2_isAmong_29 : decode cX2_isAmong 29 = .ok (.aload_n 0, 1) := by decide +kernel
theorem dX2_isAmong_30 : decode cX2_isAmong 30 = .ok (.iload 4, 2) := by decide +kernel
theorem dX2_isAmong_32 : decode cX2_isAmong 32 = .ok (.iaload, 1) := by decide +kernel
theorem dX2_isAmong_33 : decode cX2_isAmong 33 = .ok (.invokestatic 244, 3) := by decide +kernel
theorem dX2_isAmong_36 : decode cX2_isAmong 36 = .ok (.ifCond .ne 5, 3) := by decide +kernel
theorem dX2_isAmong_39 : decode cX2_isAmong 39 = .ok (.iconst 0, 1) := by decide +kernel
theorem dX2_isAmong_40 : decode cX2_isAmong 40 = .ok (.ireturn, 1) := by decide +kernel
theorem dX2_isAmong_41 : decode cX2_isAmong 41 = .ok (.iinc 4 1, 3) := by decide +kernel
theorem dX2_isAmong_44 : decode cX2_isAmong 44 = .ok (.goto (-30), 3) := by decide +kernel
theorem dX2_isAmong_47 : decode cX2_isAmong 47 = .ok (.iconst 1, 1) := by decide +kernel
theorem dX2_isAmong_48 : decode cX2_isAmong 48 = .ok (.ireturn, 1) := by decide +kernel
theorem dX2_degreeOf_0 : decode cX2_degreeOf 0 = .ok (.bipush 8, 2) := by decide +kernel
theorem dX2_degreeOf_2 : decode cX2_degreeOf 2 = .ok (.istore_n 1, 1) := by decide +kernel
theorem dX2_degreeOf_3 : decode cX2_degreeOf 3 = .ok (.iload_n 1, 1) := by decide +kernel
theorem dX2_degreeOf_4 : decode cX2_degreeOf 4 = .ok (.ifCond .le 17, 3) := by decide +kernel
theorem dX2_degreeOf_7 : decode cX2_degreeOf 7 = .ok (.aload_n 0, 1) := by decide +kernel
theorem dX2_degreeOf_8 : decode cX2_degreeOf 8 = .ok (.iload_n 1, 1) := by decide +kernel
theorem dX2_degreeOf_9 : decode cX2_degreeOf 9 = .ok (.iaload, 1) := by decide +kernel
theorem dX2_degreeOf_10 : decode cX2_degreeOf 10 = .ok (.ifCond .eq 5, 3) := by decide +kernel
theorem dX2_degreeOf_13 : decode cX2_degreeOf 13 = .ok (.iload_n 1, 1) := by decide +kernel
theorem dX2_degreeOf_14 : decode cX2_degreeOf 14 = .ok (.ireturn, 1) := by decide +kernel
theorem dX2_degreeOf_15 : decode cX2_degreeOf 15 = .ok (.iinc 1 (-1), 3) := by decide +kernel
theorem dX2_degreeOf_18 : decode cX2_degreeOf 18 = .ok (.goto (-15), 3) := by decide +kernel
theorem dX2_degreeOf_21 : decode cX2_degreeOf 21 = .ok (.iconst 0, 1) := by decide +kernel
theorem dX2_degreeOf_22 : decode cX2_degreeOf 22 = .ok (.ireturn, 1) := by decide +kernel
theorem dX2_notZero_0 : decode cX2_notZero 0 = .ok (.iconst 0, 1) := by decide +kernel
theorem dX2_notZero_1 : decode cX2_notZero 1 = .ok (.istore_n 1, 1) := by decide +kernel
theorem dX2_notZero_2 : decode cX2_notZero 2 = .ok (.iconst 0, 1) := by decide +kernel
theorem dX2_notZero_3 : decode cX2_notZero 3 = .ok (.istore_n 2, 1) := by decide +kernel
theorem dX2_notZero_4 : decode cX2_notZero 4 = .ok (.iload_n 2, 1) := by decide +kernel
theorem dX2_notZero_5 : decode cX2_notZero 5 = .ok (.bipush 9, 2) := by decide +kernel
theorem dX2_notZero_7 : decode cX2_notZero 7 = .ok (.if_icmp .ge 18, 3) := by decide +kernel
theorem dX2_notZero_10 : decode cX2_notZero 10 = .ok (.aload_n 0, 1) := by decide +kernel
theorem dX2_notZero_11 : decode cX2_notZero 11 = .ok (.iload_n 2, 1) := by decide +kernel
theorem dX2_notZero_12 : decode cX2_notZero 12 = .ok (.iaload, 1) := by decide +kernel
theorem dX2_notZero_13 : decode cX2_notZero 13 = .ok (.ifCond .eq 6, 3) := by decide +kernel
theorem dX2_notZero_16 : decode cX2_notZero 16 = .ok (.iinc 1 1, 3) := by decide +kernel
theorem dX2_notZero_19 : decode cX2_notZero 19 = .ok (.iinc 2 1, 3) := by decide +kernel
theorem dX2_notZero_22 : decode cX2_notZero 22 = .ok (.goto (-18), 3) := by decide +kernel
theorem dX2_notZero_25 : decode cX2_notZero 25 = .ok (.iload_n 1, 1) := by decide +kernel
theorem dX2_notZero_26 : decode cX2_notZero 26 = .ok (.ireturn, 1) := by decide +kernel
theorem dX2_isAloneNotZero_0 : decode cX2_isAloneNotZero 0 = .ok (.aload_n 0, 1) := by decide +kernel
theorem dX2_isAloneNotZero_1 : decode cX2_isAloneNotZero 1 = .ok (.iload_n 1, 1) := by decide +kernel
theorem dX2_isAloneNotZero_2 : decode cX2_isAloneNotZero 2 = .ok (.iaload, 1) := by decide +kernel
theorem dX2_isAloneNotZero_3 : decode cX2_isAloneNotZero 3 = .ok (.ifCond .eq 15, 3) := by decide +kernel
theorem dX2_isAloneNotZero_6 : decode cX2_isAloneNotZero 6 = .ok (.aload_n 0, 1) := by decide +kernel
theorem dX2_isAloneNotZero_7 : decode cX2_isAloneNotZero 7 = .ok (.invokestatic 148, 3) := by decide +kernel
theorem dX2_isAloneNotZero_10 : decode cX2_isAloneNotZero 10 = .ok (.iconst 1, 1) := by decide +kernel
theorem dX2_isAloneNotZero_11 : decode cX2_isAloneNotZero 11 = .ok (.if_icmp .ne 7, 3) := by decide +kernel
theorem dX2_isAloneNotZero_14 : decode cX2_isAloneNotZero 14 = .ok (.iconst 1, 1) := by decide +kernel
theorem dX2_isAloneNotZero_15 : decode cX2_isAloneNotZero 15 = .ok (.goto 4, 3) := by decide +kernel
theorem dX2_isAloneNotZero_18 : decode cX2_isAloneNotZero 18 = .ok (.iconst 0, 1) := by decide +kernel
theorem dX2_isAloneNotZero_19 : decode cX2_isAloneNotZero 19 = .ok (.ireturn, 1) := by decide +kernel
theorem dX2_formOf_0 : decode cX2_formOf 0 = .ok (.iconst 0, 1) := by decide +kernel
theorem dX2_formOf_1 : decode cX2_formOf 1 = .ok (.istore_n 1, 1) := by decide +kernel
theorem dX2_formOf_2 : decode cX2_formOf 2 = .ok (.bipush 8, 2) := by decide +kernel
theorem dX2_formOf_4 : decode cX2_formOf 4 = .ok (.istore_n 2, 1) := by decide +kernel
theorem dX2_formOf_5 : decode cX2_formOf 5 = .ok (.iload_n 2, 1) := by decide +kernel
theorem dX2_formOf_6 : decode cX2_formOf 6 = .ok (.ifCond .lt 19, 3) := by decide +kernel
theorem dX2_formOf_9 : decode cX2_formOf 9 = .ok (.iconst 3, 1) := by decide +kernel
theorem dX2_formOf_10 : decode cX2_formOf 10 = .ok (.iload_n 1, 1) := by decide +kernel
theorem dX2_formOf_11 : decode cX2_formOf 11 = .ok (.imul, 1) := by decide +kernel
theorem dX2_formOf_12 : decode cX2_formOf 12 = .ok (.aload_n 0, 1) := by decide +kernel
theorem dX2_formOf_13 : decode cX2_formOf 13 = .ok (.iload_n 2, 1) := by decide +kernel
theorem dX2_formOf_14 : decode cX2_formOf 14 = .ok (.iaload, 1) := by decide +kernel
theorem dX2_formOf_15 : decode cX2_formOf 15 = .ok (.iadd, 1) := by decide +kernel
theorem dX2_formOf_16 : decode cX2_formOf 16 = .ok (.iconst 1, 1) := by decide +kernel
theorem dX2_formOf_17 : decode cX2_formOf 17 = .ok (.iadd, 1) := by decide +kernel
theorem dX2_formOf_18 : decode cX2_formOf 18 = .ok (.istore_n 1, 1) := by decide +kernel
theorem dX2_formOf_19 : decode cX2_formOf 19 = .ok (.iinc 2 (-1), 3) := by decide +kernel
theorem dX2_formOf_22 : decode cX2_formOf 22 = .ok (.goto (-17), 3) := by decide +kernel
theorem dX2_formOf_25 : decode cX2_formOf 25 = .ok (.iload_n 1, 1) := by decide +kernel
theorem dX2_formOf_26 : decode cX2_formOf 26 = .ok (.ireturn, 1) := by decide +kernel
theorem dX2_powerOf_0 : decode cX2_powerOf 0 = .ok (.iload_n 1, 1) := by decide +kernel
theorem dX2_powerOf_1 : decode cX2_powerOf 1 = .ok (.ifCond .ne 5, 3) := by decide +kernel
theorem dX2_powerOf_4 : decode cX2_powerOf 4 = .ok (.iconst 1, 1) := by decide +kernel
theorem dX2_powerOf_5 : decode cX2_powerOf 5 = .ok (.ireturn, 1) := by decide +kernel
theorem dX2_powerOf_6 : decode cX2_powerOf 6 = .ok (.iload_n 1, 1) := by decide +kernel
theorem dX2_powerOf_7 : decode cX2_powerOf 7 = .ok (.iconst 2, 1) := by decide +kernel
theorem dX2_powerOf_8 : decode cX2_powerOf 8 = .ok (.irem, 1) := by decide +kernel
theorem dX2_powerOf_9 : decode cX2_powerOf 9 = .ok (.ifCond .ne 9, 3) := by decide +kernel
theorem dX2_powerOf_12 : decode cX2_powerOf 12 = .ok (.iload_n 0, 1) := by decide +kernel
theorem dX2_powerOf_13 : decode cX2_powerOf 13 = .ok (.iload_n 0, 1) := by decide +kernel
theorem dX2_powerOf_14 : decode cX2_powerOf 14 = .ok (.imul, 1) := by decide +kernel
theorem dX2_powerOf_15 : decode cX2_powerOf 15 = .ok (.goto 4, 3) := by decide +kernel
theorem dX2_powerOf_18 : decode cX2_powerOf 18 = .ok (.iload_n 0, 1) := by decide +kernel
theorem dX2_powerOf_19 : decode cX2_powerOf 19 = .ok (.ireturn, 1) := by decide +kernel
theorem dX2_hasRoot_0 : decode cX2_hasRoot 0 = .ok (.iconst 0, 1) := by decide +kernel
theorem dX2_hasRoot_1 : decode cX2_hasRoot 1 = .ok (.istore_n 2, 1) := by decide +kernel
theorem dX2_hasRoot_2 : decode cX2_hasRoot 2 = .ok (.iconst 0, 1) := by decide +kernel
theorem dX2_hasRoot_3 : decode cX2_hasRoot 3 = .ok (.istore_n 3, 1) := by decide +kernel
theorem dX2_hasRoot_4 : decode cX2_hasRoot 4 = .ok (.iload_n 3, 1) := by decide +kernel
theorem dX2_hasRoot_5 : decode cX2_hasRoot 5 = .ok (.bipush 9, 2) := by decide +kernel
theorem dX2_hasRoot_7 : decode cX2_hasRoot 7 = .ok (.if_icmp .ge 24, 3) := by decide +kernel
theorem dX2_hasRoot_10 : decode cX2_hasRoot 10 = .ok (.iload_n 2, 1) := by decide +kernel
theorem dX2_hasRoot_11 : decode cX2_hasRoot 11 = .ok (.aload_n 0, 1) := by decide +kernel
theorem dX2_hasRoot_12 : decode cX2_hasRoot 12 = .ok (.iload_n 3, 1) := by decide +kernel
theorem dX2_hasRoot_13 : decode cX2_hasRoot 13 = .ok (.iaload, 1) := by decide +kernel
theorem dX2_hasRoot_14 : decode cX2_hasRoot 14 = .ok (.iload_n 1, 1) := by decide +kernel
theorem dX2_hasRoot_15 : decode cX2_hasRoot 15 = .ok (.iload_n 3, 1) := by decide +kernel
theorem dX2_hasRoot_16 : decode cX2_hasRoot 16 = .ok (.invokestatic 248, 3) := by decide +kernel
theorem dX2_hasRoot_19 : decode cX2_hasRoot 19 = .ok (.imul, 1) := by decide +kernel
theorem dX2_hasRoot_20 : decode cX2_hasRoot 20 = .ok (.invokestatic 227, 3) := by decide +kernel
theorem dX2_hasRoot_23 : decode cX2_hasRoot 23 = .ok (.ior, 1) := by decide +kernel
theorem dX2_hasRoot_24 : decode cX2_hasRoot 24 = .ok (.istore_n 2, 1) := by decide +kernel
theorem dX2_hasRoot_25 : decode cX2_hasRoot 25 = .ok (.iinc 3 1, 3) := by decide +kernel
theorem dX2_hasRoot_28 : decode cX2_hasRoot 28 = .ok (.goto (-24), 3) := by decide +kernel
theorem dX2_hasRoot_31 : decode cX2_hasRoot 31 = .ok (.iload_n 2, 1) := by decide +kernel
theorem dX2_hasRoot_32 : decode cX2_hasRoot 32 = .ok (.iconst 0, 1) := by decide +kernel
theorem dX2_hasRoot_33 : decode cX2_hasRoot 33 = .ok (.invokestatic 244, 3) := by decide +kernel
theorem dX2_hasRoot_36 : decode cX2_hasRoot 36 = .ok (.ireturn, 1) := by decide +kernel
theorem dX2_changesOf_0 : decode cX2_changesOf 0 = .ok (.iconst 0, 1) := by decide +kernel
theorem dX2_changesOf_1 : decode cX2_changesOf 1 = .ok (.istore_n 2, 1) := by decide +kernel
theorem dX2_changesOf_2 : decode cX2_changesOf 2 = .ok (.iconst 0, 1) := by decide +kernel
theorem dX2_changesOf_3 : decode cX2_changesOf 3 = .ok (.istore_n 3, 1) := by decide +kernel
theorem dX2_changesOf_4 : decode cX2_changesOf 4 = .ok (.iconst 0, 1) := by decide +kernel
theorem dX2_changesOf_5 : decode cX2_changesOf 5 = .ok (.istore 4, 2) := by decide +kernel
theorem dX2_changesOf_7 : decode cX2_changesOf 7 = .ok (.iload 4, 2) := by decide +kernel
theorem dX2_changesOf_9 : decode cX2_changesOf 9 = .ok (.bipush 9, 2) := by decide +kernel
theorem dX2_changesOf_11 : decode cX2_changesOf 11 = .ok (.if_icmp .ge 43, 3) := by decide +kernel
theorem dX2_changesOf_14 : decode cX2_changesOf 14 = .ok (.aload_n 0, 1) := by decide +kernel
theorem dX2_changesOf_15 : decode cX2_changesOf 15 = .ok (.iload 4, 2) := by decide +kernel
theorem dX2_changesOf_17 : decode cX2_changesOf 17 = .ok (.iaload, 1) := by decide +kernel
theorem dX2_changesOf_18 : decode cX2_changesOf 18 = .ok (.iload_n 1, 1) := by decide +kernel
theorem dX2_changesOf_19 : decode cX2_changesOf 19 = .ok (.iload 4, 2) := by decide +kernel
theorem dX2_changesOf_21 : decode cX2_changesOf 21 = .ok (.invokestatic 248, 3) := by decide +kernel
theorem dX2_changesOf_24 : decode cX2_changesOf 24 = .ok (.imul, 1) := by decide +kernel
theorem dX2_changesOf_25 : decode cX2_changesOf 25 = .ok (.istore 5, 2) := by decide +kernel
theorem dX2_changesOf_27 : decode cX2_changesOf 27 = .ok (.iload 5, 2) := by decide +kernel
theorem dX2_changesOf_29 : decode cX2_changesOf 29 = .ok (.ifCond .eq 19, 3) := by decide +kernel
theorem dX2_changesOf_32 : decode cX2_changesOf 32 = .ok (.iload_n 3, 1) := by decide +kernel
theorem dX2_changesOf_33 : decode cX2_changesOf 33 = .ok (.ifCond .eq 12, 3) := by decide +kernel
theorem dX2_changesOf_36 : decode cX2_changesOf 36 = .ok (.iload 5, 2) := by decide +kernel
theorem dX2_changesOf_38 : decode cX2_changesOf 38 = .ok (.iload_n 3, 1) := by decide +kernel
theorem dX2_changesOf_39 : decode cX2_changesOf 39 = .ok (.if_icmp .eq 6, 3) := by decide +kernel
theorem dX2_changesOf_42 : decode cX2_changesOf 42 = .ok (.iinc 2 1, 3) := by decide +kernel
theorem dX2_changesOf_45 : decode cX2_changesOf 45 = .ok (.iload 5, 2) := by decide +kernel
theorem dX2_changesOf_47 : decode cX2_changesOf 47 = .ok (.istore_n 3, 1) := by decide +kernel
theorem dX2_changesOf_48 : decode cX2_changesOf 48 = .ok (.iinc 4 1, 3) := by decide +kernel
theorem dX2_changesOf_51 : decode cX2_changesOf 51 = .ok (.goto (-44), 3) := by decide +kernel
theorem dX2_changesOf_54 : decode cX2_changesOf 54 = .ok (.iload_n 2, 1) := by decide +kernel
theorem dX2_changesOf_55 : decode cX2_changesOf 55 = .ok (.ireturn, 1) := by decide +kernel
theorem dX2_zerosBelow_0 : decode cX2_zerosBelow 0 = .ok (.iconst 0, 1) := by decide +kernel
theorem dX2_zerosBelow_1 : decode cX2_zerosBelow 1 = .ok (.istore_n 1, 1) := by decide +kernel
theorem dX2_zerosBelow_2 : decode cX2_zerosBelow 2 = .ok (.iconst 0, 1) := by decide +kernel
theorem dX2_zerosBelow_3 : decode cX2_zerosBelow 3 = .ok (.istore_n 2, 1) := by decide +kernel
theorem dX2_zerosBelow_4 : decode cX2_zerosBelow 4 = .ok (.iload_n 2, 1) := by decide +kernel
theorem dX2_zerosBelow_5 : decode cX2_zerosBelow 5 = .ok (.bipush 9, 2) := by decide +kernel
theorem dX2_zerosBelow_7 : decode cX2_zerosBelow 7 = .ok (.if_icmp .ge 18, 3) := by decide +kernel
theorem dX2_zerosBelow_10 : decode cX2_zerosBelow 10 = .ok (.aload_n 0, 1) := by decide +kernel
theorem dX2_zerosBelow_11 : decode cX2_zerosBelow 11 = .ok (.iload_n 2, 1) := by decide +kernel
theorem dX2_zerosBelow_12 : decode cX2_zerosBelow 12 = .ok (.iaload, 1) := by decide +kernel
theorem dX2_zerosBelow_13 : decode cX2_zerosBelow 13 = .ok (.ifCond .ne 12, 3) := by decide +kernel
theorem dX2_zerosBelow_16 : decode cX2_zerosBelow 16 = .ok (.iinc 1 1, 3) := by decide +kernel
theorem dX2_zerosBelow_19 : decode cX2_zerosBelow 19 = .ok (.iinc 2 1, 3) := by decide +kernel
theorem dX2_zerosBelow_22 : decode cX2_zerosBelow 22 = .ok (.goto (-18), 3) := by decide +kernel
theorem dX2_zerosBelow_25 : decode cX2_zerosBelow 25 = .ok (.iload_n 1, 1) := by decide +kernel
theorem dX2_zerosBelow_26 : decode cX2_zerosBelow 26 = .ok (.ireturn, 1) := by decide +kernel
theorem dX2_countedTimes_0 : decode cX2_countedTimes 0 = .ok (.iload_n 1, 1) := by decide +kernel
theorem dX2_countedTimes_1 : decode cX2_countedTimes 1 = .ok (.ifCond .ne 10, 3) := by decide +kernel
theorem dX2_countedTimes_4 : decode cX2_countedTimes 4 = .ok (.aload_n 0, 1) := by decide +kernel
theorem dX2_countedTimes_5 : decode cX2_countedTimes 5 = .ok (.invokestatic 252, 3) := by decide +kernel
theorem dX2_countedTimes_8 : decode cX2_countedTimes 8 = .ok (.goto 8, 3) := by decide +kernel
theorem dX2_countedTimes_11 : decode cX2_countedTimes 11 = .ok (.aload_n 0, 1) := by decide +kernel
theorem dX2_countedTimes_12 : decode cX2_countedTimes 12 = .ok (.iload_n 1, 1) := by decide +kernel
theorem dX2_countedTimes_13 : decode cX2_countedTimes 13 = .ok (.invokestatic 151, 3) := by decide +kernel
theorem dX2_countedTimes_16 : decode cX2_countedTimes 16 = .ok (.ireturn, 1) := by decide +kernel
theorem dX2_shareOf_0 : decode cX2_shareOf 0 = .ok (.aload_n 0, 1) := by decide +kernel
theorem dX2_shareOf_1 : decode cX2_shareOf 1 = .ok (.invokestatic 73, 3) := by decide +kernel
theorem dX2_shareOf_4 : decode cX2_shareOf 4 = .ok (.istore_n 1, 1) := by decide +kernel
theorem dX2_shareOf_5 : decode cX2_shareOf 5 = .ok (.iload_n 1, 1) := by decide +kernel
theorem dX2_shareOf_6 : decode cX2_shareOf 6 = .ok (.ifCond .ne 5, 3) := by decide +kernel
theorem dX2_shareOf_9 : decode cX2_shareOf 9 = .ok (.dconst 1, 1) := by decide +kernel
theorem dX2_shareOf_10 : decode cX2_shareOf 10 = .ok (.dreturn, 1) := by decide +kernel
theorem dX2_shareOf_11 : decode cX2_shareOf 11 = .ok (.aload_n 0, 1) := by decide +kernel
theorem dX2_shareOf_12 : decode cX2_shareOf 12 = .ok (.iconst 1, 1) := by decide +kernel
theorem dX2_shareOf_13 : decode cX2_shareOf 13 = .ok (.invokestatic 161, 3) := by decide +kernel
theorem dX2_shareOf_16 : decode cX2_shareOf 16 = .ok (.aload_n 0, 1) := by decide +kernel
theorem dX2_shareOf_17 : decode cX2_shareOf 17 = .ok (.iconst (-1), 1) := by decide +kernel
theorem dX2_shareOf_18 : decode cX2_shareOf 18 = .ok (.invokestatic 161, 3) := by decide +kernel
theorem dX2_shareOf_21 : decode cX2_shareOf 21 = .ok (.iadd, 1) := by decide +kernel
theorem dX2_shareOf_22 : decode cX2_shareOf 22 = .ok (.aload_n 0, 1) := by decide +kernel
theorem dX2_shareOf_23 : decode cX2_shareOf 23 = .ok (.iconst 0, 1) := by decide +kernel
theorem dX2_shareOf_24 : decode cX2_shareOf 24 = .ok (.invokestatic 161, 3) := by decide +kernel
theorem dX2_shareOf_27 : decode cX2_shareOf 27 = .ok (.iadd, 1) := by decide +kernel
theorem dX2_shareOf_28 : decode cX2_shareOf 28 = .ok (.istore_n 2, 1) := by decide +kernel
theorem dX2_shareOf_29 : decode cX2_shareOf 29 = .ok (.iload_n 2, 1) := by decide +kernel
theorem dX2_shareOf_30 : decode cX2_shareOf 30 = .ok (.i2d, 1) := by decide +kernel
theorem dX2_shareOf_31 : decode cX2_shareOf 31 = .ok (.iload_n 1, 1) := by decide +kernel
theorem dX2_shareOf_32 : decode cX2_shareOf 32 = .ok (.i2d, 1) := by decide +kernel
theorem dX2_shareOf_33 : decode cX2_shareOf 33 = .ok (.ddiv, 1) := by decide +kernel
theorem dX2_shareOf_34 : decode cX2_shareOf 34 = .ok (.dreturn, 1) := by decide +kernel
theorem dX2_quotientsOf_0 : decode cX2_quotientsOf 0 = .ok (.aload_n 0, 1) := by decide +kernel
theorem dX2_quotientsOf_1 : decode cX2_quotientsOf 1 = .ok (.getfield 44, 3) := by decide +kernel
theorem dX2_quotientsOf_4 : decode cX2_quotientsOf 4 = .ok (.iconst 0, 1) := by decide +kernel
theorem dX2_quotientsOf_5 : decode cX2_quotientsOf 5 = .ok (.aaload, 1) := by decide +kernel
theorem dX2_quotientsOf_6 : decode cX2_quotientsOf 6 = .ok (.astore_n 3, 1) := by decide +kernel
theorem dX2_quotientsOf_7 : decode cX2_quotientsOf 7 = .ok (.aload_n 3, 1) := by decide +kernel
theorem dX2_quotientsOf_8 : decode cX2_quotientsOf 8 = .ok (.aload_n 1, 1) := by decide +kernel
theorem dX2_quotientsOf_9 : decode cX2_quotientsOf 9 = .ok (.iload_n 2, 1) := by decide +kernel
theorem dX2_quotientsOf_10 : decode cX2_quotientsOf 10 = .ok (.invokevirtual 255, 3) := by decide +kernel
theorem dX2_quotientsOf_13 : decode cX2_quotientsOf 13 = .ok (.iconst 0, 1) := by decide +kernel
theorem dX2_quotientsOf_14 : decode cX2_quotientsOf 14 = .ok (.istore 4, 2) := by decide +kernel
theorem dX2_quotientsOf_16 : decode cX2_quotientsOf 16 = .ok (.iconst 0, 1) := by decide +kernel
theorem dX2_quotientsOf_17 : decode cX2_quotientsOf 17 = .ok (.istore 5, 2) := by decide +kernel
theorem dX2_quotientsOf_19 : decode cX2_quotientsOf 19 = .ok (.iload 5, 2) := by decide +kernel
theorem dX2_quotientsOf_21 : decode cX2_quotientsOf 21 = .ok (.ldc_w 259, 3) := by decide +kernel
theorem dX2_quotientsOf_24 : decode cX2_quotientsOf 24 = .ok (.if_icmp .ge 19, 3) := by decide +kernel
theorem dX2_quotientsOf_27 : decode cX2_quotientsOf 27 = .ok (.aload_n 3, 1) := by decide +kernel
theorem dX2_quotientsOf_28 : decode cX2_quotientsOf 28 = .ok (.invokevirtual 260, 3) := by decide +kernel
theorem dX2_quotientsOf_31 : decode cX2_quotientsOf 31 = .ok (.ifCond .eq 12, 3) := by decide +kernel
theorem dX2_quotientsOf_34 : decode cX2_quotientsOf 34 = .ok (.iinc 4 1, 3) := by decide +kernel
theorem dX2_quotientsOf_37 : decode cX2_quotientsOf 37 = .ok (.iinc 5 1, 3) := by decide +kernel
theorem dX2_quotientsOf_40 : decode cX2_quotientsOf 40 = .ok (.goto (-21), 3) := by decide +kernel
theorem dX2_quotientsOf_43 : decode cX2_quotientsOf 43 = .ok (.iload 4, 2) := by decide +kernel
theorem dX2_quotientsOf_45 : decode cX2_quotientsOf 45 = .ok (.ireturn, 1) := by decide +kernel
theorem dX2_bestForm_0 : decode cX2_bestForm 0 = .ok (.iload_n 1, 1) := by decide +kernel
theorem dX2_bestForm_1 : decode cX2_bestForm 1 = .ok (.ifCond .ne 8, 3) := by decide +kernel
theorem dX2_bestForm_4 : decode cX2_bestForm 4 = .ok (.bipush (-9), 2) := by decide +kernel
theorem dX2_bestForm_6 : decode cX2_bestForm 6 = .ok (.goto 15, 3) := by decide +kernel
theorem dX2_bestForm_9 : decode cX2_bestForm 9 = .ok (.aload_n 0, 1) := by decide +kernel
theorem dX2_bestForm_10 : decode cX2_bestForm 10 = .ok (.getfield 44, 3) := by decide +kernel
theorem dX2_bestForm_13 : decode cX2_bestForm 13 = .ok (.iconst 0, 1) := by decide +kernel
theorem dX2_bestForm_14 : decode cX2_bestForm 14 = .ok (.aaload, 1) := by decide +kernel
theorem dX2_bestForm_15 : decode cX2_bestForm 15 = .ok (.getfield 87, 3) := by decide +kernel
theorem dX2_bestForm_18 : decode cX2_bestForm 18 = .ok (.invokestatic 155, 3) := by decide +kernel
theorem dX2_bestForm_21 : decode cX2_bestForm 21 = .ok (.ireturn, 1) := by decide +kernel
theorem dX2_tryQuotients_0 : decode cX2_tryQuotients 0 = .ok (.aload_n 0, 1) := by decide +kernel
theorem dX2_tryQuotients_1 : decode cX2_tryQuotients 1 = .ok (.iload_n 1, 1) := by decide +kernel
theorem dX2_tryQuotients_2 : decode cX2_tryQuotients 2 = .ok (.invokestatic 161, 3) := by decide +kernel
theorem dX2_tryQuotients_5 : decode cX2_tryQuotients 5 = .ok (.istore 4, 2) := by decide +kernel
theorem dX2_tryQuotients_7 : decode cX2_tryQuotients 7 = .ok (.iload 4, 2) := by decide +kernel
theorem dX2_tryQuotients_9 : decode cX2_tryQuotients 9 = .ok (.ifCond .eq 9, 3) := by decide +kernel
theorem dX2_tryQuotients_12 : decode cX2_tryQuotients 12 = .ok (.iload_n 3, 1) := by decide +kernel
theorem dX2_tryQuotients_13 : decode cX2_tryQuotients 13 = .ok (.aload_n 2, 1) := by decide +kernel
theorem dX2_tryQuotients_14 : decode cX2_tryQuotients 14 = .ok (.arraylength, 1) := by decide +kernel
theorem dX2_tryQuotients_15 : decode cX2_tryQuotients 15 = .ok (.if_icmp .lt 5, 3) := by decide +kernel
theorem dX2_tryQuotients_18 : decode cX2_tryQuotients 18 = .ok (.iconst 0, 1) := by decide +kernel
theorem dX2_tryQuotients_19 : decode cX2_tryQuotients 19 = .ok (.ireturn, 1) := by decide +kernel
theorem dX2_tryQuotients_20 : decode cX2_tryQuotients 20 = .ok (.iconst 0, 1) := by decide +kernel
theorem dX2_tryQuotients_21 : decode cX2_tryQuotients 21 = .ok (.istore 5, 2) := by decide +kernel
theorem dX2_tryQuotients_23 : decode cX2_tryQuotients 23 = .ok (.aload_n 2, 1) := by decide +kernel
theorem dX2_tryQuotients_24 : decode cX2_tryQuotients 24 = .ok (.iload_n 3, 1) := by decide +kernel
theorem dX2_tryQuotients_25 : decode cX2_tryQuotients 25 = .ok (.aaload, 1) := by decide +kernel
theorem dX2_tryQuotients_26 : decode cX2_tryQuotients 26 = .ok (.astore 6, 2) := by decide +kernel
theorem dX2_tryQuotients_28 : decode cX2_tryQuotients 28 = .ok (.aload 6, 2) := by decide +kernel
theorem dX2_tryQuotients_30 : decode cX2_tryQuotients 30 = .ok (.aload_n 0, 1) := by decide +kernel
theorem dX2_tryQuotients_31 : decode cX2_tryQuotients 31 = .ok (.iload_n 1, 1) := by decide +kernel
theorem dX2_tryQuotients_32 : decode cX2_tryQuotients 32 = .ok (.invokevirtual 255, 3) := by decide +kernel
theorem dX2_tryQuotients_35 : decode cX2_tryQuotients 35 = .ok (.iconst 0, 1) := by decide +kernel
theorem dX2_tryQuotients_36 : decode cX2_tryQuotients 36 = .ok (.istore 7, 2) := by decide +kernel
theorem dX2_tryQuotients_38 : decode cX2_tryQuotients 38 = .ok (.iload 7, 2) := by decide +kernel
theorem dX2_tryQuotients_40 : decode cX2_tryQuotients 40 = .ok (.ldc_w 259, 3) := by decide +kernel
theorem dX2_tryQuotients_43 : decode cX2_tryQuotients 43 = .ok (.if_icmp .ge 71, 3) := by decide +kernel
theorem dX2_tryQuotients_46 : decode cX2_tryQuotients 46 = .ok (.iload 5, 2) := by decide +kernel
theorem dX2_tryQuotients_48 : decode cX2_tryQuotients 48 = .ok (.iload 4, 2) := by decide +kernel
theorem dX2_tryQuotients_50 : decode cX2_tryQuotients 50 = .ok (.if_icmp .ge 64, 3) := by decide +kernel
theorem dX2_tryQuotients_53 : decode cX2_tryQuotients 53 = .ok (.aload 6, 2) := by decide +kernel
theorem dX2_tryQuotients_55 : decode cX2_tryQuotients 55 = .ok (.invokevirtual 260, 3) := by decide +kernel
theorem dX2_tryQuotients_58 : decode cX2_tryQuotients 58 = .ok (.ifCond .eq 56, 3) := by decide +kernel
theorem dX2_tryQuotients_61 : decode cX2_tryQuotients 61 = .ok (.aload 6, 2) := by decide +kernel
theorem dX2_tryQuotients_63 : decode cX2_tryQuotients 63 = .ok (.getfield 264, 3) := by decide +kernel
theorem dX2_tryQuotients_66 : decode cX2_tryQuotients 66 = .ok (.iload_n 1, 1) := by decide +kernel
theorem dX2_tryQuotients_67 : decode cX2_tryQuotients 67 = .ok (.invokestatic 161, 3) := by decide +kernel
theorem dX2_tryQuotients_70 : decode cX2_tryQuotients 70 = .ok (.iload 5, 2) := by decide +kernel
theorem dX2_tryQuotients_72 : decode cX2_tryQuotients 72 = .ok (.if_icmp .lt 36, 3) := by decide +kernel
theorem dX2_tryQuotients_75 : decode cX2_tryQuotients 75 = .ok (.iconst 1, 1) := by decide +kernel
theorem dX2_tryQuotients_76 : decode cX2_tryQuotients 76 = .ok (.aload 6, 2) := by decide +kernel
theorem dX2_tryQuotients_78 : decode cX2_tryQuotients 78 = .ok (.getfield 264, 3) := by decide +kernel
theorem dX2_tryQuotients_81 : decode cX2_tryQuotients 81 = .ok (.iload_n 1, 1) := by decide +kernel
theorem dX2_tryQuotients_82 : decode cX2_tryQuotients 82 = .ok (.aload_n 2, 1) := by decide +kernel
theorem dX2_tryQuotients_83 : decode cX2_tryQuotients 83 = .ok (.iload_n 3, 1) := by decide +kernel
theorem dX2_tryQuotients_84 : decode cX2_tryQuotients 84 = .ok (.iconst 1, 1) := by decide +kernel
theorem dX2_tryQuotients_85 : decode cX2_tryQuotients 85 = .ok (.iadd, 1) := by decide +kernel
theorem dX2_tryQuotients_86 : decode cX2_tryQuotients 86 = .ok (.invokestatic 83, 3) := by decide +kernel
theorem dX2_tryQuotients_89 : decode cX2_tryQuotients 89 = .ok (.iadd, 1) := by decide +kernel
theorem dX2_tryQuotients_90 : decode cX2_tryQuotients 90 = .ok (.istore 8, 2) := by decide +kernel
theorem dX2_tryQuotients_92 : decode cX2_tryQuotients 92 = .ok (.iload 8, 2) := by decide +kernel
theorem dX2_tryQuotients_94 : decode cX2_tryQuotients 94 = .ok (.iload 5, 2) := by decide +kernel
theorem dX2_tryQuotients_96 : decode cX2_tryQuotients 96 = .ok (.if_icmp .le 12, 3) := by decide +kernel
theorem dX2_tryQuotients_99 : decode cX2_tryQuotients 99 = .ok (.iload 8, 2) := by decide +kernel
theorem dX2_tryQuotients_101 : decode cX2_tryQuotients 101 = .ok (.istore 5, 2) := by decide +kernel
theorem dX2_tryQuotients_103 : decode cX2_tryQuotients 103 = .ok (.aload 6, 2) := by decide +kernel
theorem dX2_tryQuotients_105 : decode cX2_tryQuotients 105 = .ok (.invokevirtual 267, 3) := by decide +kernel
theorem dX2_tryQuotients_108 : decode cX2_tryQuotients 108 = .ok (.iinc 7 1, 3) := by decide +kernel
theorem dX2_tryQuotients_111 : decode cX2_tryQuotients 111 = .ok (.goto (-73), 3) := by decide +kernel
theorem dX2_tryQuotients_114 : decode cX2_tryQuotients 114 = .ok (.iload 5, 2) := by decide +kernel
theorem dX2_tryQuotients_116 : decode cX2_tryQuotients 116 = .ok (.ireturn, 1) := by decide +kernel
theorem dX2_expandWhole_0 : decode cX2_expandWhole 0 = .ok (.iconst 0, 1) := by decide +kernel
theorem dX2_expandWhole_1 : decode cX2_expandWhole 1 = .ok (.istore_n 1, 1) := by decide +kernel
theorem dX2_expandWhole_2 : decode cX2_expandWhole 2 = .ok (.iload_n 1, 1) := by decide +kernel
theorem dX2_expandWhole_3 : decode cX2_expandWhole 3 = .ok (.bipush 9, 2) := by decide +kernel
theorem dX2_expandWhole_5 : decode cX2_expandWhole 5 = .ok (.if_icmp .ge 16, 3) := by decide +kernel
theorem dX2_expandWhole_8 : decode cX2_expandWhole 8 = .ok (.aload_n 0, 1) := by decide +kernel
theorem dX2_expandWhole_9 : decode cX2_expandWhole 9 = .ok (.getfield 38, 3) := by decide +kernel
theorem dX2_expandWhole_12 : decode cX2_expandWhole 12 = .ok (.iload_n 1, 1) := by decide +kernel
theorem dX2_expandWhole_13 : decode cX2_expandWhole 13 = .ok (.lconst 0, 1) := by decide +kernel
theorem dX2_expandWhole_14 : decode cX2_expandWhole 14 = .ok (.lastore, 1) := by decide +kernel
theorem dX2_expandWhole_15 : decode cX2_expandWhole 15 = .ok (.iinc 1 1, 3) := by decide +kernel
theorem dX2_expandWhole_18 : decode cX2_expandWhole 18 = .ok (.goto (-16), 3) := by decide +kernel
theorem dX2_expandWhole_21 : decode cX2_expandWhole 21 = .ok (.aload_n 0, 1) := by decide +kernel
theorem dX2_expandWhole_22 : decode cX2_expandWhole 22 = .ok (.getfield 38, 3) := by decide +kernel
theorem dX2_expandWhole_25 : decode cX2_expandWhole 25 = .ok (.iconst 0, 1) := by decide +kernel
theorem dX2_expandWhole_26 : decode cX2_expandWhole 26 = .ok (.lconst 1, 1) := by decide +kernel
theorem dX2_expandWhole_27 : decode cX2_expandWhole 27 = .ok (.lastore, 1) := by decide +kernel
theorem dX2_expandWhole_28 : decode cX2_expandWhole 28 = .ok (.iconst 0, 1) := by decide +kernel
theorem dX2_expandWhole_29 : decode cX2_expandWhole 29 = .ok (.istore_n 1, 1) := by decide +kernel
theorem dX2_expandWhole_30 : decode cX2_expandWhole 30 = .ok (.iload_n 1, 1) := by decide +kernel
theorem dX2_expandWhole_31 : decode cX2_expandWhole 31 = .ok (.aload_n 0, 1) := by decide +kernel
theorem dX2_expandWhole_32 : decode cX2_expandWhole 32 = .ok (.getfield 12, 3) := by decide +kernel
theorem dX2_expandWhole_35 : decode cX2_expandWhole 35 = .ok (.getfield 100, 3) := by decide +kernel
theorem dX2_expandWhole_38 : decode cX2_expandWhole 38 = .ok (.if_icmp .ge 85, 3) := by decide +kernel
theorem dX2_expandWhole_41 : decode cX2_expandWhole 41 = .ok (.iload_n 1, 1) := by decide +kernel
theorem dX2_expandWhole_42 : decode cX2_expandWhole 42 = .ok (.bipush 8, 2) := by decide +kernel
theorem dX2_expandWhole_44 : decode cX2_expandWhole 44 = .ok (.if_icmp .ge 79, 3) := by decide +kernel
theorem dX2_expandWhole_47 : decode cX2_expandWhole 47 = .ok (.iload_n 1, 1) := by decide +kernel
theorem dX2_expandWhole_48 : decode cX2_expandWhole 48 = .ok (.iconst 1, 1) := by decide +kernel
theorem dX2_expandWhole_49 : decode cX2_expandWhole 49 = .ok (.iadd, 1) := by decide +kernel
theorem dX2_expandWhole_50 : decode cX2_expandWhole 50 = .ok (.istore_n 2, 1) := by decide +kernel
theorem dX2_expandWhole_51 : decode cX2_expandWhole 51 = .ok (.iload_n 2, 1) := by decide +kernel
theorem dX2_expandWhole_52 : decode cX2_expandWhole 52 = .ok (.ifCond .le 41, 3) := by decide +kernel
theorem dX2_expandWhole_55 : decode cX2_expandWhole 55 = .ok (.aload_n 0, 1) := by decide +kernel
theorem dX2_expandWhole_56 : decode cX2_expandWhole 56 = .ok (.getfield 38, 3) := by decide +kernel
theorem dX2_expandWhole_59 : decode cX2_expandWhole 59 = .ok (.iload_n 2, 1) := by decide +kernel
theorem dX2_expandWhole_60 : decode cX2_expandWhole 60 = .ok (.aload_n 0, 1) := by decide +kernel
theorem dX2_expandWhole_61 : decode cX2_expandWhole 61 = .ok (.getfield 38, 3) := by decide +kernel
theorem dX2_expandWhole_64 : decode cX2_expandWhole 64 = .ok (.iload_n 2, 1) := by decide +kernel
theorem dX2_expandWhole_65 : decode cX2_expandWhole 65 = .ok (.iconst 1, 1) := by decide +kernel
theorem dX2_expandWhole_66 : decode cX2_expandWhole 66 = .ok (.isub, 1) := by decide +kernel
theorem dX2_expandWhole_67 : decode cX2_expandWhole 67 = .ok (.laload, 1) := by decide +kernel
theorem dX2_expandWhole_68 : decode cX2_expandWhole 68 = .ok (.aload_n 0, 1) := by decide +kernel
theorem dX2_expandWhole_69 : decode cX2_expandWhole 69 = .ok (.getfield 12, 3) := by decide +kernel
theorem dX2_expandWhole_72 : decode cX2_expandWhole 72 = .ok (.getfield 103, 3) := by decide +kernel
theorem dX2_expandWhole_75 : decode cX2_expandWhole 75 = .ok (.iload_n 1, 1) := by decide +kernel
theorem dX2_expandWhole_76 : decode cX2_expandWhole 76 = .ok (.iaload, 1) := by decide +kernel
theorem dX2_expandWhole_77 : decode cX2_expandWhole 77 = .ok (.i2l, 1) := by decide +kernel
theorem dX2_expandWhole_78 : decode cX2_expandWhole 78 = .ok (.aload_n 0, 1) := by decide +kernel
theorem dX2_expandWhole_79 : decode cX2_expandWhole 79 = .ok (.getfield 38, 3) := by decide +kernel
theorem dX2_expandWhole_82 : decode cX2_expandWhole 82 = .ok (.iload_n 2, 1) := by decide +kernel
theorem dX2_expandWhole_83 : decode cX2_expandWhole 83 = .ok (.laload, 1) := by decide +kernel
theorem dX2_expandWhole_84 : decode cX2_expandWhole 84 = .ok (.lmul, 1) := by decide +kernel
theorem dX2_expandWhole_85 : decode cX2_expandWhole 85 = .ok (.lsub, 1) := by decide +kernel
theorem dX2_expandWhole_86 : decode cX2_expandWhole 86 = .ok (.lastore, 1) := by decide +kernel
theorem dX2_expandWhole_87 : decode cX2_expandWhole 87 = .ok (.iinc 2 (-1), 3) := by decide +kernel
theorem dX2_expandWhole_90 : decode cX2_expandWhole 90 = .ok (.goto (-39), 3) := by decide +kernel
theorem dX2_expandWhole_93 : decode cX2_expandWhole 93 = .ok (.aload_n 0, 1) := by decide +kernel
theorem dX2_expandWhole_94 : decode cX2_expandWhole 94 = .ok (.getfield 38, 3) := by decide +kernel
theorem dX2_expandWhole_97 : decode cX2_expandWhole 97 = .ok (.iconst 0, 1) := by decide +kernel
theorem dX2_expandWhole_98 : decode cX2_expandWhole 98 = .ok (.aload_n 0, 1) := by decide +kernel
theorem dX2_expandWhole_99 : decode cX2_expandWhole 99 = .ok (.getfield 12, 3) := by decide +kernel
theorem dX2_expandWhole_102 : decode cX2_expandWhole 102 = .ok (.getfield 103, 3) := by decide +kernel
theorem dX2_expandWhole_105 : decode cX2_expandWhole 105 = .ok (.iload_n 1, 1) := by decide +kernel
theorem dX2_expandWhole_106 : decode cX2_expandWhole 106 = .ok (.iaload, 1) := by decide +kernel
theorem dX2_expandWhole_107 : decode cX2_expandWhole 107 = .ok (.ineg, 1) := by decide +kernel
theorem dX2_expandWhole_108 : decode cX2_expandWhole 108 = .ok (.i2l, 1) := by decide +kernel
theorem dX2_expandWhole_109 : decode cX2_expandWhole 109 = .ok (.aload_n 0, 1) := by decide +kernel
theorem dX2_expandWhole_110 : decode cX2_expandWhole 110 = .ok (.getfield 38, 3) := by decide +kernel
theorem dX2_expandWhole_113 : decode cX2_expandWhole 113 = .ok (.iconst 0, 1) := by decide +kernel
theorem dX2_expandWhole_114 : decode cX2_expandWhole 114 = .ok (.laload, 1) := by decide +kernel
theorem dX2_expandWhole_115 : decode cX2_expandWhole 115 = .ok (.lmul, 1) := by decide +kernel
theorem dX2_expandWhole_116 : decode cX2_expandWhole 116 = .ok (.lastore, 1) := by decide +kernel
theorem dX2_expandWhole_117 : decode cX2_expandWhole 117 = .ok (.iinc 1 1, 3) := by decide +kernel
theorem dX2_expandWhole_120 : decode cX2_expandWhole 120 = .ok (.goto (-90), 3) := by decide +kernel
theorem dX2_expandWhole_123 : decode cX2_expandWhole 123 = .ok (.return_, 1) := by decide +kernel
theorem dX2_rootsOfSign_0 : decode cX2_rootsOfSign 0 = .ok (.iconst 0, 1) := by decide +kernel
theorem dX2_rootsOfSign_1 : decode cX2_rootsOfSign 1 = .ok (.istore_n 2, 1) := by decide +kernel
theorem dX2_rootsOfSign_2 : decode cX2_rootsOfSign 2 = .ok (.iconst 0, 1) := by decide +kernel
theorem dX2_rootsOfSign_3 : decode cX2_rootsOfSign 3 = .ok (.istore_n 3, 1) := by decide +kernel
theorem dX2_rootsOfSign_4 : decode cX2_rootsOfSign 4 = .ok (.iload_n 3, 1) := by decide +kernel
theorem dX2_rootsOfSign_5 : decode cX2_rootsOfSign 5 = .ok (.aload_n 0, 1) := by decide +kernel
theorem dX2_rootsOfSign_6 : decode cX2_rootsOfSign 6 = .ok (.getfield 12, 3) := by decide +kernel
theorem dX2_rootsOfSign_9 : decode cX2_rootsOfSign 9 = .ok (.getfield 100, 3) := by decide +kernel
theorem dX2_rootsOfSign_12 : decode cX2_rootsOfSign 12 = .ok (.if_icmp .ge 35, 3) := by decide +kernel
theorem dX2_rootsOfSign_15 : decode cX2_rootsOfSign 15 = .ok (.iload_n 3, 1) := by decide +kernel
theorem dX2_rootsOfSign_16 : decode cX2_rootsOfSign 16 = .ok (.bipush 8, 2) := by decide +kernel
theorem dX2_rootsOfSign_18 : decode cX2_rootsOfSign 18 = .ok (.if_icmp .ge 29, 3) := by decide +kernel
theorem dX2_rootsOfSign_21 : decode cX2_rootsOfSign 21 = .ok (.aload_n 0, 1) := by decide +kernel
theorem dX2_rootsOfSign_22 : decode cX2_rootsOfSign 22 = .ok (.getfield 12, 3) := by decide +kernel
theorem dX2_rootsOfSign_25 : decode cX2_rootsOfSign 25 = .ok (.getfield 103, 3) := by decide +kernel
theorem dX2_rootsOfSign_28 : decode cX2_rootsOfSign 28 = .ok (.iload_n 3, 1) := by decide +kernel
theorem dX2_rootsOfSign_29 : decode cX2_rootsOfSign 29 = .ok (.iaload, 1) := by decide +kernel
theorem dX2_rootsOfSign_30 : decode cX2_rootsOfSign 30 = .ok (.i2l, 1) := by decide +kernel
theorem dX2_rootsOfSign_31 : decode cX2_rootsOfSign 31 = .ok (.invokestatic 109, 3) := by decide +kernel
theorem dX2_rootsOfSign_34 : decode cX2_rootsOfSign 34 = .ok (.iload_n 1, 1) := by decide +kernel
theorem dX2_rootsOfSign_35 : decode cX2_rootsOfSign 35 = .ok (.if_icmp .ne 6, 3) := by decide +kernel
theorem dX2_rootsOfSign_38 : decode cX2_rootsOfSign 38 = .ok (.iinc 2 1, 3) := by decide +kernel
theorem dX2_rootsOfSign_41 : decode cX2_rootsOfSign 41 = .ok (.iinc 3 1, 3) := by decide +kernel
theorem dX2_rootsOfSign_44 : decode cX2_rootsOfSign 44 = .ok (.goto (-40), 3) := by decide +kernel
theorem dX2_rootsOfSign_47 : decode cX2_rootsOfSign 47 = .ok (.iload_n 2, 1) := by decide +kernel
theorem dX2_rootsOfSign_48 : decode cX2_rootsOfSign 48 = .ok (.ireturn, 1) := by decide +kernel
theorem dX2_errorPlace_0 : decode cX2_errorPlace 0 = .ok (.iconst 0, 1) := by decide +kernel
theorem dX2_errorPlace_1 : decode cX2_errorPlace 1 = .ok (.istore_n 1, 1) := by decide +kernel
theorem dX2_errorPlace_2 : decode cX2_errorPlace 2 = .ok (.iload_n 1, 1) := by decide +kernel
theorem dX2_errorPlace_3 : decode cX2_errorPlace 3 = .ok (.aload_n 0, 1) := by decide +kernel
theorem dX2_errorPlace_4 : decode cX2_errorPlace 4 = .ok (.getfield 35, 3) := by decide +kernel
theorem dX2_errorPlace_7 : decode cX2_errorPlace 7 = .ok (.if_icmp .ge 50, 3) := by decide +kernel
theorem dX2_errorPlace_10 : decode cX2_errorPlace 10 = .ok (.iload_n 1, 1) := by decide +kernel
theorem dX2_errorPlace_11 : decode cX2_errorPlace 11 = .ok (.bipush 60, 2) := by decide +kernel
theorem dX2_errorPlace_13 : decode cX2_errorPlace 13 = .ok (.if_icmp .ge 44, 3) := by decide +kernel
theorem dX2_errorPlace_16 : decode cX2_errorPlace 16 = .ok (.iload_n 1, 1) := by decide +kernel
theorem dX2_errorPlace_17 : decode cX2_errorPlace 17 = .ok (.bipush 9, 2) := by decide +kernel
theorem dX2_errorPlace_19 : decode cX2_errorPlace 19 = .ok (.if_icmp .ge 30, 3) := by decide +kernel
theorem dX2_errorPlace_22 : decode cX2_errorPlace 22 = .ok (.aload_n 0, 1) := by decide +kernel
theorem dX2_errorPlace_23 : decode cX2_errorPlace 23 = .ok (.getfield 31, 3) := by decide +kernel
theorem dX2_errorPlace_26 : decode cX2_errorPlace 26 = .ok (.iload_n 1, 1) := by decide +kernel
theorem dX2_errorPlace_27 : decode cX2_errorPlace 27 = .ok (.iaload, 1) := by decide +kernel
theorem dX2_errorPlace_28 : decode cX2_errorPlace 28 = .ok (.invokestatic 270, 3) := by decide +kernel
theorem dX2_errorPlace_31 : decode cX2_errorPlace 31 = .ok (.ifCond .eq 18, 3) := by decide +kernel
theorem dX2_errorPlace_34 : decode cX2_errorPlace 34 = .ok (.iload_n 1, 1) := by decide +kernel
theorem dX2_errorPlace_35 : decode cX2_errorPlace 35 = .ok (.ifCond .ne 16, 3) := by decide +kernel
theorem dX2_errorPlace_38 : decode cX2_errorPlace 38 = .ok (.aload_n 0, 1) := by decide +kernel
theorem dX2_errorPlace_39 : decode cX2_errorPlace 39 = .ok (.getfield 31, 3) := by decide +kernel
theorem dX2_errorPlace_42 : decode cX2_errorPlace 42 = .ok (.iload_n 1, 1) := by decide +kernel
theorem dX2_errorPlace_43 : decode cX2_errorPlace 43 = .ok (.iaload, 1) := by decide +kernel
theorem dX2_errorPlace_44 : decode cX2_errorPlace 44 = .ok (.bipush 48, 2) := by decide +kernel
theorem dX2_errorPlace_46 : decode cX2_errorPlace 46 = .ok (.if_icmp .ne 5, 3) := by decide +kernel
theorem dX2_errorPlace_49 : decode cX2_errorPlace 49 = .ok (.iload_n 1, 1) := by decide +kernel
theorem dX2_errorPlace_50 : decode cX2_errorPlace 50 = .ok (.ireturn, 1) := by decide +kernel
theorem dX2_errorPlace_51 : decode cX2_errorPlace 51 = .ok (.iinc 1 1, 3) := by decide +kernel
theorem dX2_errorPlace_54 : decode cX2_errorPlace 54 = .ok (.goto (-52), 3) := by decide +kernel
theorem dX2_errorPlace_57 : decode cX2_errorPlace 57 = .ok (.aload_n 0, 1) := by decide +kernel
theorem dX2_errorPlace_58 : decode cX2_errorPlace 58 = .ok (.getfield 35, 3) := by decide +kernel
theorem dX2_errorPlace_61 : decode cX2_errorPlace 61 = .ok (.ireturn, 1) := by decide +kernel
theorem dX2_isSignCode_0 : decode cX2_isSignCode 0 = .ok (.iload_n 0, 1) := by decide +kernel
theorem dX2_isSignCode_1 : decode cX2_isSignCode 1 = .ok (.bipush 43, 2) := by decide +kernel
theorem dX2_isSignCode_3 : decode cX2_isSignCode 3 = .ok (.if_icmp .eq 15, 3) := by decide +kernel
theorem dX2_isSignCode_6 : decode cX2_isSignCode 6 = .ok (.iload_n 0, 1) := by decide +kernel
theorem dX2_isSignCode_7 : decode cX2_isSignCode 7 = .ok (.bipush 45, 2) := by decide +kernel
theorem dX2_isSignCode_9 : decode cX2_isSignCode 9 = .ok (.if_icmp .eq 9, 3) := by decide +kernel
theorem dX2_isSignCode_12 : decode cX2_isSignCode 12 = .ok (.iload_n 0, 1) := by decide +kernel
theorem dX2_isSignCode_13 : decode cX2_isSignCode 13 = .ok (.bipush 48, 2) := by decide +kernel
theorem dX2_isSignCode_15 : decode cX2_isSignCode 15 = .ok (.if_icmp .ne 7, 3) := by decide +kernel
theorem dX2_isSignCode_18 : decode cX2_isSignCode 18 = .ok (.iconst 1, 1) := by decide +kernel
theorem dX2_isSignCode_19 : decode cX2_isSignCode 19 = .ok (.goto 4, 3) := by decide +kernel
theorem dX2_isSignCode_22 : decode cX2_isSignCode 22 = .ok (.iconst 0, 1) := by decide +kernel
theorem dX2_isSignCode_23 : decode cX2_isSignCode 23 = .ok (.ireturn, 1) := by decide +kernel
theorem dX2_signOfCode_0 : decode cX2_signOfCode 0 = .ok (.iload_n 0, 1) := by decide +kernel
theorem dX2_signOfCode_1 : decode cX2_signOfCode 1 = .ok (.bipush 43, 2) := by decide +kernel
theorem dX2_signOfCode_3 : decode cX2_signOfCode 3 = .ok (.if_icmp .ne 7, 3) := by decide +kernel
theorem dX2_signOfCode_6 : decode cX2_signOfCode 6 = .ok (.iconst 1, 1) := by decide +kernel
theorem dX2_signOfCode_7 : decode cX2_signOfCode 7 = .ok (.goto 14, 3) := by decide +kernel
theorem dX2_signOfCode_10 : decode cX2_signOfCode 10 = .ok (.iload_n 0, 1) := by decide +kernel
theorem dX2_signOfCode_11 : decode cX2_signOfCode 11 = .ok (.bipush 45, 2) := by decide +kernel
theorem dX2_signOfCode_13 : decode cX2_signOfCode 13 = .ok (.if_icmp .ne 7, 3) := by decide +kernel
theorem dX2_signOfCode_16 : decode cX2_signOfCode 16 = .ok (.iconst (-1), 1) := by decide +kernel
theorem dX2_signOfCode_17 : decode cX2_signOfCode 17 = .ok (.goto 4, 3) := by decide +kernel
theorem dX2_signOfCode_20 : decode cX2_signOfCode 20 = .ok (.iconst 0, 1) := by decide +kernel
theorem dX2_signOfCode_21 : decode cX2_signOfCode 21 = .ok (.ireturn, 1) := by decide +kernel
theorem dX2_degreesTogether_0 : decode cX2_degreesTogether 0 = .ok (.iconst 0, 1) := by decide +kernel
theorem dX2_degreesTogether_1 : decode cX2_degreesTogether 1 = .ok (.istore_n 1, 1) := by decide +kernel
theorem dX2_degreesTogether_2 : decode cX2_degreesTogether 2 = .ok (.iconst 0, 1) := by decide +kernel
theorem dX2_degreesTogether_3 : decode cX2_degreesTogether 3 = .ok (.istore_n 2, 1) := by decide +kernel
theorem dX2_degreesTogether_4 : decode cX2_degreesTogether 4 = .ok (.iload_n 2, 1) := by decide +kernel
theorem dX2_degreesTogether_5 : decode cX2_degreesTogether 5 = .ok (.iconst 5, 1) := by decide +kernel
theorem dX2_degreesTogether_6 : decode cX2_degreesTogether 6 = .ok (.if_icmp .ge 24, 3) := by decide +kernel
theorem dX2_degreesTogether_9 : decode cX2_degreesTogether 9 = .ok (.iload_n 1, 1) := by decide +kernel
theorem dX2_degreesTogether_10 : decode cX2_degreesTogether 10 = .ok (.aload_n 0, 1) := by decide +kernel
theorem dX2_degreesTogether_11 : decode cX2_degreesTogether 11 = .ok (.getfield 12, 3) := by decide +kernel
theorem dX2_degreesTogether_14 : decode cX2_degreesTogether 14 = .ok (.getfield 62, 3) := by decide +kernel
theorem dX2_degreesTogether_17 : decode cX2_degreesTogether 17 = .ok (.iload_n 2, 1) := by decide +kernel
theorem dX2_degreesTogether_18 : decode cX2_degreesTogether 18 = .ok (.aaload, 1) := by decide +kernel
theorem dX2_degreesTogether_19 : decode cX2_degreesTogether 19 = .ok (.invokestatic 73, 3) := by decide +kernel
theorem dX2_degreesTogether_22 : decode cX2_degreesTogether 22 = .ok (.iadd, 1) := by decide +kernel
theorem dX2_degreesTogether_23 : decode cX2_degreesTogether 23 = .ok (.istore_n 1, 1) := by decide +kernel
theorem dX2_degreesTogether_24 : decode cX2_degreesTogether 24 = .ok (.iinc 2 1, 3) := by decide +kernel
theorem dX2_degreesTogether_27 : decode cX2_degreesTogether 27 = .ok (.goto (-23), 3) := by decide +kernel
theorem dX2_degreesTogether_30 : decode cX2_degreesTogether 30 = .ok (.iload_n 1, 1) := by decide +kernel
theorem dX2_degreesTogether_31 : decode cX2_degreesTogether 31 = .ok (.ireturn, 1) := by decide +kernel
theorem dX2_withRootOne_0 : decode cX2_withRootOne 0 = .ok (.iconst 0, 1) := by decide +kernel
theorem dX2_withRootOne_1 : decode cX2_withRootOne 1 = .ok (.istore_n 1, 1) := by decide +kernel
theorem dX2_withRootOne_2 : decode cX2_withRootOne 2 = .ok (.iconst 0, 1) := by decide +kernel
theorem dX2_withRootOne_3 : decode cX2_withRootOne 3 = .ok (.istore_n 2, 1) := by decide +kernel
theorem dX2_withRootOne_4 : decode cX2_withRootOne 4 = .ok (.iload_n 2, 1) := by decide +kernel
theorem dX2_withRootOne_5 : decode cX2_withRootOne 5 = .ok (.iconst 5, 1) := by decide +kernel
theorem dX2_withRootOne_6 : decode cX2_withRootOne 6 = .ok (.if_icmp .ge 28, 3) := by decide +kernel
theorem dX2_withRootOne_9 : decode cX2_withRootOne 9 = .ok (.aload_n 0, 1) := by decide +kernel
theorem dX2_withRootOne_10 : decode cX2_withRootOne 10 = .ok (.getfield 12, 3) := by decide +kernel
theorem dX2_withRootOne_13 : decode cX2_withRootOne 13 = .ok (.getfield 62, 3) := by decide +kernel
theorem dX2_withRootOne_16 : decode cX2_withRootOne 16 = .ok (.iload_n 2, 1) := by decide +kernel
theorem dX2_withRootOne_17 : decode cX2_withRootOne 17 = .ok (.aaload, 1) := by decide +kernel
theorem dX2_withRootOne_18 : decode cX2_withRootOne 18 = .ok (.iconst 1, 1) := by decide +kernel
theorem dX2_withRootOne_19 : decode cX2_withRootOne 19 = .ok (.invokestatic 158, 3) := by decide +kernel
theorem dX2_withRootOne_22 : decode cX2_withRootOne 22 = .ok (.ifCond .eq 6, 3) := by decide +kernel
theorem dX2_withRootOne_25 : decode cX2_withRootOne 25 = .ok (.iinc 1 1, 3) := by decide +kernel
theorem dX2_withRootOne_28 : decode cX2_withRootOne 28 = .ok (.iinc 2 1, 3) := by decide +kernel
theorem dX2_withRootOne_31 : decode cX2_withRootOne 31 = .ok (.goto (-27), 3) := by decide +kernel
theorem dX2_withRootOne_34 : decode cX2_withRootOne 34 = .ok (.iload_n 1, 1) := by decide +kernel
theorem dX2_withRootOne_35 : decode cX2_withRootOne 35 = .ok (.ireturn, 1) := by decide +kernel
theorem dX2_mixed_0 : decode cX2_mixed 0 = .ok (.ldc2_w 274, 3) := by decide +kernel
theorem dX2_mixed_3 : decode cX2_mixed 3 = .ok (.lload_n 0, 1) := by decide +kernel
theorem dX2_mixed_4 : decode cX2_mixed 4 = .ok (.lmul, 1) := by decide +kernel
theorem dX2_mixed_5 : decode cX2_mixed 5 = .ok (.lload_n 2, 1) := by decide +kernel
theorem dX2_mixed_6 : decode cX2_mixed 6 = .ok (.ladd, 1) := by decide +kernel
theorem dX2_mixed_7 : decode cX2_mixed 7 = .ok (.lreturn, 1) := by decide +kernel
theorem dX2_mixedPolynomial_0 : decode cX2_mixedPolynomial 0 = .ok (.lload_n 1, 1) := by decide +kernel
theorem dX2_mixedPolynomial_1 : decode cX2_mixedPolynomial 1 = .ok (.aload_n 3, 1) := by decide +kernel
theorem dX2_mixedPolynomial_2 : decode cX2_mixedPolynomial 2 = .ok (.invokestatic 73, 3) := by decide +kernel
theorem dX2_mixedPolynomial_5 : decode cX2_mixedPolynomial 5 = .ok (.i2l, 1) := by decide +kernel
theorem dX2_mixedPolynomial_6 : decode cX2_mixedPolynomial 6 = .ok (.invokestatic 193, 3) := by decide +kernel
theorem dX2_mixedPolynomial_9 : decode cX2_mixedPolynomial 9 = .ok (.lstore 4, 2) := by decide +kernel
theorem dX2_mixedPolynomial_11 : decode cX2_mixedPolynomial 11 = .ok (.lload 4, 2) := by decide +kernel
theorem dX2_mixedPolynomial_13 : decode cX2_mixedPolynomial 13 = .ok (.aload_n 3, 1) := by decide +kernel
theorem dX2_mixedPolynomial_14 : decode cX2_mixedPolynomial 14 = .ok (.invokestatic 148, 3) := by decide +kernel
theorem dX2_mixedPolynomial_17 : decode cX2_mixedPolynomial 17 = .ok (.i2l, 1) := by decide +kernel
theorem dX2_mixedPolynomial_18 : decode cX2_mixedPolynomial 18 = .ok (.invokestatic 193, 3) := by decide +kernel
theorem dX2_mixedPolynomial_21 : decode cX2_mixedPolynomial 21 = .ok (.lstore 4, 2) := by decide +kernel
theorem dX2_mixedPolynomial_23 : decode cX2_mixedPolynomial 23 = .ok (.lload 4, 2) := by decide +kernel
theorem dX2_mixedPolynomial_25 : decode cX2_mixedPolynomial 25 = .ok (.aload_n 3, 1) := by decide +kernel
theorem dX2_mixedPolynomial_26 : decode cX2_mixedPolynomial 26 = .ok (.iconst 1, 1) := by decide +kernel
theorem dX2_mixedPolynomial_27 : decode cX2_mixedPolynomial 27 = .ok (.invokestatic 151, 3) := by decide +kernel
theorem dX2_mixedPolynomial_30 : decode cX2_mixedPolynomial 30 = .ok (.i2l, 1) := by decide +kernel
theorem dX2_mixedPolynomial_31 : decode cX2_mixedPolynomial 31 = .ok (.invokestatic 193, 3) := by decide +kernel
theorem dX2_mixedPolynomial_34 : decode cX2_mixedPolynomial 34 = .ok (.lstore 4, 2) := by decide +kernel
theorem dX2_mixedPolynomial_36 : decode cX2_mixedPolynomial 36 = .ok (.lload 4, 2) := by decide +kernel
theorem dX2_mixedPolynomial_38 : decode cX2_mixedPolynomial 38 = .ok (.aload_n 3, 1) := by decide +kernel
theorem dX2_mixedPolynomial_39 : decode cX2_mixedPolynomial 39 = .ok (.invokestatic 155, 3) := by decide +kernel
theorem dX2_mixedPolynomial_42 : decode cX2_mixedPolynomial 42 = .ok (.i2l, 1) := by decide +kernel
theorem dX2_mixedPolynomial_43 : decode cX2_mixedPolynomial 43 = .ok (.invokestatic 193, 3) := by decide +kernel
theorem dX2_mixedPolynomial_46 : decode cX2_mixedPolynomial 46 = .ok (.lstore 4, 2) := by decide +kernel
theorem dX2_mixedPolynomial_48 : decode cX2_mixedPolynomial 48 = .ok (.iconst 0, 1) := by decide +kernel
theorem dX2_mixedPolynomial_49 : decode cX2_mixedPolynomial 49 = .ok (.istore 6, 2) := by decide +kernel
theorem dX2_mixedPolynomial_51 : decode cX2_mixedPolynomial 51 = .ok (.iload 6, 2) := by decide +kernel
theorem dX2_mixedPolynomial_53 : decode cX2_mixedPolynomial 53 = .ok (.bipush 9, 2) := by decide +kernel
theorem dX2_mixedPolynomial_55 : decode cX2_mixedPolynomial 55 = .ok (.if_icmp .ge 21, 3) := by decide +kernel
theorem dX2_mixedPolynomial_58 : decode cX2_mixedPolynomial 58 = .ok (.lload 4, 2) := by decide +kernel
theorem dX2_mixedPolynomial_60 : decode cX2_mixedPolynomial 60 = .ok (.aload_n 3, 1) := by decide +kernel
theorem dX2_mixedPolynomial_61 : decode cX2_mixedPolynomial 61 = .ok (.iload 6, 2) := by decide +kernel
theorem dX2_mixedPolynomial_63 : decode cX2_mixedPolynomial 63 = .ok (.iaload, 1) := by decide +kernel
theorem dX2_mixedPolynomial_64 : decode cX2_mixedPolynomial 64 = .ok (.i2l, 1) := by decide +kernel
theorem dX2_mixedPolynomial_65 : decode cX2_mixedPolynomial 65 = .ok (.invokestatic 193, 3) := by decide +kernel
theorem dX2_mixedPolynomial_68 : decode cX2_mixedPolynomial 68 = .ok (.lstore 4, 2) := by decide +kernel
theorem dX2_mixedPolynomial_70 : decode cX2_mixedPolynomial 70 = .ok (.iinc 6 1, 3) := by decide +kernel
theorem dX2_mixedPolynomial_73 : decode cX2_mixedPolynomial 73 = .ok (.goto (-22), 3) := by decide +kernel
theorem dX2_mixedPolynomial_76 : decode cX2_mixedPolynomial 76 = .ok (.iconst (-1), 1) := by decide +kernel
theorem dX2_mixedPolynomial_77 : decode cX2_mixedPolynomial 77 = .ok (.istore 6, 2) := by decide +kernel
theorem dX2_mixedPolynomial_79 : decode cX2_mixedPolynomial 79 = .ok (.iload 6, 2) := by decide +kernel
theorem dX2_mixedPolynomial_81 : decode cX2_mixedPolynomial 81 = .ok (.iconst 1, 1) := by decide +kernel
theorem dX2_mixedPolynomial_82 : decode cX2_mixedPolynomial 82 = .ok (.if_icmp .gt 100, 3) := by decide +kernel
theorem dX2_mixedPolynomial_85 : decode cX2_mixedPolynomial 85 = .ok (.aload_n 3, 1) := by decide +kernel
theorem dX2_mixedPolynomial_86 : decode cX2_mixedPolynomial 86 = .ok (.iload 6, 2) := by decide +kernel
theorem dX2_mixedPolynomial_88 : decode cX2_mixedPolynomial 88 = .ok (.aload_n 0, 1) := by decide +kernel
theorem dX2_mixedPolynomial_89 : decode cX2_mixedPolynomial 89 = .ok (.getfield 44, 3) := by decide +kernel
theorem dX2_mixedPolynomial_92 : decode cX2_mixedPolynomial 92 = .ok (.iconst 0, 1) := by decide +kernel
theorem dX2_mixedPolynomial_93 : decode cX2_mixedPolynomial 93 = .ok (.invokestatic 83, 3) := by decide +kernel
theorem dX2_mixedPolynomial_96 : decode cX2_mixedPolynomial 96 = .ok (.istore 7, 2) := by decide +kernel
theorem dX2_mixedPolynomial_98 : decode cX2_mixedPolynomial 98 = .ok (.aload_n 0, 1) := by decide +kernel
theorem dX2_mixedPolynomial_99 : decode cX2_mixedPolynomial 99 = .ok (.iload 7, 2) := by decide +kernel
theorem dX2_mixedPolynomial_101 : decode cX2_mixedPolynomial 101 = .ok (.invokevirtual 167, 3) := by decide +kernel
theorem dX2_mixedPolynomial_104 : decode cX2_mixedPolynomial 104 = .ok (.istore 8, 2) := by decide +kernel
theorem dX2_mixedPolynomial_106 : decode cX2_mixedPolynomial 106 = .ok (.lload 4, 2) := by decide +kernel
theorem dX2_mixedPolynomial_108 : decode cX2_mixedPolynomial 108 = .ok (.aload_n 3, 1) := by decide +kernel
theorem dX2_mixedPolynomial_109 : decode cX2_mixedPolynomial 109 = .ok (.iload 6, 2) := by decide +kernel
theorem dX2_mixedPolynomial_111 : decode cX2_mixedPolynomial 111 = .ok (.invokestatic 158, 3) := by decide +kernel
theorem dX2_mixedPolynomial_114 : decode cX2_mixedPolynomial 114 = .ok (.ifCond .eq 7, 3) := by decide +kernel
theorem dX2_mixedPolynomial_117 : decode cX2_mixedPolynomial 117 = .ok (.lconst 1, 1) := by decide +kernel
theorem dX2_mixedPolynomial_118 : decode cX2_mixedPolynomial 118 = .ok (.goto 4, 3) := by decide +kernel
theorem dX2_mixedPolynomial_121 : decode cX2_mixedPolynomial 121 = .ok (.lconst 0, 1) := by decide +kernel
theorem dX2_mixedPolynomial_122 : decode cX2_mixedPolynomial 122 = .ok (.invokestatic 193, 3) := by decide +kernel
theorem dX2_mixedPolynomial_125 : decode cX2_mixedPolynomial 125 = .ok (.lstore 4, 2) := by decide +kernel
theorem dX2_mixedPolynomial_127 : decode cX2_mixedPolynomial 127 = .ok (.lload 4, 2) := by decide +kernel
theorem dX2_mixedPolynomial_129 : decode cX2_mixedPolynomial 129 = .ok (.iload 7, 2) := by decide +kernel
theorem dX2_mixedPolynomial_131 : decode cX2_mixedPolynomial 131 = .ok (.i2l, 1) := by decide +kernel
theorem dX2_mixedPolynomial_132 : decode cX2_mixedPolynomial 132 = .ok (.invokestatic 193, 3) := by decide +kernel
theorem dX2_mixedPolynomial_135 : decode cX2_mixedPolynomial 135 = .ok (.lstore 4, 2) := by decide +kernel
theorem dX2_mixedPolynomial_137 : decode cX2_mixedPolynomial 137 = .ok (.lload 4, 2) := by decide +kernel
theorem dX2_mixedPolynomial_139 : decode cX2_mixedPolynomial 139 = .ok (.aload_n 3, 1) := by decide +kernel
theorem dX2_mixedPolynomial_140 : decode cX2_mixedPolynomial 140 = .ok (.iload 6, 2) := by decide +kernel
theorem dX2_mixedPolynomial_142 : decode cX2_mixedPolynomial 142 = .ok (.invokestatic 161, 3) := by decide +kernel
theorem dX2_mixedPolynomial_145 : decode cX2_mixedPolynomial 145 = .ok (.i2l, 1) := by decide +kernel
theorem dX2_mixedPolynomial_146 : decode cX2_mixedPolynomial 146 = .ok (.invokestatic 193, 3) := by decide +kernel
theorem dX2_mixedPolynomial_149 : decode cX2_mixedPolynomial 149 = .ok (.lstore 4, 2) := by decide +kernel
theorem dX2_mixedPolynomial_151 : decode cX2_mixedPolynomial 151 = .ok (.lload 4, 2) := by decide +kernel
theorem dX2_mixedPolynomial_153 : decode cX2_mixedPolynomial 153 = .ok (.aload_n 0, 1) := by decide +kernel
theorem dX2_mixedPolynomial_154 : decode cX2_mixedPolynomial 154 = .ok (.aload_n 3, 1) := by decide +kernel
theorem dX2_mixedPolynomial_155 : decode cX2_mixedPolynomial 155 = .ok (.iload 6, 2) := by decide +kernel
theorem dX2_mixedPolynomial_157 : decode cX2_mixedPolynomial 157 = .ok (.invokevirtual 164, 3) := by decide +kernel
theorem dX2_mixedPolynomial_160 : decode cX2_mixedPolynomial 160 = .ok (.i2l, 1) := by decide +kernel
theorem dX2_mixedPolynomial_161 : decode cX2_mixedPolynomial 161 = .ok (.invokestatic 193, 3) := by decide +kernel
theorem dX2_mixedPolynomial_164 : decode cX2_mixedPolynomial 164 = .ok (.lstore 4, 2) := by decide +kernel
theorem dX2_mixedPolynomial_166 : decode cX2_mixedPolynomial 166 = .ok (.lload 4, 2) := by decide +kernel
theorem dX2_mixedPolynomial_168 : decode cX2_mixedPolynomial 168 = .ok (.iload 8, 2) := by decide +kernel
theorem dX2_mixedPolynomial_170 : decode cX2_mixedPolynomial 170 = .ok (.i2l, 1) := by decide +kernel
theorem dX2_mixedPolynomial_171 : decode cX2_mixedPolynomial 171 = .ok (.invokestatic 193, 3) := by decide +kernel
theorem dX2_mixedPolynomial_174 : decode cX2_mixedPolynomial 174 = .ok (.lstore 4, 2) := by decide +kernel
theorem dX2_mixedPolynomial_176 : decode cX2_mixedPolynomial 176 = .ok (.iinc 6 1, 3) := by decide +kernel
theorem dX2_mixedPolynomial_179 : decode cX2_mixedPolynomial 179 = .ok (.goto (-100), 3) := by decide +kernel
theorem dX2_mixedPolynomial_182 : decode cX2_mixedPolynomial 182 = .ok (.lload 4, 2) := by decide +kernel
theorem dX2_mixedPolynomial_184 : decode cX2_mixedPolynomial 184 = .ok (.aload_n 3, 1) := by decide +kernel
theorem dX2_mixedPolynomial_185 : decode cX2_mixedPolynomial 185 = .ok (.invokestatic 184, 3) := by decide +kernel
theorem dX2_mixedPolynomial_188 : decode cX2_mixedPolynomial 188 = .ok (.invokestatic 276, 3) := by decide +kernel
theorem dX2_mixedPolynomial_191 : decode cX2_mixedPolynomial 191 = .ok (.invokestatic 193, 3) := by decide +kernel
theorem dX2_mixedPolynomial_194 : decode cX2_mixedPolynomial 194 = .ok (.lreturn, 1) := by decide +kernel
theorem dX2_mixedPairs_0 : decode cX2_mixedPairs 0 = .ok (.lload_n 1, 1) := by decide +kernel
theorem dX2_mixedPairs_1 : decode cX2_mixedPairs 1 = .ok (.lstore_n 3, 1) := by decide +kernel
theorem dX2_mixedPairs_2 : decode cX2_mixedPairs 2 = .ok (.iconst 0, 1) := by decide +kernel
theorem dX2_mixedPairs_3 : decode cX2_mixedPairs 3 = .ok (.istore 5, 2) := by decide +kernel
theorem dX2_mixedPairs_5 : decode cX2_mixedPairs 5 = .ok (.iload 5, 2) := by decide +kernel
theorem dX2_mixedPairs_7 : decode cX2_mixedPairs 7 = .ok (.iconst 5, 1) := by decide +kernel
theorem dX2_mixedPairs_8 : decode cX2_mixedPairs 8 = .ok (.if_icmp .ge 84, 3) := by decide +kernel
theorem dX2_mixedPairs_11 : decode cX2_mixedPairs 11 = .ok (.iconst 0, 1) := by decide +kernel
theorem dX2_mixedPairs_12 : decode cX2_mixedPairs 12 = .ok (.istore 6, 2) := by decide +kernel
theorem dX2_mixedPairs_14 : decode cX2_mixedPairs 14 = .ok (.iload 6, 2) := by decide +kernel
theorem dX2_mixedPairs_16 : decode cX2_mixedPairs 16 = .ok (.iconst 5, 1) := by decide +kernel
theorem dX2_mixedPairs_17 : decode cX2_mixedPairs 17 = .ok (.if_icmp .ge 69, 3) := by decide +kernel
theorem dX2_mixedPairs_20 : decode cX2_mixedPairs 20 = .ok (.lload_n 3, 1) := by decide +kernel
theorem dX2_mixedPairs_21 : decode cX2_mixedPairs 21 = .ok (.aload_n 0, 1) := by decide +kernel
theorem dX2_mixedPairs_22 : decode cX2_mixedPairs 22 = .ok (.getfield 12, 3) := by decide +kernel
theorem dX2_mixedPairs_25 : decode cX2_mixedPairs 25 = .ok (.getfield 62, 3) := by decide +kernel
theorem dX2_mixedPairs_28 : decode cX2_mixedPairs 28 = .ok (.iload 5, 2) := by decide +kernel
theorem dX2_mixedPairs_30 : decode cX2_mixedPairs 30 = .ok (.aaload, 1) := by decide +kernel
theorem dX2_mixedPairs_31 : decode cX2_mixedPairs 31 = .ok (.aload_n 0, 1) := by decide +kernel
theorem dX2_mixedPairs_32 : decode cX2_mixedPairs 32 = .ok (.getfield 12, 3) := by decide +kernel
theorem dX2_mixedPairs_35 : decode cX2_mixedPairs 35 = .ok (.getfield 62, 3) := by decide +kernel
theorem dX2_mixedPairs_38 : decode cX2_mixedPairs 38 = .ok (.iload 6, 2) := by decide +kernel
theorem dX2_mixedPairs_40 : decode cX2_mixedPairs 40 = .ok (.aaload, 1) := by decide +kernel
theorem dX2_mixedPairs_41 : decode cX2_mixedPairs 41 = .ok (.iconst 0, 1) := by decide +kernel
theorem dX2_mixedPairs_42 : decode cX2_mixedPairs 42 = .ok (.invokestatic 170, 3) := by decide +kernel
theorem dX2_mixedPairs_45 : decode cX2_mixedPairs 45 = .ok (.i2l, 1) := by decide +kernel
theorem dX2_mixedPairs_46 : decode cX2_mixedPairs 46 = .ok (.invokestatic 193, 3) := by decide +kernel
theorem dX2_mixedPairs_49 : decode cX2_mixedPairs 49 = .ok (.lstore_n 3, 1) := by decide +kernel
theorem dX2_mixedPairs_50 : decode cX2_mixedPairs 50 = .ok (.lload_n 3, 1) := by decide +kernel
theorem dX2_mixedPairs_51 : decode cX2_mixedPairs 51 = .ok (.aload_n 0, 1) := by decide +kernel
theorem dX2_mixedPairs_52 : decode cX2_mixedPairs 52 = .ok (.getfield 12, 3) := by decide +kernel
theorem dX2_mixedPairs_55 : decode cX2_mixedPairs 55 = .ok (.getfield 62, 3) := by decide +kernel
theorem dX2_mixedPairs_58 : decode cX2_mixedPairs 58 = .ok (.iload 5, 2) := by decide +kernel
theorem dX2_mixedPairs_60 : decode cX2_mixedPairs 60 = .ok (.aaload, 1) := by decide +kernel
theorem dX2_mixedPairs_61 : decode cX2_mixedPairs 61 = .ok (.aload_n 0, 1) := by decide +kernel
theorem dX2_mixedPairs_62 : decode cX2_mixedPairs 62 = .ok (.getfield 12, 3) := by decide +kernel
theorem dX2_mixedPairs_65 : decode cX2_mixedPairs 65 = .ok (.getfield 62, 3) := by decide +kernel
theorem dX2_mixedPairs_68 : decode cX2_mixedPairs 68 = .ok (.iload 6, 2) := by decide +kernel
theorem dX2_mixedPairs_70 : decode cX2_mixedPairs 70 = .ok (.aaload, 1) := by decide +kernel
theorem dX2_mixedPairs_71 : decode cX2_mixedPairs 71 = .ok (.iconst 1, 1) := by decide +kernel
theorem dX2_mixedPairs_72 : decode cX2_mixedPairs 72 = .ok (.invokestatic 170, 3) := by decide +kernel
theorem dX2_mixedPairs_75 : decode cX2_mixedPairs 75 = .ok (.i2l, 1) := by decide +kernel
theorem dX2_mixedPairs_76 : decode cX2_mixedPairs 76 = .ok (.invokestatic 193, 3) := by decide +kernel
theorem dX2_mixedPairs_79 : decode cX2_mixedPairs 79 = .ok (.lstore_n 3, 1) := by decide +kernel
theorem dX2_mixedPairs_80 : decode cX2_mixedPairs 80 = .ok (.iinc 6 1, 3) := by decide +kernel
theorem dX2_mixedPairs_83 : decode cX2_mixedPairs 83 = .ok (.goto (-69), 3) := by decide +kernel
theorem dX2_mixedPairs_86 : decode cX2_mixedPairs 86 = .ok (.iinc 5 1, 3) := by decide +kernel
theorem dX2_mixedPairs_89 : decode cX2_mixedPairs 89 = .ok (.goto (-84), 3) := by decide +kernel
theorem dX2_mixedPairs_92 : decode cX2_mixedPairs 92 = .ok (.lload_n 3, 1) := by decide +kernel
theorem dX2_mixedPairs_93 : decode cX2_mixedPairs 93 = .ok (.lreturn, 1) := by decide +kernel
theorem dX2_mixedWhole_0 : decode cX2_mixedWhole 0 = .ok (.lload_n 1, 1) := by decide +kernel
theorem dX2_mixedWhole_1 : decode cX2_mixedWhole 1 = .ok (.lstore_n 3, 1) := by decide +kernel
theorem dX2_mixedWhole_2 : decode cX2_mixedWhole 2 = .ok (.aload_n 0, 1) := by decide +kernel
theorem dX2_mixedWhole_3 : decode cX2_mixedWhole 3 = .ok (.invokevirtual 106, 3) := by decide +kernel
theorem dX2_mixedWhole_6 : decode cX2_mixedWhole 6 = .ok (.iconst 0, 1) := by decide +kernel
theorem dX2_mixedWhole_7 : decode cX2_mixedWhole 7 = .ok (.istore 5, 2) := by decide +kernel
theorem dX2_mixedWhole_9 : decode cX2_mixedWhole 9 = .ok (.iload 5, 2) := by decide +kernel
theorem dX2_mixedWhole_11 : decode cX2_mixedWhole 11 = .ok (.bipush 9, 2) := by decide +kernel
theorem dX2_mixedWhole_13 : decode cX2_mixedWhole 13 = .ok (.if_icmp .ge 21, 3) := by decide +kernel
theorem dX2_mixedWhole_16 : decode cX2_mixedWhole 16 = .ok (.lload_n 3, 1) := by decide +kernel
theorem dX2_mixedWhole_17 : decode cX2_mixedWhole 17 = .ok (.aload_n 0, 1) := by decide +kernel
theorem dX2_mixedWhole_18 : decode cX2_mixedWhole 18 = .ok (.getfield 38, 3) := by decide +kernel
theorem dX2_mixedWhole_21 : decode cX2_mixedWhole 21 = .ok (.iload 5, 2) := by decide +kernel
theorem dX2_mixedWhole_23 : decode cX2_mixedWhole 23 = .ok (.laload, 1) := by decide +kernel
theorem dX2_mixedWhole_24 : decode cX2_mixedWhole 24 = .ok (.invokestatic 193, 3) := by decide +kernel
theorem dX2_mixedWhole_27 : decode cX2_mixedWhole 27 = .ok (.lstore_n 3, 1) := by decide +kernel
theorem dX2_mixedWhole_28 : decode cX2_mixedWhole 28 = .ok (.iinc 5 1, 3) := by decide +kernel
theorem dX2_mixedWhole_31 : decode cX2_mixedWhole 31 = .ok (.goto (-22), 3) := by decide +kernel
theorem dX2_mixedWhole_34 : decode cX2_mixedWhole 34 = .ok (.iconst 0, 1) := by decide +kernel
theorem dX2_mixedWhole_35 : decode cX2_mixedWhole 35 = .ok (.istore 5, 2) := by decide +kernel
theorem dX2_mixedWhole_37 : decode cX2_mixedWhole 37 = .ok (.iload 5, 2) := by decide +kernel
theorem dX2_mixedWhole_39 : decode cX2_mixedWhole 39 = .ok (.aload_n 0, 1) := by decide +kernel
theorem dX2_mixedWhole_40 : decode cX2_mixedWhole 40 = .ok (.getfield 12, 3) := by decide +kernel
theorem dX2_mixedWhole_43 : decode cX2_mixedWhole 43 = .ok (.getfield 100, 3) := by decide +kernel
theorem dX2_mixedWhole_46 : decode cX2_mixedWhole 46 = .ok (.if_icmp .ge 32, 3) := by decide +kernel
theorem dX2_mixedWhole_49 : decode cX2_mixedWhole 49 = .ok (.iload 5, 2) := by decide +kernel
theorem dX2_mixedWhole_51 : decode cX2_mixedWhole 51 = .ok (.bipush 8, 2) := by decide +kernel
theorem dX2_mixedWhole_53 : decode cX2_mixedWhole 53 = .ok (.if_icmp .ge 25, 3) := by decide +kernel
theorem dX2_mixedWhole_56 : decode cX2_mixedWhole 56 = .ok (.lload_n 3, 1) := by decide +kernel
theorem dX2_mixedWhole_57 : decode cX2_mixedWhole 57 = .ok (.aload_n 0, 1) := by decide +kernel
theorem dX2_mixedWhole_58 : decode cX2_mixedWhole 58 = .ok (.getfield 12, 3) := by decide +kernel
theorem dX2_mixedWhole_61 : decode cX2_mixedWhole 61 = .ok (.getfield 103, 3) := by decide +kernel
theorem dX2_mixedWhole_64 : decode cX2_mixedWhole 64 = .ok (.iload 5, 2) := by decide +kernel
theorem dX2_mixedWhole_66 : decode cX2_mixedWhole 66 = .ok (.iaload, 1) := by decide +kernel
theorem dX2_mixedWhole_67 : decode cX2_mixedWhole 67 = .ok (.i2l, 1) := by decide +kernel
theorem dX2_mixedWhole_68 : decode cX2_mixedWhole 68 = .ok (.invokestatic 193, 3) := by decide +kernel
theorem dX2_mixedWhole_71 : decode cX2_mixedWhole 71 = .ok (.lstore_n 3, 1) := by decide +kernel
theorem dX2_mixedWhole_72 : decode cX2_mixedWhole 72 = .ok (.iinc 5 1, 3) := by decide +kernel
theorem dX2_mixedWhole_75 : decode cX2_mixedWhole 75 = .ok (.goto (-38), 3) := by decide +kernel
theorem dX2_mixedWhole_78 : decode cX2_mixedWhole 78 = .ok (.lload_n 3, 1) := by decide +kernel
theorem dX2_mixedWhole_79 : decode cX2_mixedWhole 79 = .ok (.lreturn, 1) := by decide +kernel
theorem dX2_mixedTexts_0 : decode cX2_mixedTexts 0 = .ok (.lload_n 1, 1) := by decide +kernel
theorem dX2_mixedTexts_1 : decode cX2_mixedTexts 1 = .ok (.lstore_n 3, 1) := by decide +kernel
theorem dX2_mixedTexts_2 : decode cX2_mixedTexts 2 = .ok (.iconst 0, 1) := by decide +kernel
theorem dX2_mixedTexts_3 : decode cX2_mixedTexts 3 = .ok (.istore 5, 2) := by decide +kernel
theorem dX2_mixedTexts_5 : decode cX2_mixedTexts 5 = .ok (.iload 5, 2) := by decide +kernel
theorem dX2_mixedTexts_7 : decode cX2_mixedTexts 7 = .ok (.iconst 2, 1) := by decide +kernel
theorem dX2_mixedTexts_8 : decode cX2_mixedTexts 8 = .ok (.if_icmp .ge 29, 3) := by decide +kernel
theorem dX2_mixedTexts_11 : decode cX2_mixedTexts 11 = .ok (.lload_n 3, 1) := by decide +kernel
theorem dX2_mixedTexts_12 : decode cX2_mixedTexts 12 = .ok (.aload_n 0, 1) := by decide +kernel
theorem dX2_mixedTexts_13 : decode cX2_mixedTexts 13 = .ok (.getfield 27, 3) := by decide +kernel
theorem dX2_mixedTexts_16 : decode cX2_mixedTexts 16 = .ok (.iload 5, 2) := by decide +kernel
theorem dX2_mixedTexts_18 : decode cX2_mixedTexts 18 = .ok (.baload, 1) := by decide +kernel
theorem dX2_mixedTexts_19 : decode cX2_mixedTexts 19 = .ok (.ifCond .eq 7, 3) := by decide +kernel
theorem dX2_mixedTexts_22 : decode cX2_mixedTexts 22 = .ok (.lconst 1, 1) := by decide +kernel
theorem dX2_mixedTexts_23 : decode cX2_mixedTexts 23 = .ok (.goto 4, 3) := by decide +kernel
theorem dX2_mixedTexts_26 : decode cX2_mixedTexts 26 = .ok (.lconst 0, 1) := by decide +kernel
theorem dX2_mixedTexts_27 : decode cX2_mixedTexts 27 = .ok (.invokestatic 193, 3) := by decide +kernel
theorem dX2_mixedTexts_30 : decode cX2_mixedTexts 30 = .ok (.lstore_n 3, 1) := by decide +kernel
theorem dX2_mixedTexts_31 : decode cX2_mixedTexts 31 = .ok (.iinc 5 1, 3) := by decide +kernel
theorem dX2_mixedTexts_34 : decode cX2_mixedTexts 34 = .ok (.goto (-29), 3) := by decide +kernel
theorem dX2_mixedTexts_37 : decode cX2_mixedTexts 37 = .ok (.lload_n 3, 1) := by decide +kernel
theorem dX2_mixedTexts_38 : decode cX2_mixedTexts 38 = .ok (.aload_n 0, 1) := by decide +kernel
theorem dX2_mixedTexts_39 : decode cX2_mixedTexts 39 = .ok (.getfield 35, 3) := by decide +kernel
theorem dX2_mixedTexts_42 : decode cX2_mixedTexts 42 = .ok (.i2l, 1) := by decide +kernel
theorem dX2_mixedTexts_43 : decode cX2_mixedTexts 43 = .ok (.invokestatic 193, 3) := by decide +kernel
theorem dX2_mixedTexts_46 : decode cX2_mixedTexts 46 = .ok (.lstore_n 3, 1) := by decide +kernel
theorem dX2_mixedTexts_47 : decode cX2_mixedTexts 47 = .ok (.iconst 0, 1) := by decide +kernel
theorem dX2_mixedTexts_48 : decode cX2_mixedTexts 48 = .ok (.istore 5, 2) := by decide +kernel
theorem dX2_mixedTexts_50 : decode cX2_mixedTexts 50 = .ok (.iload 5, 2) := by decide +kernel
theorem dX2_mixedTexts_52 : decode cX2_mixedTexts 52 = .ok (.aload_n 0, 1) := by decide +kernel
theorem dX2_mixedTexts_53 : decode cX2_mixedTexts 53 = .ok (.getfield 35, 3) := by decide +kernel
theorem dX2_mixedTexts_56 : decode cX2_mixedTexts 56 = .ok (.if_icmp .ge 29, 3) := by decide +kernel
theorem dX2_mixedTexts_59 : decode cX2_mixedTexts 59 = .ok (.iload 5, 2) := by decide +kernel
theorem dX2_mixedTexts_61 : decode cX2_mixedTexts 61 = .ok (.bipush 60, 2) := by decide +kernel
theorem dX2_mixedTexts_63 : decode cX2_mixedTexts 63 = .ok (.if_icmp .ge 22, 3) := by decide +kernel
theorem dX2_mixedTexts_66 : decode cX2_mixedTexts 66 = .ok (.lload_n 3, 1) := by decide +kernel
theorem dX2_mixedTexts_67 : decode cX2_mixedTexts 67 = .ok (.aload_n 0, 1) := by decide +kernel
theorem dX2_mixedTexts_68 : decode cX2_mixedTexts 68 = .ok (.getfield 31, 3) := by decide +kernel
theorem dX2_mixedTexts_71 : decode cX2_mixedTexts 71 = .ok (.iload 5, 2) := by decide +kernel
theorem dX2_mixedTexts_73 : decode cX2_mixedTexts 73 = .ok (.iaload, 1) := by decide +kernel
theorem dX2_mixedTexts_74 : decode cX2_mixedTexts 74 = .ok (.i2l, 1) := by decide +kernel
theorem dX2_mixedTexts_75 : decode cX2_mixedTexts 75 = .ok (.invokestatic 193, 3) := by decide +kernel
theorem dX2_mixedTexts_78 : decode cX2_mixedTexts 78 = .ok (.lstore_n 3, 1) := by decide +kernel
theorem dX2_mixedTexts_79 : decode cX2_mixedTexts 79 = .ok (.iinc 5 1, 3) := by decide +kernel
theorem dX2_mixedTexts_82 : decode cX2_mixedTexts 82 = .ok (.goto (-32), 3) := by decide +kernel
theorem dX2_mixedTexts_85 : decode cX2_mixedTexts 85 = .ok (.lload_n 3, 1) := by decide +kernel
theorem dX2_mixedTexts_86 : decode cX2_mixedTexts 86 = .ok (.lreturn, 1) := by decide +kernel
theorem dX2_bitsOf_0 : decode cX2_bitsOf 0 = .ok (.dload_n 0, 1) := by decide +kernel
theorem dX2_bitsOf_1 : decode cX2_bitsOf 1 = .ok (.dconst 0, 1) := by decide +kernel
theorem dX2_bitsOf_2 : decode cX2_bitsOf 2 = .ok (.dcmp .g, 1) := by decide +kernel
theorem dX2_bitsOf_3 : decode cX2_bitsOf 3 = .ok (.ifCond .gt 5, 3) := by decide +kernel
theorem dX2_bitsOf_6 : decode cX2_bitsOf 6 = .ok (.lconst 0, 1) := by decide +kernel
theorem dX2_bitsOf_7 : decode cX2_bitsOf 7 = .ok (.lreturn, 1) := by decide +kernel
theorem dX2_bitsOf_8 : decode cX2_bitsOf 8 = .ok (.dload_n 0, 1) := by decide +kernel
theorem dX2_bitsOf_9 : decode cX2_bitsOf 9 = .ok (.dstore_n 2, 1) := by decide +kernel
theorem dX2_bitsOf_10 : decode cX2_bitsOf 10 = .ok (.ldc2_w 280, 3) := by decide +kernel
theorem dX2_bitsOf_13 : decode cX2_bitsOf 13 = .ok (.lstore 4, 2) := by decide +kernel
theorem dX2_bitsOf_15 : decode cX2_bitsOf 15 = .ok (.iconst 0, 1) := by decide +kernel
theorem dX2_bitsOf_16 : decode cX2_bitsOf 16 = .ok (.istore 6, 2) := by decide +kernel
theorem dX2_bitsOf_18 : decode cX2_bitsOf 18 = .ok (.iload 6, 2) := by decide +kernel
theorem dX2_bitsOf_20 : decode cX2_bitsOf 20 = .ok (.sipush 1023, 3) := by decide +kernel
theorem dX2_bitsOf_23 : decode cX2_bitsOf 23 = .ok (.if_icmp .ge 27, 3) := by decide +kernel
theorem dX2_bitsOf_26 : decode cX2_bitsOf 26 = .ok (.dload_n 2, 1) := by decide +kernel
theorem dX2_bitsOf_27 : decode cX2_bitsOf 27 = .ok (.dconst 1, 1) := by decide +kernel
theorem dX2_bitsOf_28 : decode cX2_bitsOf 28 = .ok (.dcmp .g, 1) := by decide +kernel
theorem dX2_bitsOf_29 : decode cX2_bitsOf 29 = .ok (.ifCond .ge 21, 3) := by decide +kernel
theorem dX2_bitsOf_32 : decode cX2_bitsOf 32 = .ok (.dload_n 2, 1) := by decide +kernel
theorem dX2_bitsOf_33 : decode cX2_bitsOf 33 = .ok (.ldc2_w 282, 3) := by decide +kernel
theorem dX2_bitsOf_36 : decode cX2_bitsOf 36 = .ok (.dmul, 1) := by decide +kernel
theorem dX2_bitsOf_37 : decode cX2_bitsOf 37 = .ok (.dstore_n 2, 1) := by decide +kernel
theorem dX2_bitsOf_38 : decode cX2_bitsOf 38 = .ok (.lload 4, 2) := by decide +kernel
theorem dX2_bitsOf_40 : decode cX2_bitsOf 40 = .ok (.lconst 1, 1) := by decide +kernel
theorem dX2_bitsOf_41 : decode cX2_bitsOf 41 = .ok (.lsub, 1) := by decide +kernel
theorem dX2_bitsOf_42 : decode cX2_bitsOf 42 = .ok (.lstore 4, 2) := by decide +kernel
theorem dX2_bitsOf_44 : decode cX2_bitsOf 44 = .ok (.iinc 6 1, 3) := by decide +kernel
theorem dX2_bitsOf_47 : decode cX2_bitsOf 47 = .ok (.goto (-29), 3) := by decide +kernel
theorem dX2_bitsOf_50 : decode cX2_bitsOf 50 = .ok (.dload_n 2, 1) := by decide +kernel
theorem dX2_bitsOf_51 : decode cX2_bitsOf 51 = .ok (.dconst 1, 1) := by decide +kernel
theorem dX2_bitsOf_52 : decode cX2_bitsOf 52 = .ok (.dsub, 1) := by decide +kernel
theorem dX2_bitsOf_53 : decode cX2_bitsOf 53 = .ok (.ldc2_w 284, 3) := by decide +kernel
theorem dX2_bitsOf_56 : decode cX2_bitsOf 56 = .ok (.dmul, 1) := by decide +kernel
theorem dX2_bitsOf_57 : decode cX2_bitsOf 57 = .ok (.d2l, 1) := by decide +kernel
theorem dX2_bitsOf_58 : decode cX2_bitsOf 58 = .ok (.lstore 6, 2) := by decide +kernel
theorem dX2_bitsOf_60 : decode cX2_bitsOf 60 = .ok (.lload 4, 2) := by decide +kernel
theorem dX2_bitsOf_62 : decode cX2_bitsOf 62 = .ok (.bipush 52, 2) := by decide +kernel
theorem dX2_bitsOf_64 : decode cX2_bitsOf 64 = .ok (.lshl, 1) := by decide +kernel
theorem dX2_bitsOf_65 : decode cX2_bitsOf 65 = .ok (.lload 6, 2) := by decide +kernel
theorem dX2_bitsOf_67 : decode cX2_bitsOf 67 = .ok (.ladd, 1) := by decide +kernel
theorem dX2_bitsOf_68 : decode cX2_bitsOf 68 = .ok (.lreturn, 1) := by decide +kernel
theorem dJxe99ae_isNaN_b9ae7_0 : decode cJxe99ae_isNaN_b9ae7 0 = .ok (.dload_n 0, 1) := by decide +kernel
theorem dJxe99ae_isNaN_b9ae7_1 : decode cJxe99ae_isNaN_b9ae7 1 = .ok (.dload_n 0, 1) := by decide +kernel
theorem dJxe99ae_isNaN_b9ae7_2 : decode cJxe99ae_isNaN_b9ae7 2 = .ok (.dcmp .l, 1) := by decide +kernel
theorem dJxe99ae_isNaN_b9ae7_3 : decode cJxe99ae_isNaN_b9ae7 3 = .ok (.ifCond .eq 7, 3) := by decide +kernel
theorem dJxe99ae_isNaN_b9ae7_6 : decode cJxe99ae_isNaN_b9ae7 6 = .ok (.iconst 1, 1) := by decide +kernel
theorem dJxe99ae_isNaN_b9ae7_7 : decode cJxe99ae_isNaN_b9ae7 7 = .ok (.goto 4, 3) := by decide +kernel
theorem dJxe99ae_isNaN_b9ae7_10 : decode cJxe99ae_isNaN_b9ae7 10 = .ok (.iconst 0, 1) := by decide +kernel
theorem dJxe99ae_isNaN_b9ae7_11 : decode cJxe99ae_isNaN_b9ae7 11 = .ok (.ireturn, 1) := by decide +kernel
theorem dJxe99ae_doubleToLongBits_ccdee_0 : decode cJxe99ae_doubleToLongBits_ccdee 0 = .ok (.dload_n 0, 1) := by decide +kernel
theorem dJxe99ae_doubleToLongBits_ccdee_1 : decode cJxe99ae_doubleToLongBits_ccdee 1 = .ok (.invokestatic 122, 3) := by decide +kernel
theorem dJxe99ae_doubleToLongBits_ccdee_4 : decode cJxe99ae_doubleToLongBits_ccdee 4 = .ok (.ifCond .ne 8, 3) := by decide +kernel
theorem dJxe99ae_doubleToLongBits_ccdee_7 : decode cJxe99ae_doubleToLongBits_ccdee 7 = .ok (.dload_n 0, 1) := by decide +kernel
theorem dJxe99ae_doubleToLongBits_ccdee_8 : decode cJxe99ae_doubleToLongBits_ccdee 8 = .ok (.invokestatic 134, 3) := by decide +kernel
theorem dJxe99ae_doubleToLongBits_ccdee_11 : decode cJxe99ae_doubleToLongBits_ccdee 11 = .ok (.lreturn, 1) := by decide +kernel
theorem dJxe99ae_doubleToLongBits_ccdee_12 : decode cJxe99ae_doubleToLongBits_ccdee 12 = .ok (.ldc2_w 137, 3) := by decide +kernel
theorem dJxe99ae_doubleToLongBits_ccdee_15 : decode cJxe99ae_doubleToLongBits_ccdee 15 = .ok (.lreturn, 1) := by decide +kernel
end
section
theorem dX3_init_0 : decode cX3_init 0 = .ok (.aload_n 0, 1) := by decide +kernel
theorem dX3_init_1 : decode cX3_init 1 = .ok (.invokespecial 1, 3) := by decide +kernel
theorem dX3_init_4 : decode cX3_init 4 = .ok (.aload_n 0, 1) := by decide +kernel
theorem dX3_init_5 : decode cX3_init 5 = .ok (.bipush 56, 2) := by decide +kernel
theorem dX3_init_7 : decode cX3_init 7 = .ok (.newarray .int, 2) := by decide +kernel
theorem dX3_init_9 : decode cX3_init 9 = .ok (.putfield 7, 3) := by decide +kernel
theorem dX3_init_12 : decode cX3_init 12 = .ok (.aload_n 0, 1) := by decide +kernel
theorem dX3_init_13 : decode cX3_init 13 = .ok (.sipush 336, 3) := by decide +kernel
theorem dX3_init_16 : decode cX3_init 16 = .ok (.newarray .int, 2) := by decide +kernel
theorem dX3_init_18 : decode cX3_init 18 = .ok (.putfield 13, 3) := by decide +kernel
theorem dX3_init_21 : decode cX3_init 21 = .ok (.aload_n 0, 1) := by decide +kernel
theorem dX3_init_22 : decode cX3_init 22 = .ok (.bipush 112, 2) := by decide +kernel
theorem dX3_init_24 : decode cX3_init 24 = .ok (.newarray .int, 2) := by decide +kernel
theorem dX3_init_26 : decode cX3_init 26 = .ok (.putfield 16, 3) := by decide +kernel
theorem dX3_init_29 : decode cX3_init 29 = .ok (.aload_n 0, 1) := by decide +kernel
theorem dX3_init_30 : decode cX3_init 30 = .ok (.iconst 2, 1) := by decide +kernel
theorem dX3_init_31 : decode cX3_init 31 = .ok (.newarray .boolean, 2) := by decide +kernel
theorem dX3_init_33 : decode cX3_init 33 = .ok (.putfield 19, 3) := by decide +kernel
theorem dX3_init_36 : decode cX3_init 36 = .ok (.aload_n 0, 1) := by decide +kernel
theorem dX3_init_37 : decode cX3_init 37 = .ok (.bipush 60, 2) := by decide +kernel
theorem dX3_init_39 : decode cX3_init 39 = .ok (.newarray .int, 2) := by decide +kernel
theorem dX3_init_41 : decode cX3_init 41 = .ok (.putfield 23, 3) := by decide +kernel
theorem dX3_init_44 : decode cX3_init 44 = .ok (.aload_n 0, 1) := by decide +kernel
theorem dX3_init_45 : decode cX3_init 45 = .ok (.bipush 9, 2) := by decide +kernel
theorem dX3_init_47 : decode cX3_init 47 = .ok (.newarray .int, 2) := by decide +kernel
theorem dX3_init_49 : decode cX3_init 49 = .ok (.putfield 26, 3) := by decide +kernel
theorem dX3_init_52 : decode cX3_init 52 = .ok (.aload_n 0, 1) := by decide +kernel
theorem dX3_init_53 : decode cX3_init 53 = .ok (.bipush 9, 2) := by decide +kernel
theorem dX3_init_55 : decode cX3_init 55 = .ok (.newarray .int, 2) := by decide +kernel
theorem dX3_init_57 : decode cX3_init 57 = .ok (.putfield 29, 3) := by decide +kernel
theorem dX3_init_60 : decode cX3_init 60 = .ok (.aload_n 0, 1) := by decide +kernel
theorem dX3_init_61 : decode cX3_init 61 = .ok (.bipush 9, 2) := by decide +kernel
theorem dX3_init_63 : decode cX3_init 63 = .ok (.newarray .long, 2) := by decide +kernel
theorem dX3_init_65 : decode cX3_init 65 = .ok (.putfield 32, 3) := by decide +kernel
theorem dX3_init_68 : decode cX3_init 68 = .ok (.aload_n 0, 1) := by decide +kernel
theorem dX3_init_69 : decode cX3_init 69 = .ok (.iconst 0, 1) := by decide +kernel
theorem dX3_init_70 : decode cX3_init 70 = .ok (.putfield 36, 3) := by decide +kernel
theorem dX3_init_73 : decode cX3_init 73 = .ok (.iconst 0, 1) := by decide +kernel
theorem dX3_init_74 : decode cX3_init 74 = .ok (.istore_n 1, 1) := by decide +kernel
theorem dX3_init_75 : decode cX3_init 75 = .ok (.iload_n 1, 1) := by decide +kernel
theorem dX3_init_76 : decode cX3_init 76 = .ok (.iconst 5, 1) := by decide +kernel
theorem dX3_init_77 : decode cX3_init 77 = .ok (.if_icmp .ge 21, 3) := by decide +kernel
theorem dX3_init_80 : decode cX3_init 80 = .ok (.aload_n 0, 1) := by decide +kernel
theorem dX3_init_81 : decode cX3_init 81 = .ok (.getfield 7, 3) := by decide +kernel
theorem dX3_init_84 : decode cX3_init 84 = .ok (.iconst 0, 1) := by decide +kernel
theorem dX3_init_85 : decode cX3_init 85 = .ok (.bipush 9, 2) := by decide +kernel
theorem dX3_init_87 : decode cX3_init 87 = .ok (.iload_n 1, 1) := by decide +kernel
theorem dX3_init_88 : decode cX3_init 88 = .ok (.imul, 1) := by decide +kernel
theorem dX3_init_89 : decode cX3_init 89 = .ok (.iadd, 1) := by decide +kernel
theorem dX3_init_90 : decode cX3_init 90 = .ok (.iconst 1, 1) := by decide +kernel
theorem dX3_init_91 : decode cX3_init 91 = .ok (.iastore, 1) := by decide +kernel
theorem dX3_init_92 : decode cX3_init 92 = .ok (.iinc 1 1, 3) := by decide +kernel
theorem dX3_init_95 : decode cX3_init 95 = .ok (.goto (-20), 3) := by decide +kernel
theorem dX3_init_98 : decode cX3_init 98 = .ok (.return_, 1) := by decide +kernel
theorem dX3_thrown_0 : decode cX3_thrown 0 = .ok (.aload_n 0, 1) := by decide +kernel
theorem dX3_thrown_1 : decode cX3_thrown 1 = .ok (.getfield 36, 3) := by decide +kernel
theorem dX3_thrown_4 : decode cX3_thrown 4 = .ok (.ireturn, 1) := by decide +kernel
theorem dX3_in_0 : decode cX3_in 0 = .ok (.iload_n 0, 1) := by decide +kernel
theorem dX3_in_1 : decode cX3_in 1 = .ok (.iload_n 1, 1) := by decide +kernel
theorem dX3_in_2 : decode cX3_in 2 = .ok (.if_icmp .lt 12, 3) := by decide +kernel
theorem dX3_in_5 : decode cX3_in 5 = .ok (.iload_n 0, 1) := by decide +kernel
theorem dX3_in_6 : decode cX3_in 6 = .ok (.iload_n 2, 1) := by decide +kernel
theorem dX3_in_7 : decode cX3_in 7 = .ok (.if_icmp .gt 7, 3) := by decide +kernel
theorem dX3_in_10 : decode cX3_in 10 = .ok (.iconst 1, 1) := by decide +kernel
theorem dX3_in_11 : decode cX3_in 11 = .ok (.goto 4, 3) := by decide +kernel
theorem dX3_in_14 : decode cX3_in 14 = .ok (.iconst 0, 1) := by decide +kernel
theorem dX3_in_15 : decode cX3_in 15 = .ok (.ireturn, 1) := by decide +kernel
theorem dX3_fails_0 : decode cX3_fails 0 = .ok (.aload_n 0, 1) := by decide +kernel
theorem dX3_fails_1 : decode cX3_fails 1 = .ok (.iload_n 1, 1) := by decide +kernel
theorem dX3_fails_2 : decode cX3_fails 2 = .ok (.putfield 36, 3) := by decide +kernel
theorem dX3_fails_5 : decode cX3_fails 5 = .ok (.iconst 0, 1) := by decide +kernel
theorem dX3_fails_6 : decode cX3_fails 6 = .ok (.ireturn, 1) := by decide +kernel
theorem dX3_isPoly_0 : decode cX3_isPoly 0 = .ok (.iload_n 0, 1) := by decide +kernel
theorem dX3_isPoly_1 : decode cX3_isPoly 1 = .ok (.iconst 0, 1) := by decide +kernel
theorem dX3_isPoly_2 : decode cX3_isPoly 2 = .ok (.iconst 4, 1) := by decide +kernel
theorem dX3_isPoly_3 : decode cX3_isPoly 3 = .ok (.invokestatic 40, 3) := by decide +kernel
theorem dX3_isPoly_6 : decode cX3_isPoly 6 = .ok (.ireturn, 1) := by decide +kernel
theorem dX3_isSign_0 : decode cX3_isSign 0 = .ok (.iload_n 0, 1) := by decide +kernel
theorem dX3_isSign_1 : decode cX3_isSign 1 = .ok (.iconst (-1), 1) := by decide +kernel
theorem dX3_isSign_2 : decode cX3_isSign 2 = .ok (.iconst 1, 1) := by decide +kernel
theorem dX3_isSign_3 : decode cX3_isSign 3 = .ok (.invokestatic 40, 3) := by decide +kernel
theorem dX3_isSign_6 : decode cX3_isSign 6 = .ok (.ireturn, 1) := by decide +kernel
theorem dX3_signAt_0 : decode cX3_signAt 0 = .ok (.iload_n 2, 1) := by decide +kernel
theorem dX3_signAt_1 : decode cX3_signAt 1 = .ok (.ifCond .lt 9, 3) := by decide +kernel
theorem dX3_signAt_4 : decode cX3_signAt 4 = .ok (.iload_n 2, 1) := by decide +kernel
theorem dX3_signAt_5 : decode cX3_signAt 5 = .ok (.bipush 9, 2) := by decide +kernel
theorem dX3_signAt_7 : decode cX3_signAt 7 = .ok (.if_icmp .lt 7, 3) := by decide +kernel
theorem dX3_signAt_10 : decode cX3_signAt 10 = .ok (.iconst 0, 1) := by decide +kernel
theorem dX3_signAt_11 : decode cX3_signAt 11 = .ok (.goto 16, 3) := by decide +kernel
theorem dX3_signAt_14 : decode cX3_signAt 14 = .ok (.aload_n 0, 1) := by decide +kernel
theorem dX3_signAt_15 : decode cX3_signAt 15 = .ok (.getfield 7, 3) := by decide +kernel
theorem dX3_signAt_18 : decode cX3_signAt 18 = .ok (.iconst 0, 1) := by decide +kernel
theorem dX3_signAt_19 : decode cX3_signAt 19 = .ok (.bipush 9, 2) := by decide +kernel
theorem dX3_signAt_21 : decode cX3_signAt 21 = .ok (.iload_n 1, 1) := by decide +kernel
theorem dX3_signAt_22 : decode cX3_signAt 22 = .ok (.imul, 1) := by decide +kernel
theorem dX3_signAt_23 : decode cX3_signAt 23 = .ok (.iadd, 1) := by decide +kernel
theorem dX3_signAt_24 : decode cX3_signAt 24 = .ok (.iload_n 2, 1) := by decide +kernel
theorem dX3_signAt_25 : decode cX3_signAt 25 = .ok (.iadd, 1) := by decide +kernel
theorem dX3_signAt_26 : decode cX3_signAt 26 = .ok (.iaload, 1) := by decide +kernel
theorem dX3_signAt_27 : decode cX3_signAt 27 = .ok (.ireturn, 1) := by decide +kernel
theorem dX3_degree_0 : decode cX3_degree 0 = .ok (.iconst 0, 1) := by decide +kernel
theorem dX3_degree_1 : decode cX3_degree 1 = .ok (.istore_n 2, 1) := by decide +kernel
theorem dX3_degree_2 : decode cX3_degree 2 = .ok (.iconst 0, 1) := by decide +kernel
theorem dX3_degree_3 : decode cX3_degree 3 = .ok (.istore_n 3, 1) := by decide +kernel
theorem dX3_degree_4 : decode cX3_degree 4 = .ok (.iload_n 3, 1) := by decide +kernel
theorem dX3_degree_5 : decode cX3_degree 5 = .ok (.bipush 9, 2) := by decide +kernel
theorem dX3_degree_7 : decode cX3_degree 7 = .ok (.if_icmp .ge 24, 3) := by decide +kernel
theorem dX3_degree_10 : decode cX3_degree 10 = .ok (.aload_n 0, 1) := by decide +kernel
theorem dX3_degree_11 : decode cX3_degree 11 = .ok (.iload_n 1, 1) := by decide +kernel
theorem dX3_degree_12 : decode cX3_degree 12 = .ok (.iload_n 3, 1) := by decide +kernel
theorem dX3_degree_13 : decode cX3_degree 13 = .ok (.invokevirtual 44, 3) := by decide +kernel
theorem dX3_degree_16 : decode cX3_degree 16 = .ok (.ifCond .eq 7, 3) := by decide +kernel
theorem dX3_degree_19 : decode cX3_degree 19 = .ok (.iload_n 3, 1) := by decide +kernel
theorem dX3_degree_20 : decode cX3_degree 20 = .ok (.goto 4, 3) := by decide +kernel
theorem dX3_degree_23 : decode cX3_degree 23 = .ok (.iload_n 2, 1) := by decide +kernel
theorem dX3_degree_24 : decode cX3_degree 24 = .ok (.istore_n 2, 1) := by decide +kernel
theorem dX3_degree_25 : decode cX3_degree 25 = .ok (.iinc 3 1, 3) := by decide +kernel
theorem dX3_degree_28 : decode cX3_degree 28 = .ok (.goto (-24), 3) := by decide +kernel
theorem dX3_degree_31 : decode cX3_degree 31 = .ok (.iload_n 2, 1) := by decide +kernel
theorem dX3_degree_32 : decode cX3_degree 32 = .ok (.ireturn, 1) := by decide +kernel
theorem dX3_saves_0 : decode cX3_saves 0 = .ok (.aload_n 0, 1) := by decide +kernel
theorem dX3_saves_1 : decode cX3_saves 1 = .ok (.getfield 48, 3) := by decide +kernel
theorem dX3_saves_4 : decode cX3_saves 4 = .ok (.bipush 6, 2) := by decide +kernel
theorem dX3_saves_6 : decode cX3_saves 6 = .ok (.if_icmp .ne 43, 3) := by decide +kernel
theorem dX3_saves_9 : decode cX3_saves 9 = .ok (.iconst 0, 1) := by decide +kernel
theorem dX3_saves_10 : decode cX3_saves 10 = .ok (.istore_n 1, 1) := by decide +kernel
theorem dX3_saves_11 : decode cX3_saves 11 = .ok (.iload_n 1, 1) := by decide +kernel
theorem dX3_saves_12 : decode cX3_saves 12 = .ok (.sipush 280, 3) := by decide +kernel
theorem dX3_saves_15 : decode cX3_saves 15 = .ok (.if_icmp .ge 24, 3) := by decide +kernel
theorem dX3_saves_18 : decode cX3_saves 18 = .ok (.aload_n 0, 1) := by decide +kernel
theorem dX3_saves_19 : decode cX3_saves 19 = .ok (.getfield 13, 3) := by decide +kernel
theorem dX3_saves_22 : decode cX3_saves 22 = .ok (.iload_n 1, 1) := by decide +kernel
theorem dX3_saves_23 : decode cX3_saves 23 = .ok (.aload_n 0, 1) := by decide +kernel
theorem dX3_saves_24 : decode cX3_saves 24 = .ok (.getfield 13, 3) := by decide +kernel
theorem dX3_saves_27 : decode cX3_saves 27 = .ok (.iload_n 1, 1) := by decide +kernel
theorem dX3_saves_28 : decode cX3_saves 28 = .ok (.bipush 56, 2) := by decide +kernel
theorem dX3_saves_30 : decode cX3_saves 30 = .ok (.iadd, 1) := by decide +kernel
theorem dX3_saves_31 : decode cX3_saves 31 = .ok (.iaload, 1) := by decide +kernel
theorem dX3_saves_32 : decode cX3_saves 32 = .ok (.iastore, 1) := by decide +kernel
theorem dX3_saves_33 : decode cX3_saves 33 = .ok (.iinc 1 1, 3) := by decide +kernel
theorem dX3_saves_36 : decode cX3_saves 36 = .ok (.goto (-25), 3) := by decide +kernel
theorem dX3_saves_39 : decode cX3_saves 39 = .ok (.aload_n 0, 1) := by decide +kernel
theorem dX3_saves_40 : decode cX3_saves 40 = .ok (.dup, 1) := by decide +kernel
theorem dX3_saves_41 : decode cX3_saves 41 = .ok (.getfield 48, 3) := by decide +kernel
theorem dX3_saves_44 : decode cX3_saves 44 = .ok (.iconst 1, 1) := by decide +kernel
theorem dX3_saves_45 : decode cX3_saves 45 = .ok (.isub, 1) := by decide +kernel
theorem dX3_saves_46 : decode cX3_saves 46 = .ok (.putfield 48, 3) := by decide +kernel
theorem dX3_saves_49 : decode cX3_saves 49 = .ok (.iconst 0, 1) := by decide +kernel
theorem dX3_saves_50 : decode cX3_saves 50 = .ok (.istore_n 1, 1) := by decide +kernel
theorem dX3_saves_51 : decode cX3_saves 51 = .ok (.iload_n 1, 1) := by decide +kernel
theorem dX3_saves_52 : decode cX3_saves 52 = .ok (.bipush 56, 2) := by decide +kernel
theorem dX3_saves_54 : decode cX3_saves 54 = .ok (.if_icmp .ge 29, 3) := by decide +kernel
theorem dX3_saves_57 : decode cX3_saves 57 = .ok (.aload_n 0, 1) := by decide +kernel
theorem dX3_saves_58 : decode cX3_saves 58 = .ok (.getfield 13, 3) := by decide +kernel
theorem dX3_saves_61 : decode cX3_saves 61 = .ok (.bipush 56, 2) := by decide +kernel
theorem dX3_saves_63 : decode cX3_saves 63 = .ok (.aload_n 0, 1) := by decide +kernel
theorem dX3_saves_64 : decode cX3_saves 64 = .ok (.getfield 48, 3) := by decide +kernel
theorem dX3_saves_67 : decode cX3_saves 67 = .ok (.imul, 1) := by decide +kernel
theorem dX3_saves_68 : decode cX3_saves 68 = .ok (.iload_n 1, 1) := by decide +kernel
theorem dX3_saves_69 : decode cX3_saves 69 = .ok (.iadd, 1) := by decide +kernel
theorem dX3_saves_70 : decode cX3_saves 70 = .ok (.aload_n 0, 1) := by decide +kernel
theorem dX3_saves_71 : decode cX3_saves 71 = .ok (.getfield 7, 3) := by decide +kernel
theorem dX3_saves_74 : decode cX3_saves 74 = .ok (.iload_n 1, 1) := by decide +kernel
theorem dX3_saves_75 : decode cX3_saves 75 = .ok (.iaload, 1) := by decide +kernel
theorem dX3_saves_76 : decode cX3_saves 76 = .ok (.iastore, 1) := by decide +kernel
theorem dX3_saves_77 : decode cX3_saves 77 = .ok (.iinc 1 1, 3) := by decide +kernel
theorem dX3_saves_80 : decode cX3_saves 80 = .ok (.goto (-29), 3) := by decide +kernel
theorem dX3_saves_83 : decode cX3_saves 83 = .ok (.aload_n 0, 1) := by decide +kernel
theorem dX3_saves_84 : decode cX3_saves 84 = .ok (.dup, 1) := by decide +kernel
theorem dX3_saves_85 : decode cX3_saves 85 = .ok (.getfield 48, 3) := by decide +kernel
theorem dX3_saves_88 : decode cX3_saves 88 = .ok (.iconst 1, 1) := by decide +kernel
theorem dX3_saves_89 : decode cX3_saves 89 = .ok (.iadd, 1) := by decide +kernel
theorem dX3_saves_90 : decode cX3_saves 90 = .ok (.putfield 48, 3) := by decide +kernel
theorem dX3_saves_93 : decode cX3_saves 93 = .ok (.return_, 1) := by decide +kernel
theorem dX3_refuses_0 : decode cX3_refuses 0 = .ok (.aload_n 0, 1) := by decide +kernel
theorem dX3_refuses_1 : decode cX3_refuses 1 = .ok (.getfield 7, 3) := by decide +kernel
theorem dX3_refuses_4 : decode cX3_refuses 4 = .ok (.bipush 55, 2) := by decide +kernel
theorem dX3_refuses_6 : decode cX3_refuses 6 = .ok (.dup2, 1) := by decide +kernel
theorem dX3_refuses_7 : decode cX3_refuses 7 = .ok (.iaload, 1) := by decide +kernel
theorem dX3_refuses_8 : decode cX3_refuses 8 = .ok (.iconst 1, 1) := by decide +kernel
theorem dX3_refuses_9 : decode cX3_refuses 9 = .ok (.iadd, 1) := by decide +kernel
theorem dX3_refuses_10 : decode cX3_refuses 10 = .ok (.iastore, 1) := by decide +kernel
theorem dX3_refuses_11 : decode cX3_refuses 11 = .ok (.iload_n 1, 1) := by decide +kernel
theorem dX3_refuses_12 : decode cX3_refuses 12 = .ok (.ireturn, 1) := by decide +kernel
theorem dX3_isInSum_0 : decode cX3_isInSum 0 = .ok (.iload_n 1, 1) := by decide +kernel
theorem dX3_isInSum_1 : decode cX3_isInSum 1 = .ok (.ifCond .eq 9, 3) := by decide +kernel
theorem dX3_isInSum_4 : decode cX3_isInSum 4 = .ok (.iload_n 1, 1) := by decide +kernel
theorem dX3_isInSum_5 : decode cX3_isInSum 5 = .ok (.iload_n 2, 1) := by decide +kernel
theorem dX3_isInSum_6 : decode cX3_isInSum 6 = .ok (.ineg, 1) := by decide +kernel
theorem dX3_isInSum_7 : decode cX3_isInSum 7 = .ok (.if_icmp .eq 16, 3) := by decide +kernel
theorem dX3_isInSum_10 : decode cX3_isInSum 10 = .ok (.iload_n 0, 1) := by decide +kernel
theorem dX3_isInSum_11 : decode cX3_isInSum 11 = .ok (.iload_n 1, 1) := by decide +kernel
theorem dX3_isInSum_12 : decode cX3_isInSum 12 = .ok (.ifCond .ne 7, 3) := by decide +kernel
theorem dX3_isInSum_15 : decode cX3_isInSum 15 = .ok (.iload_n 2, 1) := by decide +kernel
theorem dX3_isInSum_16 : decode cX3_isInSum 16 = .ok (.goto 4, 3) := by decide +kernel
theorem dX3_isInSum_19 : decode cX3_isInSum 19 = .ok (.iload_n 1, 1) := by decide +kernel
theorem dX3_isInSum_20 : decode cX3_isInSum 20 = .ok (.if_icmp .ne 7, 3) := by decide +kernel
theorem dX3_isInSum_23 : decode cX3_isInSum 23 = .ok (.iconst 1, 1) := by decide +kernel
theorem dX3_isInSum_24 : decode cX3_isInSum 24 = .ok (.goto 4, 3) := by decide +kernel
theorem dX3_isInSum_27 : decode cX3_isInSum 27 = .ok (.iconst 0, 1) := by decide +kernel
theorem dX3_isInSum_28 : decode cX3_isInSum 28 = .ok (.ireturn, 1) := by decide +kernel
theorem dX3_changes_0 : decode cX3_changes 0 = .ok (.iconst 0, 1) := by decide +kernel
theorem dX3_changes_1 : decode cX3_changes 1 = .ok (.istore_n 3, 1) := by decide +kernel
theorem dX3_changes_2 : decode cX3_changes 2 = .ok (.iconst 0, 1) := by decide +kernel
theorem dX3_changes_3 : decode cX3_changes 3 = .ok (.istore 4, 2) := by decide +kernel
theorem dX3_changes_5 : decode cX3_changes 5 = .ok (.iconst 0, 1) := by decide +kernel
theorem dX3_changes_6 : decode cX3_changes 6 = .ok (.istore 5, 2) := by decide +kernel
theorem dX3_changes_8 : decode cX3_changes 8 = .ok (.iload 5, 2) := by decide +kernel
theorem dX3_changes_10 : decode cX3_changes 10 = .ok (.iload_n 1, 1) := by decide +kernel
theorem dX3_changes_11 : decode cX3_changes 11 = .ok (.if_icmp .gt 100, 3) := by decide +kernel
theorem dX3_changes_14 : decode cX3_changes 14 = .ok (.iload_n 2, 1) := by decide +kernel
theorem dX3_changes_15 : decode cX3_changes 15 = .ok (.ifCond .ge 19, 3) := by decide +kernel
theorem dX3_changes_18 : decode cX3_changes 18 = .ok (.iload 5, 2) := by decide +kernel
theorem dX3_changes_20 : decode cX3_changes 20 = .ok (.iconst 2, 1) := by decide +kernel
theorem dX3_changes_21 : decode cX3_changes 21 = .ok (.irem, 1) := by decide +kernel
theorem dX3_changes_22 : decode cX3_changes 22 = .ok (.iconst 1, 1) := by decide +kernel
theorem dX3_changes_23 : decode cX3_changes 23 = .ok (.if_icmp .ne 11, 3) := by decide +kernel
theorem dX3_changes_26 : decode cX3_changes 26 = .ok (.aload_n 0, 1) := by decide +kernel
theorem dX3_changes_27 : decode cX3_changes 27 = .ok (.iload 5, 2) := by decide +kernel
theorem dX3_changes_29 : decode cX3_changes 29 = .ok (.iaload, 1) := by decide +kernel
theorem dX3_changes_30 : decode cX3_changes 30 = .ok (.ineg, 1) := by decide +kernel
theorem dX3_changes_31 : decode cX3_changes 31 = .ok (.goto 7, 3) := by decide +kernel
theorem dX3_changes_34 : decode cX3_changes 34 = .ok (.aload_n 0, 1) := by decide +kernel
theorem dX3_changes_35 : decode cX3_changes 35 = .ok (.iload 5, 2) := by decide +kernel
theorem dX3_changes_37 : decode cX3_changes 37 = .ok (.iaload, 1) := by decide +kernel
theorem dX3_changes_38 : decode cX3_changes 38 = .ok (.istore 6, 2) := by decide +kernel
theorem dX3_changes_40 : decode cX3_changes 40 = .ok (.iload_n 3, 1) := by decide +kernel
theorem dX3_changes_41 : decode cX3_changes 41 = .ok (.iload_n 2, 1) := by decide +kernel
theorem dX3_changes_42 : decode cX3_changes 42 = .ok (.ifCond .eq 24, 3) := by decide +kernel
theorem dX3_changes_45 : decode cX3_changes 45 = .ok (.iload 6, 2) := by decide +kernel
theorem dX3_changes_47 : decode cX3_changes 47 = .ok (.ifCond .eq 19, 3) := by decide +kernel
theorem dX3_changes_50 : decode cX3_changes 50 = .ok (.iload 4, 2) := by decide +kernel
theorem dX3_changes_52 : decode cX3_changes 52 = .ok (.ifCond .eq 14, 3) := by decide +kernel
theorem dX3_changes_55 : decode cX3_changes 55 = .ok (.iload 6, 2) := by decide +kernel
theorem dX3_changes_57 : decode cX3_changes 57 = .ok (.iload 4, 2) := by decide +kernel
theorem dX3_changes_59 : decode cX3_changes 59 = .ok (.if_icmp .eq 7, 3) := by decide +kernel
theorem dX3_changes_62 : decode cX3_changes 62 = .ok (.iconst 1, 1) := by decide +kernel
theorem dX3_changes_63 : decode cX3_changes 63 = .ok (.goto 4, 3) := by decide +kernel
theorem dX3_changes_66 : decode cX3_changes 66 = .ok (.iconst 0, 1) := by decide +kernel
theorem dX3_changes_67 : decode cX3_changes 67 = .ok (.iadd, 1) := by decide +kernel
theorem dX3_changes_68 : decode cX3_changes 68 = .ok (.istore_n 3, 1) := by decide +kernel
theorem dX3_changes_69 : decode cX3_changes 69 = .ok (.iload_n 3, 1) := by decide +kernel
theorem dX3_changes_70 : decode cX3_changes 70 = .ok (.iload_n 2, 1) := by decide +kernel
theorem dX3_changes_71 : decode cX3_changes 71 = .ok (.ifCond .ne 17, 3) := by decide +kernel
theorem dX3_changes_74 : decode cX3_changes 74 = .ok (.iload 6, 2) := by decide +kernel
theorem dX3_changes_76 : decode cX3_changes 76 = .ok (.ifCond .ne 12, 3) := by decide +kernel
theorem dX3_changes_79 : decode cX3_changes 79 = .ok (.iload 4, 2) := by decide +kernel
theorem dX3_changes_81 : decode cX3_changes 81 = .ok (.ifCond .ne 7, 3) := by decide +kernel
theorem dX3_changes_84 : decode cX3_changes 84 = .ok (.iconst 1, 1) := by decide +kernel
theorem dX3_changes_85 : decode cX3_changes 85 = .ok (.goto 4, 3) := by decide +kernel
theorem dX3_changes_88 : decode cX3_changes 88 = .ok (.iconst 0, 1) := by decide +kernel
theorem dX3_changes_89 : decode cX3_changes 89 = .ok (.iadd, 1) := by decide +kernel
theorem dX3_changes_90 : decode cX3_changes 90 = .ok (.istore_n 3, 1) := by decide +kernel
theorem dX3_changes_91 : decode cX3_changes 91 = .ok (.iload 6, 2) := by decide +kernel
theorem dX3_changes_93 : decode cX3_changes 93 = .ok (.ifCond .ne 8, 3) := by decide +kernel
theorem dX3_changes_96 : decode cX3_changes 96 = .ok (.iload 4, 2) := by decide +kernel
theorem dX3_changes_98 : decode cX3_changes 98 = .ok (.goto 5, 3) := by decide +kernel
theorem dX3_changes_101 : decode cX3_changes 101 = .ok (.iload 6, 2) := by decide +kernel
theorem dX3_changes_103 : decode cX3_changes 103 = .ok (.istore 4, 2) := by decide +kernel
theorem dX3_changes_105 : decode cX3_changes 105 = .ok (.iinc 5 1, 3) := by decide +kernel
theorem dX3_changes_108 : decode cX3_changes 108 = .ok (.goto (-100), 3) := by decide +kernel
theorem dX3_changes_111 : decode cX3_changes 111 = .ok (.iload_n 3, 1) := by decide +kernel
theorem dX3_changes_112 : decode cX3_changes 112 = .ok (.ireturn, 1) := by decide +kernel
theorem dX3_often_0 : decode cX3_often 0 = .ok (.iconst 0, 1) := by decide +kernel
theorem dX3_often_1 : decode cX3_often 1 = .ok (.istore_n 3, 1) := by decide +kernel
theorem dX3_often_2 : decode cX3_often 2 = .ok (.iload_n 3, 1) := by decide +kernel
theorem dX3_often_3 : decode cX3_often 3 = .ok (.bipush 9, 2) := by decide +kernel
theorem dX3_often_5 : decode cX3_often 5 = .ok (.if_icmp .ge 21, 3) := by decide +kernel
theorem dX3_often_8 : decode cX3_often 8 = .ok (.aload_n 0, 1) := by decide +kernel
theorem dX3_often_9 : decode cX3_often 9 = .ok (.getfield 26, 3) := by decide +kernel
theorem dX3_often_12 : decode cX3_often 12 = .ok (.iload_n 3, 1) := by decide +kernel
theorem dX3_often_13 : decode cX3_often 13 = .ok (.aload_n 0, 1) := by decide +kernel
theorem dX3_often_14 : decode cX3_often 14 = .ok (.iload_n 1, 1) := by decide +kernel
theorem dX3_often_15 : decode cX3_often 15 = .ok (.iload_n 3, 1) := by decide +kernel
theorem dX3_often_16 : decode cX3_often 16 = .ok (.invokevirtual 44, 3) := by decide +kernel
theorem dX3_often_19 : decode cX3_often 19 = .ok (.iastore, 1) := by decide +kernel
theorem dX3_often_20 : decode cX3_often 20 = .ok (.iinc 3 1, 3) := by decide +kernel
theorem dX3_often_23 : decode cX3_often 23 = .ok (.goto (-21), 3) := by decide +kernel
theorem dX3_often_26 : decode cX3_often 26 = .ok (.aload_n 0, 1) := by decide +kernel
theorem dX3_often_27 : decode cX3_often 27 = .ok (.getfield 26, 3) := by decide +kernel
theorem dX3_often_30 : decode cX3_often 30 = .ok (.aload_n 0, 1) := by decide +kernel
theorem dX3_often_31 : decode cX3_often 31 = .ok (.iload_n 1, 1) := by decide +kernel
theorem dX3_often_32 : decode cX3_often 32 = .ok (.invokevirtual 51, 3) := by decide +kernel
theorem dX3_often_35 : decode cX3_often 35 = .ok (.iload_n 2, 1) := by decide +kernel
theorem dX3_often_36 : decode cX3_often 36 = .ok (.invokestatic 55, 3) := by decide +kernel
theorem dX3_often_39 : decode cX3_often 39 = .ok (.ireturn, 1) := by decide +kernel
theorem dX3_laysRow_0 : decode cX3_laysRow 0 = .ok (.iload_n 1, 1) := by decide +kernel
theorem dX3_laysRow_1 : decode cX3_laysRow 1 = .ok (.istore_n 3, 1) := by decide +kernel
theorem dX3_laysRow_2 : decode cX3_laysRow 2 = .ok (.iload_n 2, 1) := by decide +kernel
theorem dX3_laysRow_3 : decode cX3_laysRow 3 = .ok (.istore 4, 2) := by decide +kernel
theorem dX3_laysRow_5 : decode cX3_laysRow 5 = .ok (.iload 4, 2) := by decide +kernel
theorem dX3_laysRow_7 : decode cX3_laysRow 7 = .ok (.ifCond .lt 25, 3) := by decide +kernel
theorem dX3_laysRow_10 : decode cX3_laysRow 10 = .ok (.aload_n 0, 1) := by decide +kernel
theorem dX3_laysRow_11 : decode cX3_laysRow 11 = .ok (.getfield 26, 3) := by decide +kernel
theorem dX3_laysRow_14 : decode cX3_laysRow 14 = .ok (.iload 4, 2) := by decide +kernel
theorem dX3_laysRow_16 : decode cX3_laysRow 16 = .ok (.iload_n 3, 1) := by decide +kernel
theorem dX3_laysRow_17 : decode cX3_laysRow 17 = .ok (.iconst 3, 1) := by decide +kernel
theorem dX3_laysRow_18 : decode cX3_laysRow 18 = .ok (.irem, 1) := by decide +kernel
theorem dX3_laysRow_19 : decode cX3_laysRow 19 = .ok (.iconst 1, 1) := by decide +kernel
theorem dX3_laysRow_20 : decode cX3_laysRow 20 = .ok (.isub, 1) := by decide +kernel
theorem dX3_laysRow_21 : decode cX3_laysRow 21 = .ok (.iastore, 1) := by decide +kernel
theorem dX3_laysRow_22 : decode cX3_laysRow 22 = .ok (.iload_n 3, 1) := by decide +kernel
theorem dX3_laysRow_23 : decode cX3_laysRow 23 = .ok (.iconst 3, 1) := by decide +kernel
theorem dX3_laysRow_24 : decode cX3_laysRow 24 = .ok (.idiv, 1) := by decide +kernel
theorem dX3_laysRow_25 : decode cX3_laysRow 25 = .ok (.istore_n 3, 1) := by decide +kernel
theorem dX3_laysRow_26 : decode cX3_laysRow 26 = .ok (.iinc 4 (-1), 3) := by decide +kernel
theorem dX3_laysRow_29 : decode cX3_laysRow 29 = .ok (.goto (-24), 3) := by decide +kernel
theorem dX3_laysRow_32 : decode cX3_laysRow 32 = .ok (.return_, 1) := by decide +kernel
theorem dX3_isQuotient_0 : decode cX3_isQuotient 0 = .ok (.aload_n 0, 1) := by decide +kernel
theorem dX3_isQuotient_1 : decode cX3_isQuotient 1 = .ok (.getfield 26, 3) := by decide +kernel
theorem dX3_isQuotient_4 : decode cX3_isQuotient 4 = .ok (.iload_n 3, 1) := by decide +kernel
theorem dX3_isQuotient_5 : decode cX3_isQuotient 5 = .ok (.iaload, 1) := by decide +kernel
theorem dX3_isQuotient_6 : decode cX3_isQuotient 6 = .ok (.ifCond .eq 7, 3) := by decide +kernel
theorem dX3_isQuotient_9 : decode cX3_isQuotient 9 = .ok (.iconst 1, 1) := by decide +kernel
theorem dX3_isQuotient_10 : decode cX3_isQuotient 10 = .ok (.goto 4, 3) := by decide +kernel
theorem dX3_isQuotient_13 : decode cX3_isQuotient 13 = .ok (.iconst 0, 1) := by decide +kernel
theorem dX3_isQuotient_14 : decode cX3_isQuotient 14 = .ok (.istore 4, 2) := by decide +kernel
theorem dX3_isQuotient_16 : decode cX3_isQuotient 16 = .ok (.iconst 0, 1) := by decide +kernel
theorem dX3_isQuotient_17 : decode cX3_isQuotient 17 = .ok (.istore 5, 2) := by decide +kernel
theorem dX3_isQuotient_19 : decode cX3_isQuotient 19 = .ok (.iload 5, 2) := by decide +kernel
theorem dX3_isQuotient_21 : decode cX3_isQuotient 21 = .ok (.iload_n 3, 1) := by decide +kernel
theorem dX3_isQuotient_22 : decode cX3_isQuotient 22 = .ok (.iconst 1, 1) := by decide +kernel
theorem dX3_isQuotient_23 : decode cX3_isQuotient 23 = .ok (.iadd, 1) := by decide +kernel
theorem dX3_isQuotient_24 : decode cX3_isQuotient 24 = .ok (.if_icmp .gt 72, 3) := by decide +kernel
theorem dX3_isQuotient_27 : decode cX3_isQuotient 27 = .ok (.iload 4, 2) := by decide +kernel
theorem dX3_isQuotient_29 : decode cX3_isQuotient 29 = .ok (.ifCond .eq 67, 3) := by decide +kernel
theorem dX3_isQuotient_32 : decode cX3_isQuotient 32 = .ok (.iload 5, 2) := by decide +kernel
theorem dX3_isQuotient_34 : decode cX3_isQuotient 34 = .ok (.ifCond .ne 7, 3) := by decide +kernel
theorem dX3_isQuotient_37 : decode cX3_isQuotient 37 = .ok (.iconst 0, 1) := by decide +kernel
theorem dX3_isQuotient_38 : decode cX3_isQuotient 38 = .ok (.goto 12, 3) := by decide +kernel
theorem dX3_isQuotient_41 : decode cX3_isQuotient 41 = .ok (.aload_n 0, 1) := by decide +kernel
theorem dX3_isQuotient_42 : decode cX3_isQuotient 42 = .ok (.getfield 26, 3) := by decide +kernel
theorem dX3_isQuotient_45 : decode cX3_isQuotient 45 = .ok (.iload 5, 2) := by decide +kernel
theorem dX3_isQuotient_47 : decode cX3_isQuotient 47 = .ok (.iconst 1, 1) := by decide +kernel
theorem dX3_isQuotient_48 : decode cX3_isQuotient 48 = .ok (.isub, 1) := by decide +kernel
theorem dX3_isQuotient_49 : decode cX3_isQuotient 49 = .ok (.iaload, 1) := by decide +kernel
theorem dX3_isQuotient_50 : decode cX3_isQuotient 50 = .ok (.istore 6, 2) := by decide +kernel
theorem dX3_isQuotient_52 : decode cX3_isQuotient 52 = .ok (.iload 5, 2) := by decide +kernel
theorem dX3_isQuotient_54 : decode cX3_isQuotient 54 = .ok (.iload_n 3, 1) := by decide +kernel
theorem dX3_isQuotient_55 : decode cX3_isQuotient 55 = .ok (.if_icmp .le 7, 3) := by decide +kernel
theorem dX3_isQuotient_58 : decode cX3_isQuotient 58 = .ok (.iconst 0, 1) := by decide +kernel
theorem dX3_isQuotient_59 : decode cX3_isQuotient 59 = .ok (.goto 13, 3) := by decide +kernel
theorem dX3_isQuotient_62 : decode cX3_isQuotient 62 = .ok (.iload_n 2, 1) := by decide +kernel
theorem dX3_isQuotient_63 : decode cX3_isQuotient 63 = .ok (.ineg, 1) := by decide +kernel
theorem dX3_isQuotient_64 : decode cX3_isQuotient 64 = .ok (.aload_n 0, 1) := by decide +kernel
theorem dX3_isQuotient_65 : decode cX3_isQuotient 65 = .ok (.getfield 26, 3) := by decide +kernel
theorem dX3_isQuotient_68 : decode cX3_isQuotient 68 = .ok (.iload 5, 2) := by decide +kernel
theorem dX3_isQuotient_70 : decode cX3_isQuotient 70 = .ok (.iaload, 1) := by decide +kernel
theorem dX3_isQuotient_71 : decode cX3_isQuotient 71 = .ok (.imul, 1) := by decide +kernel
theorem dX3_isQuotient_72 : decode cX3_isQuotient 72 = .ok (.istore 7, 2) := by decide +kernel
theorem dX3_isQuotient_74 : decode cX3_isQuotient 74 = .ok (.aload_n 0, 1) := by decide +kernel
theorem dX3_isQuotient_75 : decode cX3_isQuotient 75 = .ok (.iload_n 1, 1) := by decide +kernel
theorem dX3_isQuotient_76 : decode cX3_isQuotient 76 = .ok (.iload 5, 2) := by decide +kernel
theorem dX3_isQuotient_78 : decode cX3_isQuotient 78 = .ok (.invokevirtual 44, 3) := by decide +kernel
theorem dX3_isQuotient_81 : decode cX3_isQuotient 81 = .ok (.iload 6, 2) := by decide +kernel
theorem dX3_isQuotient_83 : decode cX3_isQuotient 83 = .ok (.iload 7, 2) := by decide +kernel
theorem dX3_isQuotient_85 : decode cX3_isQuotient 85 = .ok (.invokestatic 59, 3) := by decide +kernel
theorem dX3_isQuotient_88 : decode cX3_isQuotient 88 = .ok (.istore 4, 2) := by decide +kernel
theorem dX3_isQuotient_90 : decode cX3_isQuotient 90 = .ok (.iinc 5 1, 3) := by decide +kernel
theorem dX3_isQuotient_93 : decode cX3_isQuotient 93 = .ok (.goto (-74), 3) := by decide +kernel
theorem dX3_isQuotient_96 : decode cX3_isQuotient 96 = .ok (.iload 4, 2) := by decide +kernel
theorem dX3_isQuotient_98 : decode cX3_isQuotient 98 = .ok (.ireturn, 1) := by decide +kernel
theorem dX3_divides_0 : decode cX3_divides 0 = .ok (.aload_n 0, 1) := by decide +kernel
theorem dX3_divides_1 : decode cX3_divides 1 = .ok (.iload_n 1, 1) := by decide +kernel
theorem dX3_divides_2 : decode cX3_divides 2 = .ok (.invokevirtual 51, 3) := by decide +kernel
theorem dX3_divides_5 : decode cX3_divides 5 = .ok (.iconst 1, 1) := by decide +kernel
theorem dX3_divides_6 : decode cX3_divides 6 = .ok (.isub, 1) := by decide +kernel
theorem dX3_divides_7 : decode cX3_divides 7 = .ok (.istore_n 3, 1) := by decide +kernel
theorem dX3_divides_8 : decode cX3_divides 8 = .ok (.iconst 1, 1) := by decide +kernel
theorem dX3_divides_9 : decode cX3_divides 9 = .ok (.istore 4, 2) := by decide +kernel
theorem dX3_divides_11 : decode cX3_divides 11 = .ok (.iconst 0, 1) := by decide +kernel
theorem dX3_divides_12 : decode cX3_divides 12 = .ok (.istore 5, 2) := by decide +kernel
theorem dX3_divides_14 : decode cX3_divides 14 = .ok (.iload 5, 2) := by decide +kernel
theorem dX3_divides_16 : decode cX3_divides 16 = .ok (.iload_n 3, 1) := by decide +kernel
theorem dX3_divides_17 : decode cX3_divides 17 = .ok (.if_icmp .gt 15, 3) := by decide +kernel
theorem dX3_divides_20 : decode cX3_divides 20 = .ok (.iload 4, 2) := by decide +kernel
theorem dX3_divides_22 : decode cX3_divides 22 = .ok (.iconst 3, 1) := by decide +kernel
theorem dX3_divides_23 : decode cX3_divides 23 = .ok (.imul, 1) := by decide +kernel
theorem dX3_divides_24 : decode cX3_divides 24 = .ok (.istore 4, 2) := by decide +kernel
theorem dX3_divides_26 : decode cX3_divides 26 = .ok (.iinc 5 1, 3) := by decide +kernel
theorem dX3_divides_29 : decode cX3_divides 29 = .ok (.goto (-15), 3) := by decide +kernel
theorem dX3_divides_32 : decode cX3_divides 32 = .ok (.iconst 0, 1) := by decide +kernel
theorem dX3_divides_33 : decode cX3_divides 33 = .ok (.istore 5, 2) := by decide +kernel
theorem dX3_divides_35 : decode cX3_divides 35 = .ok (.aload_n 0, 1) := by decide +kernel
theorem dX3_divides_36 : decode cX3_divides 36 = .ok (.bipush (-9), 2) := by decide +kernel
theorem dX3_divides_38 : decode cX3_divides 38 = .ok (.putfield 62, 3) := by decide +kernel
theorem dX3_divides_41 : decode cX3_divides 41 = .ok (.iconst 0, 1) := by decide +kernel
theorem dX3_divides_42 : decode cX3_divides 42 = .ok (.istore 6, 2) := by decide +kernel
theorem dX3_divides_44 : decode cX3_divides 44 = .ok (.iload 6, 2) := by decide +kernel
theorem dX3_divides_46 : decode cX3_divides 46 = .ok (.iload 4, 2) := by decide +kernel
theorem dX3_divides_48 : decode cX3_divides 48 = .ok (.if_icmp .ge 39, 3) := by decide +kernel
theorem dX3_divides_51 : decode cX3_divides 51 = .ok (.iload_n 3, 1) := by decide +kernel
theorem dX3_divides_52 : decode cX3_divides 52 = .ok (.ifCond .lt 35, 3) := by decide +kernel
theorem dX3_divides_55 : decode cX3_divides 55 = .ok (.aload_n 0, 1) := by decide +kernel
theorem dX3_divides_56 : decode cX3_divides 56 = .ok (.iload 6, 2) := by decide +kernel
theorem dX3_divides_58 : decode cX3_divides 58 = .ok (.iload_n 3, 1) := by decide +kernel
theorem dX3_divides_59 : decode cX3_divides 59 = .ok (.invokevirtual 65, 3) := by decide +kernel
theorem dX3_divides_62 : decode cX3_divides 62 = .ok (.aload_n 0, 1) := by decide +kernel
theorem dX3_divides_63 : decode cX3_divides 63 = .ok (.iload_n 1, 1) := by decide +kernel
theorem dX3_divides_64 : decode cX3_divides 64 = .ok (.iload_n 2, 1) := by decide +kernel
theorem dX3_divides_65 : decode cX3_divides 65 = .ok (.iload_n 3, 1) := by decide +kernel
theorem dX3_divides_66 : decode cX3_divides 66 = .ok (.invokevirtual 69, 3) := by decide +kernel
theorem dX3_divides_69 : decode cX3_divides 69 = .ok (.ifCond .eq 12, 3) := by decide +kernel
theorem dX3_divides_72 : decode cX3_divides 72 = .ok (.iinc 5 1, 3) := by decide +kernel
theorem dX3_divides_75 : decode cX3_divides 75 = .ok (.aload_n 0, 1) := by decide +kernel
theorem dX3_divides_76 : decode cX3_divides 76 = .ok (.iload_n 3, 1) := by decide +kernel
theorem dX3_divides_77 : decode cX3_divides 77 = .ok (.iload_n 2, 1) := by decide +kernel
theorem dX3_divides_78 : decode cX3_divides 78 = .ok (.invokevirtual 72, 3) := by decide +kernel
theorem dX3_divides_81 : decode cX3_divides 81 = .ok (.iinc 6 1, 3) := by decide +kernel
theorem dX3_divides_84 : decode cX3_divides 84 = .ok (.goto (-40), 3) := by decide +kernel
theorem dX3_divides_87 : decode cX3_divides 87 = .ok (.iload 5, 2) := by decide +kernel
theorem dX3_divides_89 : decode cX3_divides 89 = .ok (.ireturn, 1) := by decide +kernel
theorem dX3_notes_0 : decode cX3_notes 0 = .ok (.aload_n 0, 1) := by decide +kernel
theorem dX3_notes_1 : decode cX3_notes 1 = .ok (.getfield 26, 3) := by decide +kernel
theorem dX3_notes_4 : decode cX3_notes 4 = .ok (.iload_n 1, 1) := by decide +kernel
theorem dX3_notes_5 : decode cX3_notes 5 = .ok (.iload_n 2, 1) := by decide +kernel
theorem dX3_notes_6 : decode cX3_notes 6 = .ok (.invokestatic 55, 3) := by decide +kernel
theorem dX3_notes_9 : decode cX3_notes 9 = .ok (.istore_n 3, 1) := by decide +kernel
theorem dX3_notes_10 : decode cX3_notes 10 = .ok (.iload_n 3, 1) := by decide +kernel
theorem dX3_notes_11 : decode cX3_notes 11 = .ok (.aload_n 0, 1) := by decide +kernel
theorem dX3_notes_12 : decode cX3_notes 12 = .ok (.getfield 62, 3) := by decide +kernel
theorem dX3_notes_15 : decode cX3_notes 15 = .ok (.if_icmp .le 48, 3) := by decide +kernel
theorem dX3_notes_18 : decode cX3_notes 18 = .ok (.aload_n 0, 1) := by decide +kernel
theorem dX3_notes_19 : decode cX3_notes 19 = .ok (.iload_n 3, 1) := by decide +kernel
theorem dX3_notes_20 : decode cX3_notes 20 = .ok (.putfield 62, 3) := by decide +kernel
theorem dX3_notes_23 : decode cX3_notes 23 = .ok (.iconst 0, 1) := by decide +kernel
theorem dX3_notes_24 : decode cX3_notes 24 = .ok (.istore 4, 2) := by decide +kernel
theorem dX3_notes_26 : decode cX3_notes 26 = .ok (.iload 4, 2) := by decide +kernel
theorem dX3_notes_28 : decode cX3_notes 28 = .ok (.bipush 9, 2) := by decide +kernel
theorem dX3_notes_30 : decode cX3_notes 30 = .ok (.if_icmp .ge 33, 3) := by decide +kernel
theorem dX3_notes_33 : decode cX3_notes 33 = .ok (.aload_n 0, 1) := by decide +kernel
theorem dX3_notes_34 : decode cX3_notes 34 = .ok (.getfield 29, 3) := by decide +kernel
theorem dX3_notes_37 : decode cX3_notes 37 = .ok (.iload 4, 2) := by decide +kernel
theorem dX3_notes_39 : decode cX3_notes 39 = .ok (.iload 4, 2) := by decide +kernel
theorem dX3_notes_41 : decode cX3_notes 41 = .ok (.iload_n 1, 1) := by decide +kernel
theorem dX3_notes_42 : decode cX3_notes 42 = .ok (.if_icmp .gt 13, 3) := by decide +kernel
theorem dX3_notes_45 : decode cX3_notes 45 = .ok (.aload_n 0, 1) := by decide +kernel
theorem dX3_notes_46 : decode cX3_notes 46 = .ok (.getfield 26, 3) := by decide +kernel
theorem dX3_notes_49 : decode cX3_notes 49 = .ok (.iload 4, 2) := by decide +kernel
theorem dX3_notes_51 : decode cX3_notes 51 = .ok (.iaload, 1) := by decide +kernel
theorem dX3_notes_52 : decode cX3_notes 52 = .ok (.goto 4, 3) := by decide +kernel
theorem dX3_notes_55 : decode cX3_notes 55 = .ok (.iconst 0, 1) := by decide +kernel
theorem dX3_notes_56 : decode cX3_notes 56 = .ok (.iastore, 1) := by decide +kernel
theorem dX3_notes_57 : decode cX3_notes 57 = .ok (.iinc 4 1, 3) := by decide +kernel
theorem dX3_notes_60 : decode cX3_notes 60 = .ok (.goto (-34), 3) := by decide +kernel
theorem dX3_notes_63 : decode cX3_notes 63 = .ok (.return_, 1) := by decide +kernel
theorem dX3_form_0 : decode cX3_form 0 = .ok (.iconst 0, 1) := by decide +kernel
theorem dX3_form_1 : decode cX3_form 1 = .ok (.istore_n 1, 1) := by decide +kernel
theorem dX3_form_2 : decode cX3_form 2 = .ok (.bipush 8, 2) := by decide +kernel
theorem dX3_form_4 : decode cX3_form 4 = .ok (.istore_n 2, 1) := by decide +kernel
theorem dX3_form_5 : decode cX3_form 5 = .ok (.iload_n 2, 1) := by decide +kernel
theorem dX3_form_6 : decode cX3_form 6 = .ok (.ifCond .lt 19, 3) := by decide +kernel
theorem dX3_form_9 : decode cX3_form 9 = .ok (.iconst 3, 1) := by decide +kernel
theorem dX3_form_10 : decode cX3_form 10 = .ok (.iload_n 1, 1) := by decide +kernel
theorem dX3_form_11 : decode cX3_form 11 = .ok (.imul, 1) := by decide +kernel
theorem dX3_form_12 : decode cX3_form 12 = .ok (.aload_n 0, 1) := by decide +kernel
theorem dX3_form_13 : decode cX3_form 13 = .ok (.iload_n 2, 1) := by decide +kernel
theorem dX3_form_14 : decode cX3_form 14 = .ok (.iaload, 1) := by decide +kernel
theorem dX3_form_15 : decode cX3_form 15 = .ok (.iadd, 1) := by decide +kernel
theorem dX3_form_16 : decode cX3_form 16 = .ok (.iconst 1, 1) := by decide +kernel
theorem dX3_form_17 : decode cX3_form 17 = .ok (.iadd, 1) := by decide +kernel
theorem dX3_form_18 : decode cX3_form 18 = .ok (.istore_n 1, 1) := by decide +kernel
theorem dX3_form_19 : decode cX3_form 19 = .ok (.iinc 2 (-1), 3) := by decide +kernel
theorem dX3_form_22 : decode cX3_form 22 = .ok (.goto (-17), 3) := by decide +kernel
theorem dX3_form_25 : decode cX3_form 25 = .ok (.iload_n 1, 1) := by decide +kernel
theorem dX3_form_26 : decode cX3_form 26 = .ok (.ireturn, 1) := by decide +kernel
theorem dX3_put_0 : decode cX3_put 0 = .ok (.aload_n 0, 1) := by decide +kernel
theorem dX3_put_1 : decode cX3_put 1 = .ok (.iconst 0, 1) := by decide +kernel
theorem dX3_put_2 : decode cX3_put 2 = .ok (.putfield 36, 3) := by decide +kernel
theorem dX3_put_5 : decode cX3_put 5 = .ok (.iload_n 1, 1) := by decide +kernel
theorem dX3_put_6 : decode cX3_put 6 = .ok (.invokestatic 75, 3) := by decide +kernel
theorem dX3_put_9 : decode cX3_put 9 = .ok (.ifCond .ne 9, 3) := by decide +kernel
theorem dX3_put_12 : decode cX3_put 12 = .ok (.aload_n 0, 1) := by decide +kernel
theorem dX3_put_13 : decode cX3_put 13 = .ok (.iconst 1, 1) := by decide +kernel
theorem dX3_put_14 : decode cX3_put 14 = .ok (.invokevirtual 79, 3) := by decide +kernel
theorem dX3_put_17 : decode cX3_put 17 = .ok (.ireturn, 1) := by decide +kernel
theorem dX3_put_18 : decode cX3_put 18 = .ok (.iload_n 2, 1) := by decide +kernel
theorem dX3_put_19 : decode cX3_put 19 = .ok (.iconst 0, 1) := by decide +kernel
theorem dX3_put_20 : decode cX3_put 20 = .ok (.bipush 8, 2) := by decide +kernel
theorem dX3_put_22 : decode cX3_put 22 = .ok (.invokestatic 40, 3) := by decide +kernel
theorem dX3_put_25 : decode cX3_put 25 = .ok (.ifCond .eq 10, 3) := by decide +kernel
theorem dX3_put_28 : decode cX3_put 28 = .ok (.iload_n 3, 1) := by decide +kernel
theorem dX3_put_29 : decode cX3_put 29 = .ok (.invokestatic 82, 3) := by decide +kernel
theorem dX3_put_32 : decode cX3_put 32 = .ok (.ifCond .ne 9, 3) := by decide +kernel
theorem dX3_put_35 : decode cX3_put 35 = .ok (.aload_n 0, 1) := by decide +kernel
theorem dX3_put_36 : decode cX3_put 36 = .ok (.iconst 2, 1) := by decide +kernel
theorem dX3_put_37 : decode cX3_put 37 = .ok (.invokevirtual 79, 3) := by decide +kernel
theorem dX3_put_40 : decode cX3_put 40 = .ok (.ireturn, 1) := by decide +kernel
theorem dX3_put_41 : decode cX3_put 41 = .ok (.aload_n 0, 1) := by decide +kernel
theorem dX3_put_42 : decode cX3_put 42 = .ok (.invokevirtual 85, 3) := by decide +kernel
theorem dX3_put_45 : decode cX3_put 45 = .ok (.iconst 0, 1) := by decide +kernel
theorem dX3_put_46 : decode cX3_put 46 = .ok (.bipush 9, 2) := by decide +kernel
theorem dX3_put_48 : decode cX3_put 48 = .ok (.iload_n 1, 1) := by decide +kernel
theorem dX3_put_49 : decode cX3_put 49 = .ok (.imul, 1) := by decide +kernel
theorem dX3_put_50 : decode cX3_put 50 = .ok (.iadd, 1) := by decide +kernel
theorem dX3_put_51 : decode cX3_put 51 = .ok (.iload_n 2, 1) := by decide +kernel
theorem dX3_put_52 : decode cX3_put 52 = .ok (.iadd, 1) := by decide +kernel
theorem dX3_put_53 : decode cX3_put 53 = .ok (.istore 4, 2) := by decide +kernel
theorem dX3_put_55 : decode cX3_put 55 = .ok (.aload_n 0, 1) := by decide +kernel
theorem dX3_put_56 : decode cX3_put 56 = .ok (.getfield 7, 3) := by decide +kernel
theorem dX3_put_59 : decode cX3_put 59 = .ok (.iload 4, 2) := by decide +kernel
theorem dX3_put_61 : decode cX3_put 61 = .ok (.iaload, 1) := by decide +kernel
theorem dX3_put_62 : decode cX3_put 62 = .ok (.istore 5, 2) := by decide +kernel
theorem dX3_put_64 : decode cX3_put 64 = .ok (.aload_n 0, 1) := by decide +kernel
theorem dX3_put_65 : decode cX3_put 65 = .ok (.getfield 7, 3) := by decide +kernel
theorem dX3_put_68 : decode cX3_put 68 = .ok (.iload 4, 2) := by decide +kernel
theorem dX3_put_70 : decode cX3_put 70 = .ok (.iload_n 3, 1) := by decide +kernel
theorem dX3_put_71 : decode cX3_put 71 = .ok (.iastore, 1) := by decide +kernel
theorem dX3_put_72 : decode cX3_put 72 = .ok (.aload_n 0, 1) := by decide +kernel
theorem dX3_put_73 : decode cX3_put 73 = .ok (.iload_n 1, 1) := by decide +kernel
theorem dX3_put_74 : decode cX3_put 74 = .ok (.aload_n 0, 1) := by decide +kernel
theorem dX3_put_75 : decode cX3_put 75 = .ok (.iload_n 1, 1) := by decide +kernel
theorem dX3_put_76 : decode cX3_put 76 = .ok (.invokevirtual 51, 3) := by decide +kernel
theorem dX3_put_79 : decode cX3_put 79 = .ok (.invokevirtual 44, 3) := by decide +kernel
theorem dX3_put_82 : decode cX3_put 82 = .ok (.ifCond .ne 19, 3) := by decide +kernel
theorem dX3_put_85 : decode cX3_put 85 = .ok (.aload_n 0, 1) := by decide +kernel
theorem dX3_put_86 : decode cX3_put 86 = .ok (.getfield 7, 3) := by decide +kernel
theorem dX3_put_89 : decode cX3_put 89 = .ok (.iload 4, 2) := by decide +kernel
theorem dX3_put_91 : decode cX3_put 91 = .ok (.iload 5, 2) := by decide +kernel
theorem dX3_put_93 : decode cX3_put 93 = .ok (.iastore, 1) := by decide +kernel
theorem dX3_put_94 : decode cX3_put 94 = .ok (.aload_n 0, 1) := by decide +kernel
theorem dX3_put_95 : decode cX3_put 95 = .ok (.bipush (-9), 2) := by decide +kernel
theorem dX3_put_97 : decode cX3_put 97 = .ok (.invokevirtual 88, 3) := by decide +kernel
theorem dX3_put_100 : decode cX3_put 100 = .ok (.ireturn, 1) := by decide +kernel
theorem dX3_put_101 : decode cX3_put 101 = .ok (.aload_n 0, 1) := by decide +kernel
theorem dX3_put_102 : decode cX3_put 102 = .ok (.iload_n 1, 1) := by decide +kernel
theorem dX3_put_103 : decode cX3_put 103 = .ok (.invokevirtual 51, 3) := by decide +kernel
theorem dX3_put_106 : decode cX3_put 106 = .ok (.ireturn, 1) := by decide +kernel
theorem dX3_copy_0 : decode cX3_copy 0 = .ok (.aload_n 0, 1) := by decide +kernel
theorem dX3_copy_1 : decode cX3_copy 1 = .ok (.iconst 0, 1) := by decide +kernel
theorem dX3_copy_2 : decode cX3_copy 2 = .ok (.putfield 36, 3) := by decide +kernel
theorem dX3_copy_5 : decode cX3_copy 5 = .ok (.iload_n 1, 1) := by decide +kernel
theorem dX3_copy_6 : decode cX3_copy 6 = .ok (.invokestatic 75, 3) := by decide +kernel
theorem dX3_copy_9 : decode cX3_copy 9 = .ok (.ifCond .eq 10, 3) := by decide +kernel
theorem dX3_copy_12 : decode cX3_copy 12 = .ok (.iload_n 2, 1) := by decide +kernel
theorem dX3_copy_13 : decode cX3_copy 13 = .ok (.invokestatic 75, 3) := by decide +kernel
theorem dX3_copy_16 : decode cX3_copy 16 = .ok (.ifCond .ne 9, 3) := by decide +kernel
theorem dX3_copy_19 : decode cX3_copy 19 = .ok (.aload_n 0, 1) := by decide +kernel
theorem dX3_copy_20 : decode cX3_copy 20 = .ok (.iconst 1, 1) := by decide +kernel
theorem dX3_copy_21 : decode cX3_copy 21 = .ok (.invokevirtual 79, 3) := by decide +kernel
theorem dX3_copy_24 : decode cX3_copy 24 = .ok (.ireturn, 1) := by decide +kernel
theorem dX3_copy_25 : decode cX3_copy 25 = .ok (.aload_n 0, 1) := by decide +kernel
theorem dX3_copy_26 : decode cX3_copy 26 = .ok (.invokevirtual 85, 3) := by decide +kernel
theorem dX3_copy_29 : decode cX3_copy 29 = .ok (.iconst 0, 1) := by decide +kernel
theorem dX3_copy_30 : decode cX3_copy 30 = .ok (.istore_n 3, 1) := by decide +kernel
theorem dX3_copy_31 : decode cX3_copy 31 = .ok (.iload_n 3, 1) := by decide +kernel
theorem dX3_copy_32 : decode cX3_copy 32 = .ok (.bipush 9, 2) := by decide +kernel
theorem dX3_copy_34 : decode cX3_copy 34 = .ok (.if_icmp .ge 35, 3) := by decide +kernel
theorem dX3_copy_37 : decode cX3_copy 37 = .ok (.aload_n 0, 1) := by decide +kernel
theorem dX3_copy_38 : decode cX3_copy 38 = .ok (.getfield 7, 3) := by decide +kernel
theorem dX3_copy_41 : decode cX3_copy 41 = .ok (.iconst 0, 1) := by decide +kernel
theorem dX3_copy_42 : decode cX3_copy 42 = .ok (.bipush 9, 2) := by decide +kernel
theorem dX3_copy_44 : decode cX3_copy 44 = .ok (.iload_n 2, 1) := by decide +kernel
theorem dX3_copy_45 : decode cX3_copy 45 = .ok (.imul, 1) := by decide +kernel
theorem dX3_copy_46 : decode cX3_copy 46 = .ok (.iadd, 1) := by decide +kernel
theorem dX3_copy_47 : decode cX3_copy 47 = .ok (.iload_n 3, 1) := by decide +kernel
theorem dX3_copy_48 : decode cX3_copy 48 = .ok (.iadd, 1) := by decide +kernel
theorem dX3_copy_49 : decode cX3_copy 49 = .ok (.aload_n 0, 1) := by decide +kernel
theorem dX3_copy_50 : decode cX3_copy 50 = .ok (.getfield 7, 3) := by decide +kernel
theorem dX3_copy_53 : decode cX3_copy 53 = .ok (.iconst 0, 1) := by decide +kernel
theorem dX3_copy_54 : decode cX3_copy 54 = .ok (.bipush 9, 2) := by decide +kernel
theorem dX3_copy_56 : decode cX3_copy 56 = .ok (.iload_n 1, 1) := by decide +kernel
theorem dX3_copy_57 : decode cX3_copy 57 = .ok (.imul, 1) := by decide +kernel
theorem dX3_copy_58 : decode cX3_copy 58 = .ok (.iadd, 1) := by decide +kernel
theorem dX3_copy_59 : decode cX3_copy 59 = .ok (.iload_n 3, 1) := by decide +kernel
theorem dX3_copy_60 : decode cX3_copy 60 = .ok (.iadd, 1) := by decide +kernel
theorem dX3_copy_61 : decode cX3_copy 61 = .ok (.iaload, 1) := by decide +kernel
theorem dX3_copy_62 : decode cX3_copy 62 = .ok (.iastore, 1) := by decide +kernel
theorem dX3_copy_63 : decode cX3_copy 63 = .ok (.iinc 3 1, 3) := by decide +kernel
theorem dX3_copy_66 : decode cX3_copy 66 = .ok (.goto (-35), 3) := by decide +kernel
theorem dX3_copy_69 : decode cX3_copy 69 = .ok (.aload_n 0, 1) := by decide +kernel
theorem dX3_copy_70 : decode cX3_copy 70 = .ok (.iload_n 2, 1) := by decide +kernel
theorem dX3_copy_71 : decode cX3_copy 71 = .ok (.invokevirtual 51, 3) := by decide +kernel
theorem dX3_copy_74 : decode cX3_copy 74 = .ok (.ireturn, 1) := by decide +kernel
theorem dX3_divide_0 : decode cX3_divide 0 = .ok (.aload_n 0, 1) := by decide +kernel
theorem dX3_divide_1 : decode cX3_divide 1 = .ok (.iconst 0, 1) := by decide +kernel
theorem dX3_divide_2 : decode cX3_divide 2 = .ok (.putfield 36, 3) := by decide +kernel
theorem dX3_divide_5 : decode cX3_divide 5 = .ok (.iload_n 1, 1) := by decide +kernel
theorem dX3_divide_6 : decode cX3_divide 6 = .ok (.invokestatic 75, 3) := by decide +kernel
theorem dX3_divide_9 : decode cX3_divide 9 = .ok (.ifCond .ne 9, 3) := by decide +kernel
theorem dX3_divide_12 : decode cX3_divide 12 = .ok (.aload_n 0, 1) := by decide +kernel
theorem dX3_divide_13 : decode cX3_divide 13 = .ok (.iconst 1, 1) := by decide +kernel
theorem dX3_divide_14 : decode cX3_divide 14 = .ok (.invokevirtual 79, 3) := by decide +kernel
theorem dX3_divide_17 : decode cX3_divide 17 = .ok (.ireturn, 1) := by decide +kernel
theorem dX3_divide_18 : decode cX3_divide 18 = .ok (.iload_n 2, 1) := by decide +kernel
theorem dX3_divide_19 : decode cX3_divide 19 = .ok (.invokestatic 82, 3) := by decide +kernel
theorem dX3_divide_22 : decode cX3_divide 22 = .ok (.ifCond .ne 9, 3) := by decide +kernel
theorem dX3_divide_25 : decode cX3_divide 25 = .ok (.aload_n 0, 1) := by decide +kernel
theorem dX3_divide_26 : decode cX3_divide 26 = .ok (.iconst 2, 1) := by decide +kernel
theorem dX3_divide_27 : decode cX3_divide 27 = .ok (.invokevirtual 79, 3) := by decide +kernel
theorem dX3_divide_30 : decode cX3_divide 30 = .ok (.ireturn, 1) := by decide +kernel
theorem dX3_divide_31 : decode cX3_divide 31 = .ok (.aload_n 0, 1) := by decide +kernel
theorem dX3_divide_32 : decode cX3_divide 32 = .ok (.invokevirtual 85, 3) := by decide +kernel
theorem dX3_divide_35 : decode cX3_divide 35 = .ok (.aload_n 0, 1) := by decide +kernel
theorem dX3_divide_36 : decode cX3_divide 36 = .ok (.iload_n 1, 1) := by decide +kernel
theorem dX3_divide_37 : decode cX3_divide 37 = .ok (.iload_n 2, 1) := by decide +kernel
theorem dX3_divide_38 : decode cX3_divide 38 = .ok (.invokevirtual 91, 3) := by decide +kernel
theorem dX3_divide_41 : decode cX3_divide 41 = .ok (.ifCond .ne 10, 3) := by decide +kernel
theorem dX3_divide_44 : decode cX3_divide 44 = .ok (.aload_n 0, 1) := by decide +kernel
theorem dX3_divide_45 : decode cX3_divide 45 = .ok (.bipush (-9), 2) := by decide +kernel
theorem dX3_divide_47 : decode cX3_divide 47 = .ok (.invokevirtual 88, 3) := by decide +kernel
theorem dX3_divide_50 : decode cX3_divide 50 = .ok (.ireturn, 1) := by decide +kernel
theorem dX3_divide_51 : decode cX3_divide 51 = .ok (.iconst 0, 1) := by decide +kernel
theorem dX3_divide_52 : decode cX3_divide 52 = .ok (.istore_n 3, 1) := by decide +kernel
theorem dX3_divide_53 : decode cX3_divide 53 = .ok (.iload_n 3, 1) := by decide +kernel
theorem dX3_divide_54 : decode cX3_divide 54 = .ok (.bipush 9, 2) := by decide +kernel
theorem dX3_divide_56 : decode cX3_divide 56 = .ok (.if_icmp .ge 28, 3) := by decide +kernel
theorem dX3_divide_59 : decode cX3_divide 59 = .ok (.aload_n 0, 1) := by decide +kernel
theorem dX3_divide_60 : decode cX3_divide 60 = .ok (.getfield 7, 3) := by decide +kernel
theorem dX3_divide_63 : decode cX3_divide 63 = .ok (.iconst 0, 1) := by decide +kernel
theorem dX3_divide_64 : decode cX3_divide 64 = .ok (.bipush 9, 2) := by decide +kernel
theorem dX3_divide_66 : decode cX3_divide 66 = .ok (.iload_n 1, 1) := by decide +kernel
theorem dX3_divide_67 : decode cX3_divide 67 = .ok (.imul, 1) := by decide +kernel
theorem dX3_divide_68 : decode cX3_divide 68 = .ok (.iadd, 1) := by decide +kernel
theorem dX3_divide_69 : decode cX3_divide 69 = .ok (.iload_n 3, 1) := by decide +kernel
theorem dX3_divide_70 : decode cX3_divide 70 = .ok (.iadd, 1) := by decide +kernel
theorem dX3_divide_71 : decode cX3_divide 71 = .ok (.aload_n 0, 1) := by decide +kernel
theorem dX3_divide_72 : decode cX3_divide 72 = .ok (.getfield 29, 3) := by decide +kernel
theorem dX3_divide_75 : decode cX3_divide 75 = .ok (.iload_n 3, 1) := by decide +kernel
theorem dX3_divide_76 : decode cX3_divide 76 = .ok (.iaload, 1) := by decide +kernel
theorem dX3_divide_77 : decode cX3_divide 77 = .ok (.iastore, 1) := by decide +kernel
theorem dX3_divide_78 : decode cX3_divide 78 = .ok (.iinc 3 1, 3) := by decide +kernel
theorem dX3_divide_81 : decode cX3_divide 81 = .ok (.goto (-28), 3) := by decide +kernel
theorem dX3_divide_84 : decode cX3_divide 84 = .ok (.aload_n 0, 1) := by decide +kernel
theorem dX3_divide_85 : decode cX3_divide 85 = .ok (.getfield 7, 3) := by decide +kernel
theorem dX3_divide_88 : decode cX3_divide 88 = .ok (.bipush 54, 2) := by decide +kernel
theorem dX3_divide_90 : decode cX3_divide 90 = .ok (.dup2, 1) := by decide +kernel
theorem dX3_divide_91 : decode cX3_divide 91 = .ok (.iaload, 1) := by decide +kernel
theorem dX3_divide_92 : decode cX3_divide 92 = .ok (.iconst 1, 1) := by decide +kernel
theorem dX3_divide_93 : decode cX3_divide 93 = .ok (.iadd, 1) := by decide +kernel
theorem dX3_divide_94 : decode cX3_divide 94 = .ok (.iastore, 1) := by decide +kernel
theorem dX3_divide_95 : decode cX3_divide 95 = .ok (.aload_n 0, 1) := by decide +kernel
theorem dX3_divide_96 : decode cX3_divide 96 = .ok (.iload_n 1, 1) := by decide +kernel
theorem dX3_divide_97 : decode cX3_divide 97 = .ok (.invokevirtual 51, 3) := by decide +kernel
theorem dX3_divide_100 : decode cX3_divide 100 = .ok (.ireturn, 1) := by decide +kernel
theorem dX3_root_0 : decode cX3_root 0 = .ok (.aload_n 0, 1) := by decide +kernel
theorem dX3_root_1 : decode cX3_root 1 = .ok (.iconst 0, 1) := by decide +kernel
theorem dX3_root_2 : decode cX3_root 2 = .ok (.putfield 36, 3) := by decide +kernel
theorem dX3_root_5 : decode cX3_root 5 = .ok (.iload_n 1, 1) := by decide +kernel
theorem dX3_root_6 : decode cX3_root 6 = .ok (.bipush (-9), 2) := by decide +kernel
theorem dX3_root_8 : decode cX3_root 8 = .ok (.bipush 9, 2) := by decide +kernel
theorem dX3_root_10 : decode cX3_root 10 = .ok (.invokestatic 40, 3) := by decide +kernel
theorem dX3_root_13 : decode cX3_root 13 = .ok (.ifCond .ne 9, 3) := by decide +kernel
theorem dX3_root_16 : decode cX3_root 16 = .ok (.aload_n 0, 1) := by decide +kernel
theorem dX3_root_17 : decode cX3_root 17 = .ok (.iconst 1, 1) := by decide +kernel
theorem dX3_root_18 : decode cX3_root 18 = .ok (.invokevirtual 79, 3) := by decide +kernel
theorem dX3_root_21 : decode cX3_root 21 = .ok (.ireturn, 1) := by decide +kernel
theorem dX3_root_22 : decode cX3_root 22 = .ok (.aload_n 0, 1) := by decide +kernel
theorem dX3_root_23 : decode cX3_root 23 = .ok (.invokevirtual 85, 3) := by decide +kernel
theorem dX3_root_26 : decode cX3_root 26 = .ok (.aload_n 0, 1) := by decide +kernel
theorem dX3_root_27 : decode cX3_root 27 = .ok (.getfield 7, 3) := by decide +kernel
theorem dX3_root_30 : decode cX3_root 30 = .ok (.bipush 45, 2) := by decide +kernel
theorem dX3_root_32 : decode cX3_root 32 = .ok (.iaload, 1) := by decide +kernel
theorem dX3_root_33 : decode cX3_root 33 = .ok (.bipush 8, 2) := by decide +kernel
theorem dX3_root_35 : decode cX3_root 35 = .ok (.if_icmp .ne 10, 3) := by decide +kernel
theorem dX3_root_38 : decode cX3_root 38 = .ok (.aload_n 0, 1) := by decide +kernel
theorem dX3_root_39 : decode cX3_root 39 = .ok (.bipush (-9), 2) := by decide +kernel
theorem dX3_root_41 : decode cX3_root 41 = .ok (.invokevirtual 88, 3) := by decide +kernel
theorem dX3_root_44 : decode cX3_root 44 = .ok (.ireturn, 1) := by decide +kernel
theorem dX3_root_45 : decode cX3_root 45 = .ok (.aload_n 0, 1) := by decide +kernel
theorem dX3_root_46 : decode cX3_root 46 = .ok (.getfield 7, 3) := by decide +kernel
theorem dX3_root_49 : decode cX3_root 49 = .ok (.bipush 46, 2) := by decide +kernel
theorem dX3_root_51 : decode cX3_root 51 = .ok (.aload_n 0, 1) := by decide +kernel
theorem dX3_root_52 : decode cX3_root 52 = .ok (.getfield 7, 3) := by decide +kernel
theorem dX3_root_55 : decode cX3_root 55 = .ok (.bipush 45, 2) := by decide +kernel
theorem dX3_root_57 : decode cX3_root 57 = .ok (.iaload, 1) := by decide +kernel
theorem dX3_root_58 : decode cX3_root 58 = .ok (.iadd, 1) := by decide +kernel
theorem dX3_root_59 : decode cX3_root 59 = .ok (.iload_n 1, 1) := by decide +kernel
theorem dX3_root_60 : decode cX3_root 60 = .ok (.iastore, 1) := by decide +kernel
theorem dX3_root_61 : decode cX3_root 61 = .ok (.aload_n 0, 1) := by decide +kernel
theorem dX3_root_62 : decode cX3_root 62 = .ok (.getfield 7, 3) := by decide +kernel
theorem dX3_root_65 : decode cX3_root 65 = .ok (.bipush 45, 2) := by decide +kernel
theorem dX3_root_67 : decode cX3_root 67 = .ok (.dup2, 1) := by decide +kernel
theorem dX3_root_68 : decode cX3_root 68 = .ok (.iaload, 1) := by decide +kernel
theorem dX3_root_69 : decode cX3_root 69 = .ok (.iconst 1, 1) := by decide +kernel
theorem dX3_root_70 : decode cX3_root 70 = .ok (.iadd, 1) := by decide +kernel
theorem dX3_root_71 : decode cX3_root 71 = .ok (.iastore, 1) := by decide +kernel
theorem dX3_root_72 : decode cX3_root 72 = .ok (.aload_n 0, 1) := by decide +kernel
theorem dX3_root_73 : decode cX3_root 73 = .ok (.getfield 7, 3) := by decide +kernel
theorem dX3_root_76 : decode cX3_root 76 = .ok (.bipush 45, 2) := by decide +kernel
theorem dX3_root_78 : decode cX3_root 78 = .ok (.iaload, 1) := by decide +kernel
theorem dX3_root_79 : decode cX3_root 79 = .ok (.ireturn, 1) := by decide +kernel
theorem dX3_unroot_0 : decode cX3_unroot 0 = .ok (.aload_n 0, 1) := by decide +kernel
theorem dX3_unroot_1 : decode cX3_unroot 1 = .ok (.iconst 0, 1) := by decide +kernel
theorem dX3_unroot_2 : decode cX3_unroot 2 = .ok (.putfield 36, 3) := by decide +kernel
theorem dX3_unroot_5 : decode cX3_unroot 5 = .ok (.aload_n 0, 1) := by decide +kernel
theorem dX3_unroot_6 : decode cX3_unroot 6 = .ok (.invokevirtual 85, 3) := by decide +kernel
theorem dX3_unroot_9 : decode cX3_unroot 9 = .ok (.aload_n 0, 1) := by decide +kernel
theorem dX3_unroot_10 : decode cX3_unroot 10 = .ok (.getfield 7, 3) := by decide +kernel
theorem dX3_unroot_13 : decode cX3_unroot 13 = .ok (.bipush 45, 2) := by decide +kernel
theorem dX3_unroot_15 : decode cX3_unroot 15 = .ok (.iaload, 1) := by decide +kernel
theorem dX3_unroot_16 : decode cX3_unroot 16 = .ok (.ifCond .ne 10, 3) := by decide +kernel
theorem dX3_unroot_19 : decode cX3_unroot 19 = .ok (.aload_n 0, 1) := by decide +kernel
theorem dX3_unroot_20 : decode cX3_unroot 20 = .ok (.bipush 99, 2) := by decide +kernel
theorem dX3_unroot_22 : decode cX3_unroot 22 = .ok (.invokevirtual 88, 3) := by decide +kernel
theorem dX3_unroot_25 : decode cX3_unroot 25 = .ok (.ireturn, 1) := by decide +kernel
theorem dX3_unroot_26 : decode cX3_unroot 26 = .ok (.aload_n 0, 1) := by decide +kernel
theorem dX3_unroot_27 : decode cX3_unroot 27 = .ok (.getfield 7, 3) := by decide +kernel
theorem dX3_unroot_30 : decode cX3_unroot 30 = .ok (.bipush 45, 2) := by decide +kernel
theorem dX3_unroot_32 : decode cX3_unroot 32 = .ok (.dup2, 1) := by decide +kernel
theorem dX3_unroot_33 : decode cX3_unroot 33 = .ok (.iaload, 1) := by decide +kernel
theorem dX3_unroot_34 : decode cX3_unroot 34 = .ok (.iconst 1, 1) := by decide +kernel
theorem dX3_unroot_35 : decode cX3_unroot 35 = .ok (.isub, 1) := by decide +kernel
theorem dX3_unroot_36 : decode cX3_unroot 36 = .ok (.iastore, 1) := by decide +kernel
theorem dX3_unroot_37 : decode cX3_unroot 37 = .ok (.aload_n 0, 1) := by decide +kernel
theorem dX3_unroot_38 : decode cX3_unroot 38 = .ok (.getfield 7, 3) := by decide +kernel
theorem dX3_unroot_41 : decode cX3_unroot 41 = .ok (.bipush 46, 2) := by decide +kernel
theorem dX3_unroot_43 : decode cX3_unroot 43 = .ok (.aload_n 0, 1) := by decide +kernel
theorem dX3_unroot_44 : decode cX3_unroot 44 = .ok (.getfield 7, 3) := by decide +kernel
theorem dX3_unroot_47 : decode cX3_unroot 47 = .ok (.bipush 45, 2) := by decide +kernel
theorem dX3_unroot_49 : decode cX3_unroot 49 = .ok (.iaload, 1) := by decide +kernel
theorem dX3_unroot_50 : decode cX3_unroot 50 = .ok (.iadd, 1) := by decide +kernel
theorem dX3_unroot_51 : decode cX3_unroot 51 = .ok (.iaload, 1) := by decide +kernel
theorem dX3_unroot_52 : decode cX3_unroot 52 = .ok (.istore_n 1, 1) := by decide +kernel
theorem dX3_unroot_53 : decode cX3_unroot 53 = .ok (.aload_n 0, 1) := by decide +kernel
theorem dX3_unroot_54 : decode cX3_unroot 54 = .ok (.getfield 7, 3) := by decide +kernel
theorem dX3_unroot_57 : decode cX3_unroot 57 = .ok (.bipush 46, 2) := by decide +kernel
theorem dX3_unroot_59 : decode cX3_unroot 59 = .ok (.aload_n 0, 1) := by decide +kernel
theorem dX3_unroot_60 : decode cX3_unroot 60 = .ok (.getfield 7, 3) := by decide +kernel
theorem dX3_unroot_63 : decode cX3_unroot 63 = .ok (.bipush 45, 2) := by decide +kernel
theorem dX3_unroot_65 : decode cX3_unroot 65 = .ok (.iaload, 1) := by decide +kernel
theorem dX3_unroot_66 : decode cX3_unroot 66 = .ok (.iadd, 1) := by decide +kernel
theorem dX3_unroot_67 : decode cX3_unroot 67 = .ok (.iconst 0, 1) := by decide +kernel
theorem dX3_unroot_68 : decode cX3_unroot 68 = .ok (.iastore, 1) := by decide +kernel
theorem dX3_unroot_69 : decode cX3_unroot 69 = .ok (.iload_n 1, 1) := by decide +kernel
theorem dX3_unroot_70 : decode cX3_unroot 70 = .ok (.ireturn, 1) := by decide +kernel
theorem dX3_multiplies_0 : decode cX3_multiplies 0 = .ok (.iconst 0, 1) := by decide +kernel
theorem dX3_multiplies_1 : decode cX3_multiplies 1 = .ok (.istore_n 1, 1) := by decide +kernel
theorem dX3_multiplies_2 : decode cX3_multiplies 2 = .ok (.iload_n 1, 1) := by decide +kernel
theorem dX3_multiplies_3 : decode cX3_multiplies 3 = .ok (.bipush 9, 2) := by decide +kernel
theorem dX3_multiplies_5 : decode cX3_multiplies 5 = .ok (.if_icmp .ge 16, 3) := by decide +kernel
theorem dX3_multiplies_8 : decode cX3_multiplies 8 = .ok (.aload_n 0, 1) := by decide +kernel
theorem dX3_multiplies_9 : decode cX3_multiplies 9 = .ok (.getfield 32, 3) := by decide +kernel
theorem dX3_multiplies_12 : decode cX3_multiplies 12 = .ok (.iload_n 1, 1) := by decide +kernel
theorem dX3_multiplies_13 : decode cX3_multiplies 13 = .ok (.lconst 0, 1) := by decide +kernel
theorem dX3_multiplies_14 : decode cX3_multiplies 14 = .ok (.lastore, 1) := by decide +kernel
theorem dX3_multiplies_15 : decode cX3_multiplies 15 = .ok (.iinc 1 1, 3) := by decide +kernel
theorem dX3_multiplies_18 : decode cX3_multiplies 18 = .ok (.goto (-16), 3) := by decide +kernel
theorem dX3_multiplies_21 : decode cX3_multiplies 21 = .ok (.aload_n 0, 1) := by decide +kernel
theorem dX3_multiplies_22 : decode cX3_multiplies 22 = .ok (.getfield 32, 3) := by decide +kernel
theorem dX3_multiplies_25 : decode cX3_multiplies 25 = .ok (.iconst 0, 1) := by decide +kernel
theorem dX3_multiplies_26 : decode cX3_multiplies 26 = .ok (.lconst 1, 1) := by decide +kernel
theorem dX3_multiplies_27 : decode cX3_multiplies 27 = .ok (.lastore, 1) := by decide +kernel
theorem dX3_multiplies_28 : decode cX3_multiplies 28 = .ok (.iconst 0, 1) := by decide +kernel
theorem dX3_multiplies_29 : decode cX3_multiplies 29 = .ok (.istore_n 1, 1) := by decide +kernel
theorem dX3_multiplies_30 : decode cX3_multiplies 30 = .ok (.iload_n 1, 1) := by decide +kernel
theorem dX3_multiplies_31 : decode cX3_multiplies 31 = .ok (.aload_n 0, 1) := by decide +kernel
theorem dX3_multiplies_32 : decode cX3_multiplies 32 = .ok (.getfield 7, 3) := by decide +kernel
theorem dX3_multiplies_35 : decode cX3_multiplies 35 = .ok (.bipush 45, 2) := by decide +kernel
theorem dX3_multiplies_37 : decode cX3_multiplies 37 = .ok (.iaload, 1) := by decide +kernel
theorem dX3_multiplies_38 : decode cX3_multiplies 38 = .ok (.if_icmp .ge 62, 3) := by decide +kernel
theorem dX3_multiplies_41 : decode cX3_multiplies 41 = .ok (.bipush 8, 2) := by decide +kernel
theorem dX3_multiplies_43 : decode cX3_multiplies 43 = .ok (.istore_n 2, 1) := by decide +kernel
theorem dX3_multiplies_44 : decode cX3_multiplies 44 = .ok (.iload_n 2, 1) := by decide +kernel
theorem dX3_multiplies_45 : decode cX3_multiplies 45 = .ok (.ifCond .lt 49, 3) := by decide +kernel
theorem dX3_multiplies_48 : decode cX3_multiplies 48 = .ok (.aload_n 0, 1) := by decide +kernel
theorem dX3_multiplies_49 : decode cX3_multiplies 49 = .ok (.getfield 32, 3) := by decide +kernel
theorem dX3_multiplies_52 : decode cX3_multiplies 52 = .ok (.iload_n 2, 1) := by decide +kernel
theorem dX3_multiplies_53 : decode cX3_multiplies 53 = .ok (.iload_n 2, 1) := by decide +kernel
theorem dX3_multiplies_54 : decode cX3_multiplies 54 = .ok (.ifCond .ne 7, 3) := by decide +kernel
theorem dX3_multiplies_57 : decode cX3_multiplies 57 = .ok (.lconst 0, 1) := by decide +kernel
theorem dX3_multiplies_58 : decode cX3_multiplies 58 = .ok (.goto 11, 3) := by decide +kernel
theorem dX3_multiplies_61 : decode cX3_multiplies 61 = .ok (.aload_n 0, 1) := by decide +kernel
theorem dX3_multiplies_62 : decode cX3_multiplies 62 = .ok (.getfield 32, 3) := by decide +kernel
theorem dX3_multiplies_65 : decode cX3_multiplies 65 = .ok (.iload_n 2, 1) := by decide +kernel
theorem dX3_multiplies_66 : decode cX3_multiplies 66 = .ok (.iconst 1, 1) := by decide +kernel
theorem dX3_multiplies_67 : decode cX3_multiplies 67 = .ok (.isub, 1) := by decide +kernel
theorem dX3_multiplies_68 : decode cX3_multiplies 68 = .ok (.laload, 1) := by decide +kernel
theorem dX3_multiplies_69 : decode cX3_multiplies 69 = .ok (.aload_n 0, 1) := by decide +kernel
theorem dX3_multiplies_70 : decode cX3_multiplies 70 = .ok (.getfield 7, 3) := by decide +kernel
theorem dX3_multiplies_73 : decode cX3_multiplies 73 = .ok (.bipush 46, 2) := by decide +kernel
theorem dX3_multiplies_75 : decode cX3_multiplies 75 = .ok (.iload_n 1, 1) := by decide +kernel
theorem dX3_multiplies_76 : decode cX3_multiplies 76 = .ok (.iadd, 1) := by decide +kernel
theorem dX3_multiplies_77 : decode cX3_multiplies 77 = .ok (.iaload, 1) := by decide +kernel
theorem dX3_multiplies_78 : decode cX3_multiplies 78 = .ok (.i2l, 1) := by decide +kernel
theorem dX3_multiplies_79 : decode cX3_multiplies 79 = .ok (.aload_n 0, 1) := by decide +kernel
theorem dX3_multiplies_80 : decode cX3_multiplies 80 = .ok (.getfield 32, 3) := by decide +kernel
theorem dX3_multiplies_83 : decode cX3_multiplies 83 = .ok (.iload_n 2, 1) := by decide +kernel
theorem dX3_multiplies_84 : decode cX3_multiplies 84 = .ok (.laload, 1) := by decide +kernel
theorem dX3_multiplies_85 : decode cX3_multiplies 85 = .ok (.lmul, 1) := by decide +kernel
theorem dX3_multiplies_86 : decode cX3_multiplies 86 = .ok (.lsub, 1) := by decide +kernel
theorem dX3_multiplies_87 : decode cX3_multiplies 87 = .ok (.lastore, 1) := by decide +kernel
theorem dX3_multiplies_88 : decode cX3_multiplies 88 = .ok (.iinc 2 (-1), 3) := by decide +kernel
theorem dX3_multiplies_91 : decode cX3_multiplies 91 = .ok (.goto (-47), 3) := by decide +kernel
theorem dX3_multiplies_94 : decode cX3_multiplies 94 = .ok (.iinc 1 1, 3) := by decide +kernel
theorem dX3_multiplies_97 : decode cX3_multiplies 97 = .ok (.goto (-67), 3) := by decide +kernel
theorem dX3_multiplies_100 : decode cX3_multiplies 100 = .ok (.return_, 1) := by decide +kernel
theorem dX3_lower_0 : decode cX3_lower 0 = .ok (.aload_n 0, 1) := by decide +kernel
theorem dX3_lower_1 : decode cX3_lower 1 = .ok (.iconst 0, 1) := by decide +kernel
theorem dX3_lower_2 : decode cX3_lower 2 = .ok (.putfield 36, 3) := by decide +kernel
theorem dX3_lower_5 : decode cX3_lower 5 = .ok (.iload_n 1, 1) := by decide +kernel
theorem dX3_lower_6 : decode cX3_lower 6 = .ok (.invokestatic 75, 3) := by decide +kernel
theorem dX3_lower_9 : decode cX3_lower 9 = .ok (.ifCond .ne 9, 3) := by decide +kernel
theorem dX3_lower_12 : decode cX3_lower 12 = .ok (.aload_n 0, 1) := by decide +kernel
theorem dX3_lower_13 : decode cX3_lower 13 = .ok (.iconst 1, 1) := by decide +kernel
theorem dX3_lower_14 : decode cX3_lower 14 = .ok (.invokevirtual 79, 3) := by decide +kernel
theorem dX3_lower_17 : decode cX3_lower 17 = .ok (.ireturn, 1) := by decide +kernel
theorem dX3_lower_18 : decode cX3_lower 18 = .ok (.aload_n 0, 1) := by decide +kernel
theorem dX3_lower_19 : decode cX3_lower 19 = .ok (.invokevirtual 85, 3) := by decide +kernel
theorem dX3_lower_22 : decode cX3_lower 22 = .ok (.aload_n 0, 1) := by decide +kernel
theorem dX3_lower_23 : decode cX3_lower 23 = .ok (.invokevirtual 94, 3) := by decide +kernel
theorem dX3_lower_26 : decode cX3_lower 26 = .ok (.iconst 0, 1) := by decide +kernel
theorem dX3_lower_27 : decode cX3_lower 27 = .ok (.istore_n 2, 1) := by decide +kernel
theorem dX3_lower_28 : decode cX3_lower 28 = .ok (.iload_n 2, 1) := by decide +kernel
theorem dX3_lower_29 : decode cX3_lower 29 = .ok (.bipush 9, 2) := by decide +kernel
theorem dX3_lower_31 : decode cX3_lower 31 = .ok (.if_icmp .ge 53, 3) := by decide +kernel
theorem dX3_lower_34 : decode cX3_lower 34 = .ok (.aload_n 0, 1) := by decide +kernel
theorem dX3_lower_35 : decode cX3_lower 35 = .ok (.getfield 7, 3) := by decide +kernel
theorem dX3_lower_38 : decode cX3_lower 38 = .ok (.iconst 0, 1) := by decide +kernel
theorem dX3_lower_39 : decode cX3_lower 39 = .ok (.bipush 9, 2) := by decide +kernel
theorem dX3_lower_41 : decode cX3_lower 41 = .ok (.iload_n 1, 1) := by decide +kernel
theorem dX3_lower_42 : decode cX3_lower 42 = .ok (.imul, 1) := by decide +kernel
theorem dX3_lower_43 : decode cX3_lower 43 = .ok (.iadd, 1) := by decide +kernel
theorem dX3_lower_44 : decode cX3_lower 44 = .ok (.iload_n 2, 1) := by decide +kernel
theorem dX3_lower_45 : decode cX3_lower 45 = .ok (.iadd, 1) := by decide +kernel
theorem dX3_lower_46 : decode cX3_lower 46 = .ok (.aload_n 0, 1) := by decide +kernel
theorem dX3_lower_47 : decode cX3_lower 47 = .ok (.getfield 32, 3) := by decide +kernel
theorem dX3_lower_50 : decode cX3_lower 50 = .ok (.iload_n 2, 1) := by decide +kernel
theorem dX3_lower_51 : decode cX3_lower 51 = .ok (.laload, 1) := by decide +kernel
theorem dX3_lower_52 : decode cX3_lower 52 = .ok (.lconst 0, 1) := by decide +kernel
theorem dX3_lower_53 : decode cX3_lower 53 = .ok (.lcmp, 1) := by decide +kernel
theorem dX3_lower_54 : decode cX3_lower 54 = .ok (.ifCond .le 7, 3) := by decide +kernel
theorem dX3_lower_57 : decode cX3_lower 57 = .ok (.iconst 1, 1) := by decide +kernel
theorem dX3_lower_58 : decode cX3_lower 58 = .ok (.goto 19, 3) := by decide +kernel
theorem dX3_lower_61 : decode cX3_lower 61 = .ok (.aload_n 0, 1) := by decide +kernel
theorem dX3_lower_62 : decode cX3_lower 62 = .ok (.getfield 32, 3) := by decide +kernel
theorem dX3_lower_65 : decode cX3_lower 65 = .ok (.iload_n 2, 1) := by decide +kernel
theorem dX3_lower_66 : decode cX3_lower 66 = .ok (.laload, 1) := by decide +kernel
theorem dX3_lower_67 : decode cX3_lower 67 = .ok (.lconst 0, 1) := by decide +kernel
theorem dX3_lower_68 : decode cX3_lower 68 = .ok (.lcmp, 1) := by decide +kernel
theorem dX3_lower_69 : decode cX3_lower 69 = .ok (.ifCond .ge 7, 3) := by decide +kernel
theorem dX3_lower_72 : decode cX3_lower 72 = .ok (.iconst (-1), 1) := by decide +kernel
theorem dX3_lower_73 : decode cX3_lower 73 = .ok (.goto 4, 3) := by decide +kernel
theorem dX3_lower_76 : decode cX3_lower 76 = .ok (.iconst 0, 1) := by decide +kernel
theorem dX3_lower_77 : decode cX3_lower 77 = .ok (.iastore, 1) := by decide +kernel
theorem dX3_lower_78 : decode cX3_lower 78 = .ok (.iinc 2 1, 3) := by decide +kernel
theorem dX3_lower_81 : decode cX3_lower 81 = .ok (.goto (-53), 3) := by decide +kernel
theorem dX3_lower_84 : decode cX3_lower 84 = .ok (.aload_n 0, 1) := by decide +kernel
theorem dX3_lower_85 : decode cX3_lower 85 = .ok (.iload_n 1, 1) := by decide +kernel
theorem dX3_lower_86 : decode cX3_lower 86 = .ok (.invokevirtual 51, 3) := by decide +kernel
theorem dX3_lower_89 : decode cX3_lower 89 = .ok (.ireturn, 1) := by decide +kernel
theorem dX3_append_0 : decode cX3_append 0 = .ok (.aload_n 0, 1) := by decide +kernel
theorem dX3_append_1 : decode cX3_append 1 = .ok (.iconst 0, 1) := by decide +kernel
theorem dX3_append_2 : decode cX3_append 2 = .ok (.putfield 36, 3) := by decide +kernel
theorem dX3_append_5 : decode cX3_append 5 = .ok (.iload_n 1, 1) := by decide +kernel
theorem dX3_append_6 : decode cX3_append 6 = .ok (.bipush 33, 2) := by decide +kernel
theorem dX3_append_8 : decode cX3_append 8 = .ok (.bipush 126, 2) := by decide +kernel
theorem dX3_append_10 : decode cX3_append 10 = .ok (.invokestatic 40, 3) := by decide +kernel
theorem dX3_append_13 : decode cX3_append 13 = .ok (.ifCond .ne 9, 3) := by decide +kernel
theorem dX3_append_16 : decode cX3_append 16 = .ok (.aload_n 0, 1) := by decide +kernel
theorem dX3_append_17 : decode cX3_append 17 = .ok (.iconst 1, 1) := by decide +kernel
theorem dX3_append_18 : decode cX3_append 18 = .ok (.invokevirtual 79, 3) := by decide +kernel
theorem dX3_append_21 : decode cX3_append 21 = .ok (.ireturn, 1) := by decide +kernel
theorem dX3_append_22 : decode cX3_append 22 = .ok (.aload_n 0, 1) := by decide +kernel
theorem dX3_append_23 : decode cX3_append 23 = .ok (.getfield 97, 3) := by decide +kernel
theorem dX3_append_26 : decode cX3_append 26 = .ok (.bipush 60, 2) := by decide +kernel
theorem dX3_append_28 : decode cX3_append 28 = .ok (.if_icmp .ne 9, 3) := by decide +kernel
theorem dX3_append_31 : decode cX3_append 31 = .ok (.aload_n 0, 1) := by decide +kernel
theorem dX3_append_32 : decode cX3_append 32 = .ok (.iconst 2, 1) := by decide +kernel
theorem dX3_append_33 : decode cX3_append 33 = .ok (.invokevirtual 79, 3) := by decide +kernel
theorem dX3_append_36 : decode cX3_append 36 = .ok (.ireturn, 1) := by decide +kernel
theorem dX3_append_37 : decode cX3_append 37 = .ok (.aload_n 0, 1) := by decide +kernel
theorem dX3_append_38 : decode cX3_append 38 = .ok (.getfield 23, 3) := by decide +kernel
theorem dX3_append_41 : decode cX3_append 41 = .ok (.aload_n 0, 1) := by decide +kernel
theorem dX3_append_42 : decode cX3_append 42 = .ok (.getfield 97, 3) := by decide +kernel
theorem dX3_append_45 : decode cX3_append 45 = .ok (.iload_n 1, 1) := by decide +kernel
theorem dX3_append_46 : decode cX3_append 46 = .ok (.iastore, 1) := by decide +kernel
theorem dX3_append_47 : decode cX3_append 47 = .ok (.aload_n 0, 1) := by decide +kernel
theorem dX3_append_48 : decode cX3_append 48 = .ok (.dup, 1) := by decide +kernel
theorem dX3_append_49 : decode cX3_append 49 = .ok (.getfield 97, 3) := by decide +kernel
theorem dX3_append_52 : decode cX3_append 52 = .ok (.iconst 1, 1) := by decide +kernel
theorem dX3_append_53 : decode cX3_append 53 = .ok (.iadd, 1) := by decide +kernel
theorem dX3_append_54 : decode cX3_append 54 = .ok (.putfield 97, 3) := by decide +kernel
theorem dX3_append_57 : decode cX3_append 57 = .ok (.aload_n 0, 1) := by decide +kernel
theorem dX3_append_58 : decode cX3_append 58 = .ok (.getfield 97, 3) := by decide +kernel
theorem dX3_append_61 : decode cX3_append 61 = .ok (.ireturn, 1) := by decide +kernel
theorem dX3_clearBuffer_0 : decode cX3_clearBuffer 0 = .ok (.aload_n 0, 1) := by decide +kernel
theorem dX3_clearBuffer_1 : decode cX3_clearBuffer 1 = .ok (.iconst 0, 1) := by decide +kernel
theorem dX3_clearBuffer_2 : decode cX3_clearBuffer 2 = .ok (.putfield 36, 3) := by decide +kernel
theorem dX3_clearBuffer_5 : decode cX3_clearBuffer 5 = .ok (.aload_n 0, 1) := by decide +kernel
theorem dX3_clearBuffer_6 : decode cX3_clearBuffer 6 = .ok (.getfield 97, 3) := by decide +kernel
theorem dX3_clearBuffer_9 : decode cX3_clearBuffer 9 = .ok (.istore_n 1, 1) := by decide +kernel
theorem dX3_clearBuffer_10 : decode cX3_clearBuffer 10 = .ok (.aload_n 0, 1) := by decide +kernel
theorem dX3_clearBuffer_11 : decode cX3_clearBuffer 11 = .ok (.iconst 0, 1) := by decide +kernel
theorem dX3_clearBuffer_12 : decode cX3_clearBuffer 12 = .ok (.putfield 97, 3) := by decide +kernel
theorem dX3_clearBuffer_15 : decode cX3_clearBuffer 15 = .ok (.iload_n 1, 1) := by decide +kernel
theorem dX3_clearBuffer_16 : decode cX3_clearBuffer 16 = .ok (.ireturn, 1) := by decide +kernel
theorem dX3_error_0 : decode cX3_error 0 = .ok (.iconst 0, 1) := by decide +kernel
theorem dX3_error_1 : decode cX3_error 1 = .ok (.istore_n 1, 1) := by decide +kernel
theorem dX3_error_2 : decode cX3_error 2 = .ok (.iconst 1, 1) := by decide +kernel
theorem dX3_error_3 : decode cX3_error 3 = .ok (.istore_n 2, 1) := by decide +kernel
theorem dX3_error_4 : decode cX3_error 4 = .ok (.iload_n 1, 1) := by decide +kernel
theorem dX3_error_5 : decode cX3_error 5 = .ok (.aload_n 0, 1) := by decide +kernel
theorem dX3_error_6 : decode cX3_error 6 = .ok (.getfield 97, 3) := by decide +kernel
theorem dX3_error_9 : decode cX3_error 9 = .ok (.if_icmp .ge 71, 3) := by decide +kernel
theorem dX3_error_12 : decode cX3_error 12 = .ok (.iload_n 2, 1) := by decide +kernel
theorem dX3_error_13 : decode cX3_error 13 = .ok (.ifCond .eq 67, 3) := by decide +kernel
theorem dX3_error_16 : decode cX3_error 16 = .ok (.iload_n 1, 1) := by decide +kernel
theorem dX3_error_17 : decode cX3_error 17 = .ok (.bipush 9, 2) := by decide +kernel
theorem dX3_error_19 : decode cX3_error 19 = .ok (.if_icmp .ge 44, 3) := by decide +kernel
theorem dX3_error_22 : decode cX3_error 22 = .ok (.aload_n 0, 1) := by decide +kernel
theorem dX3_error_23 : decode cX3_error 23 = .ok (.getfield 23, 3) := by decide +kernel
theorem dX3_error_26 : decode cX3_error 26 = .ok (.iload_n 1, 1) := by decide +kernel
theorem dX3_error_27 : decode cX3_error 27 = .ok (.iaload, 1) := by decide +kernel
theorem dX3_error_28 : decode cX3_error 28 = .ok (.bipush 43, 2) := by decide +kernel
theorem dX3_error_30 : decode cX3_error 30 = .ok (.if_icmp .eq 29, 3) := by decide +kernel
theorem dX3_error_33 : decode cX3_error 33 = .ok (.aload_n 0, 1) := by decide +kernel
theorem dX3_error_34 : decode cX3_error 34 = .ok (.getfield 23, 3) := by decide +kernel
theorem dX3_error_37 : decode cX3_error 37 = .ok (.iload_n 1, 1) := by decide +kernel
theorem dX3_error_38 : decode cX3_error 38 = .ok (.iaload, 1) := by decide +kernel
theorem dX3_error_39 : decode cX3_error 39 = .ok (.bipush 45, 2) := by decide +kernel
theorem dX3_error_41 : decode cX3_error 41 = .ok (.if_icmp .eq 18, 3) := by decide +kernel
theorem dX3_error_44 : decode cX3_error 44 = .ok (.aload_n 0, 1) := by decide +kernel
theorem dX3_error_45 : decode cX3_error 45 = .ok (.getfield 23, 3) := by decide +kernel
theorem dX3_error_48 : decode cX3_error 48 = .ok (.iload_n 1, 1) := by decide +kernel
theorem dX3_error_49 : decode cX3_error 49 = .ok (.iaload, 1) := by decide +kernel
theorem dX3_error_50 : decode cX3_error 50 = .ok (.bipush 48, 2) := by decide +kernel
theorem dX3_error_52 : decode cX3_error 52 = .ok (.if_icmp .ne 11, 3) := by decide +kernel
theorem dX3_error_55 : decode cX3_error 55 = .ok (.iload_n 1, 1) := by decide +kernel
theorem dX3_error_56 : decode cX3_error 56 = .ok (.ifCond .le 7, 3) := by decide +kernel
theorem dX3_error_59 : decode cX3_error 59 = .ok (.iconst 1, 1) := by decide +kernel
theorem dX3_error_60 : decode cX3_error 60 = .ok (.goto 4, 3) := by decide +kernel
theorem dX3_error_63 : decode cX3_error 63 = .ok (.iconst 0, 1) := by decide +kernel
theorem dX3_error_64 : decode cX3_error 64 = .ok (.istore_n 2, 1) := by decide +kernel
theorem dX3_error_65 : decode cX3_error 65 = .ok (.iload_n 1, 1) := by decide +kernel
theorem dX3_error_66 : decode cX3_error 66 = .ok (.iload_n 2, 1) := by decide +kernel
theorem dX3_error_67 : decode cX3_error 67 = .ok (.ifCond .eq 7, 3) := by decide +kernel
theorem dX3_error_70 : decode cX3_error 70 = .ok (.iconst 1, 1) := by decide +kernel
theorem dX3_error_71 : decode cX3_error 71 = .ok (.goto 4, 3) := by decide +kernel
theorem dX3_error_74 : decode cX3_error 74 = .ok (.iconst 0, 1) := by decide +kernel
theorem dX3_error_75 : decode cX3_error 75 = .ok (.iadd, 1) := by decide +kernel
theorem dX3_error_76 : decode cX3_error 76 = .ok (.istore_n 1, 1) := by decide +kernel
theorem dX3_error_77 : decode cX3_error 77 = .ok (.goto (-73), 3) := by decide +kernel
theorem dX3_error_80 : decode cX3_error 80 = .ok (.iload_n 1, 1) := by decide +kernel
theorem dX3_error_81 : decode cX3_error 81 = .ok (.ireturn, 1) := by decide +kernel
theorem dX3_firstError_0 : decode cX3_firstError 0 = .ok (.aload_n 0, 1) := by decide +kernel
theorem dX3_firstError_1 : decode cX3_firstError 1 = .ok (.iconst 0, 1) := by decide +kernel
theorem dX3_firstError_2 : decode cX3_firstError 2 = .ok (.putfield 36, 3) := by decide +kernel
theorem dX3_firstError_5 : decode cX3_firstError 5 = .ok (.aload_n 0, 1) := by decide +kernel
theorem dX3_firstError_6 : decode cX3_firstError 6 = .ok (.invokevirtual 100, 3) := by decide +kernel
theorem dX3_firstError_9 : decode cX3_firstError 9 = .ok (.ireturn, 1) := by decide +kernel
theorem dX3_load_0 : decode cX3_load 0 = .ok (.aload_n 0, 1) := by decide +kernel
theorem dX3_load_1 : decode cX3_load 1 = .ok (.iconst 0, 1) := by decide +kernel
theorem dX3_load_2 : decode cX3_load 2 = .ok (.putfield 36, 3) := by decide +kernel
theorem dX3_load_5 : decode cX3_load 5 = .ok (.iload_n 1, 1) := by decide +kernel
theorem dX3_load_6 : decode cX3_load 6 = .ok (.invokestatic 75, 3) := by decide +kernel
theorem dX3_load_9 : decode cX3_load 9 = .ok (.ifCond .ne 9, 3) := by decide +kernel
theorem dX3_load_12 : decode cX3_load 12 = .ok (.aload_n 0, 1) := by decide +kernel
theorem dX3_load_13 : decode cX3_load 13 = .ok (.iconst 1, 1) := by decide +kernel
theorem dX3_load_14 : decode cX3_load 14 = .ok (.invokevirtual 79, 3) := by decide +kernel
theorem dX3_load_17 : decode cX3_load 17 = .ok (.ireturn, 1) := by decide +kernel
theorem dX3_load_18 : decode cX3_load 18 = .ok (.aload_n 0, 1) := by decide +kernel
theorem dX3_load_19 : decode cX3_load 19 = .ok (.getfield 97, 3) := by decide +kernel
theorem dX3_load_22 : decode cX3_load 22 = .ok (.ifCond .eq 14, 3) := by decide +kernel
theorem dX3_load_25 : decode cX3_load 25 = .ok (.aload_n 0, 1) := by decide +kernel
theorem dX3_load_26 : decode cX3_load 26 = .ok (.invokevirtual 100, 3) := by decide +kernel
theorem dX3_load_29 : decode cX3_load 29 = .ok (.aload_n 0, 1) := by decide +kernel
theorem dX3_load_30 : decode cX3_load 30 = .ok (.getfield 97, 3) := by decide +kernel
theorem dX3_load_33 : decode cX3_load 33 = .ok (.if_icmp .ge 9, 3) := by decide +kernel
theorem dX3_load_36 : decode cX3_load 36 = .ok (.aload_n 0, 1) := by decide +kernel
theorem dX3_load_37 : decode cX3_load 37 = .ok (.iconst 2, 1) := by decide +kernel
theorem dX3_load_38 : decode cX3_load 38 = .ok (.invokevirtual 79, 3) := by decide +kernel
theorem dX3_load_41 : decode cX3_load 41 = .ok (.ireturn, 1) := by decide +kernel
theorem dX3_load_42 : decode cX3_load 42 = .ok (.aload_n 0, 1) := by decide +kernel
theorem dX3_load_43 : decode cX3_load 43 = .ok (.invokevirtual 85, 3) := by decide +kernel
theorem dX3_load_46 : decode cX3_load 46 = .ok (.iconst 0, 1) := by decide +kernel
theorem dX3_load_47 : decode cX3_load 47 = .ok (.istore_n 2, 1) := by decide +kernel
theorem dX3_load_48 : decode cX3_load 48 = .ok (.iload_n 2, 1) := by decide +kernel
theorem dX3_load_49 : decode cX3_load 49 = .ok (.bipush 9, 2) := by decide +kernel
theorem dX3_load_51 : decode cX3_load 51 = .ok (.if_icmp .ge 70, 3) := by decide +kernel
theorem dX3_load_54 : decode cX3_load 54 = .ok (.iload_n 2, 1) := by decide +kernel
theorem dX3_load_55 : decode cX3_load 55 = .ok (.aload_n 0, 1) := by decide +kernel
theorem dX3_load_56 : decode cX3_load 56 = .ok (.getfield 97, 3) := by decide +kernel
theorem dX3_load_59 : decode cX3_load 59 = .ok (.if_icmp .ge 19, 3) := by decide +kernel
theorem dX3_load_62 : decode cX3_load 62 = .ok (.aload_n 0, 1) := by decide +kernel
theorem dX3_load_63 : decode cX3_load 63 = .ok (.getfield 23, 3) := by decide +kernel
theorem dX3_load_66 : decode cX3_load 66 = .ok (.aload_n 0, 1) := by decide +kernel
theorem dX3_load_67 : decode cX3_load 67 = .ok (.getfield 97, 3) := by decide +kernel
theorem dX3_load_70 : decode cX3_load 70 = .ok (.iconst 1, 1) := by decide +kernel
theorem dX3_load_71 : decode cX3_load 71 = .ok (.isub, 1) := by decide +kernel
theorem dX3_load_72 : decode cX3_load 72 = .ok (.iload_n 2, 1) := by decide +kernel
theorem dX3_load_73 : decode cX3_load 73 = .ok (.isub, 1) := by decide +kernel
theorem dX3_load_74 : decode cX3_load 74 = .ok (.iaload, 1) := by decide +kernel
theorem dX3_load_75 : decode cX3_load 75 = .ok (.goto 5, 3) := by decide +kernel
theorem dX3_load_78 : decode cX3_load 78 = .ok (.bipush 48, 2) := by decide +kernel
theorem dX3_load_80 : decode cX3_load 80 = .ok (.istore_n 3, 1) := by decide +kernel
theorem dX3_load_81 : decode cX3_load 81 = .ok (.aload_n 0, 1) := by decide +kernel
theorem dX3_load_82 : decode cX3_load 82 = .ok (.getfield 7, 3) := by decide +kernel
theorem dX3_load_85 : decode cX3_load 85 = .ok (.iconst 0, 1) := by decide +kernel
theorem dX3_load_86 : decode cX3_load 86 = .ok (.bipush 9, 2) := by decide +kernel
theorem dX3_load_88 : decode cX3_load 88 = .ok (.iload_n 1, 1) := by decide +kernel
theorem dX3_load_89 : decode cX3_load 89 = .ok (.imul, 1) := by decide +kernel
theorem dX3_load_90 : decode cX3_load 90 = .ok (.iadd, 1) := by decide +kernel
theorem dX3_load_91 : decode cX3_load 91 = .ok (.iload_n 2, 1) := by decide +kernel
theorem dX3_load_92 : decode cX3_load 92 = .ok (.iadd, 1) := by decide +kernel
theorem dX3_load_93 : decode cX3_load 93 = .ok (.iload_n 3, 1) := by decide +kernel
theorem dX3_load_94 : decode cX3_load 94 = .ok (.bipush 43, 2) := by decide +kernel
theorem dX3_load_96 : decode cX3_load 96 = .ok (.if_icmp .ne 7, 3) := by decide +kernel
theorem dX3_load_99 : decode cX3_load 99 = .ok (.iconst 1, 1) := by decide +kernel
theorem dX3_load_100 : decode cX3_load 100 = .ok (.goto 14, 3) := by decide +kernel
theorem dX3_load_103 : decode cX3_load 103 = .ok (.iload_n 3, 1) := by decide +kernel
theorem dX3_load_104 : decode cX3_load 104 = .ok (.bipush 45, 2) := by decide +kernel
theorem dX3_load_106 : decode cX3_load 106 = .ok (.if_icmp .ne 7, 3) := by decide +kernel
theorem dX3_load_109 : decode cX3_load 109 = .ok (.iconst (-1), 1) := by decide +kernel
theorem dX3_load_110 : decode cX3_load 110 = .ok (.goto 4, 3) := by decide +kernel
theorem dX3_load_113 : decode cX3_load 113 = .ok (.iconst 0, 1) := by decide +kernel
theorem dX3_load_114 : decode cX3_load 114 = .ok (.iastore, 1) := by decide +kernel
theorem dX3_load_115 : decode cX3_load 115 = .ok (.iinc 2 1, 3) := by decide +kernel
theorem dX3_load_118 : decode cX3_load 118 = .ok (.goto (-70), 3) := by decide +kernel
theorem dX3_load_121 : decode cX3_load 121 = .ok (.aload_n 0, 1) := by decide +kernel
theorem dX3_load_122 : decode cX3_load 122 = .ok (.iconst 0, 1) := by decide +kernel
theorem dX3_load_123 : decode cX3_load 123 = .ok (.putfield 97, 3) := by decide +kernel
theorem dX3_load_126 : decode cX3_load 126 = .ok (.aload_n 0, 1) := by decide +kernel
theorem dX3_load_127 : decode cX3_load 127 = .ok (.iload_n 1, 1) := by decide +kernel
theorem dX3_load_128 : decode cX3_load 128 = .ok (.invokevirtual 51, 3) := by decide +kernel
theorem dX3_load_131 : decode cX3_load 131 = .ok (.ireturn, 1) := by decide +kernel
theorem dX3_degrees_0 : decode cX3_degrees 0 = .ok (.iconst 0, 1) := by decide +kernel
theorem dX3_degrees_1 : decode cX3_degrees 1 = .ok (.istore_n 1, 1) := by decide +kernel
theorem dX3_degrees_2 : decode cX3_degrees 2 = .ok (.iconst 0, 1) := by decide +kernel
theorem dX3_degrees_3 : decode cX3_degrees 3 = .ok (.istore_n 2, 1) := by decide +kernel
theorem dX3_degrees_4 : decode cX3_degrees 4 = .ok (.iload_n 2, 1) := by decide +kernel
theorem dX3_degrees_5 : decode cX3_degrees 5 = .ok (.iconst 5, 1) := by decide +kernel
theorem dX3_degrees_6 : decode cX3_degrees 6 = .ok (.if_icmp .ge 17, 3) := by decide +kernel
theorem dX3_degrees_9 : decode cX3_degrees 9 = .ok (.iload_n 1, 1) := by decide +kernel
theorem dX3_degrees_10 : decode cX3_degrees 10 = .ok (.aload_n 0, 1) := by decide +kernel
theorem dX3_degrees_11 : decode cX3_degrees 11 = .ok (.iload_n 2, 1) := by decide +kernel
theorem dX3_degrees_12 : decode cX3_degrees 12 = .ok (.invokevirtual 51, 3) := by decide +kernel
theorem dX3_degrees_15 : decode cX3_degrees 15 = .ok (.iadd, 1) := by decide +kernel
theorem dX3_degrees_16 : decode cX3_degrees 16 = .ok (.istore_n 1, 1) := by decide +kernel
theorem dX3_degrees_17 : decode cX3_degrees 17 = .ok (.iinc 2 1, 3) := by decide +kernel
theorem dX3_degrees_20 : decode cX3_degrees 20 = .ok (.goto (-16), 3) := by decide +kernel
theorem dX3_degrees_23 : decode cX3_degrees 23 = .ok (.iload_n 1, 1) := by decide +kernel
theorem dX3_degrees_24 : decode cX3_degrees 24 = .ok (.ireturn, 1) := by decide +kernel
theorem dX3_keep_0 : decode cX3_keep 0 = .ok (.aload_n 0, 1) := by decide +kernel
theorem dX3_keep_1 : decode cX3_keep 1 = .ok (.iconst 0, 1) := by decide +kernel
theorem dX3_keep_2 : decode cX3_keep 2 = .ok (.putfield 36, 3) := by decide +kernel
theorem dX3_keep_5 : decode cX3_keep 5 = .ok (.iload_n 1, 1) := by decide +kernel
theorem dX3_keep_6 : decode cX3_keep 6 = .ok (.iconst 0, 1) := by decide +kernel
theorem dX3_keep_7 : decode cX3_keep 7 = .ok (.iconst 1, 1) := by decide +kernel
theorem dX3_keep_8 : decode cX3_keep 8 = .ok (.invokestatic 40, 3) := by decide +kernel
theorem dX3_keep_11 : decode cX3_keep 11 = .ok (.ifCond .ne 9, 3) := by decide +kernel
theorem dX3_keep_14 : decode cX3_keep 14 = .ok (.aload_n 0, 1) := by decide +kernel
theorem dX3_keep_15 : decode cX3_keep 15 = .ok (.iconst 1, 1) := by decide +kernel
theorem dX3_keep_16 : decode cX3_keep 16 = .ok (.invokevirtual 79, 3) := by decide +kernel
theorem dX3_keep_19 : decode cX3_keep 19 = .ok (.ireturn, 1) := by decide +kernel
theorem dX3_keep_20 : decode cX3_keep 20 = .ok (.iconst 0, 1) := by decide +kernel
theorem dX3_keep_21 : decode cX3_keep 21 = .ok (.istore_n 2, 1) := by decide +kernel
theorem dX3_keep_22 : decode cX3_keep 22 = .ok (.iload_n 2, 1) := by decide +kernel
theorem dX3_keep_23 : decode cX3_keep 23 = .ok (.bipush 56, 2) := by decide +kernel
theorem dX3_keep_25 : decode cX3_keep 25 = .ok (.if_icmp .ge 26, 3) := by decide +kernel
theorem dX3_keep_28 : decode cX3_keep 28 = .ok (.aload_n 0, 1) := by decide +kernel
theorem dX3_keep_29 : decode cX3_keep 29 = .ok (.getfield 16, 3) := by decide +kernel
theorem dX3_keep_32 : decode cX3_keep 32 = .ok (.bipush 56, 2) := by decide +kernel
theorem dX3_keep_34 : decode cX3_keep 34 = .ok (.iload_n 1, 1) := by decide +kernel
theorem dX3_keep_35 : decode cX3_keep 35 = .ok (.imul, 1) := by decide +kernel
theorem dX3_keep_36 : decode cX3_keep 36 = .ok (.iload_n 2, 1) := by decide +kernel
theorem dX3_keep_37 : decode cX3_keep 37 = .ok (.iadd, 1) := by decide +kernel
theorem dX3_keep_38 : decode cX3_keep 38 = .ok (.aload_n 0, 1) := by decide +kernel
theorem dX3_keep_39 : decode cX3_keep 39 = .ok (.getfield 7, 3) := by decide +kernel
theorem dX3_keep_42 : decode cX3_keep 42 = .ok (.iload_n 2, 1) := by decide +kernel
theorem dX3_keep_43 : decode cX3_keep 43 = .ok (.iaload, 1) := by decide +kernel
theorem dX3_keep_44 : decode cX3_keep 44 = .ok (.iastore, 1) := by decide +kernel
theorem dX3_keep_45 : decode cX3_keep 45 = .ok (.iinc 2 1, 3) := by decide +kernel
theorem dX3_keep_48 : decode cX3_keep 48 = .ok (.goto (-26), 3) := by decide +kernel
theorem dX3_keep_51 : decode cX3_keep 51 = .ok (.aload_n 0, 1) := by decide +kernel
theorem dX3_keep_52 : decode cX3_keep 52 = .ok (.getfield 19, 3) := by decide +kernel
theorem dX3_keep_55 : decode cX3_keep 55 = .ok (.iload_n 1, 1) := by decide +kernel
theorem dX3_keep_56 : decode cX3_keep 56 = .ok (.iconst 1, 1) := by decide +kernel
theorem dX3_keep_57 : decode cX3_keep 57 = .ok (.bastore, 1) := by decide +kernel
theorem dX3_keep_58 : decode cX3_keep 58 = .ok (.aload_n 0, 1) := by decide +kernel
theorem dX3_keep_59 : decode cX3_keep 59 = .ok (.invokevirtual 104, 3) := by decide +kernel
theorem dX3_keep_62 : decode cX3_keep 62 = .ok (.ireturn, 1) := by decide +kernel
theorem dX3_goBack_0 : decode cX3_goBack 0 = .ok (.aload_n 0, 1) := by decide +kernel
theorem dX3_goBack_1 : decode cX3_goBack 1 = .ok (.iconst 0, 1) := by decide +kernel
theorem dX3_goBack_2 : decode cX3_goBack 2 = .ok (.putfield 36, 3) := by decide +kernel
theorem dX3_goBack_5 : decode cX3_goBack 5 = .ok (.iload_n 1, 1) := by decide +kernel
theorem dX3_goBack_6 : decode cX3_goBack 6 = .ok (.iconst 0, 1) := by decide +kernel
theorem dX3_goBack_7 : decode cX3_goBack 7 = .ok (.iconst 1, 1) := by decide +kernel
theorem dX3_goBack_8 : decode cX3_goBack 8 = .ok (.invokestatic 40, 3) := by decide +kernel
theorem dX3_goBack_11 : decode cX3_goBack 11 = .ok (.ifCond .ne 9, 3) := by decide +kernel
theorem dX3_goBack_14 : decode cX3_goBack 14 = .ok (.aload_n 0, 1) := by decide +kernel
theorem dX3_goBack_15 : decode cX3_goBack 15 = .ok (.iconst 1, 1) := by decide +kernel
theorem dX3_goBack_16 : decode cX3_goBack 16 = .ok (.invokevirtual 79, 3) := by decide +kernel
theorem dX3_goBack_19 : decode cX3_goBack 19 = .ok (.ireturn, 1) := by decide +kernel
theorem dX3_goBack_20 : decode cX3_goBack 20 = .ok (.aload_n 0, 1) := by decide +kernel
theorem dX3_goBack_21 : decode cX3_goBack 21 = .ok (.getfield 19, 3) := by decide +kernel
theorem dX3_goBack_24 : decode cX3_goBack 24 = .ok (.iload_n 1, 1) := by decide +kernel
theorem dX3_goBack_25 : decode cX3_goBack 25 = .ok (.baload, 1) := by decide +kernel
theorem dX3_goBack_26 : decode cX3_goBack 26 = .ok (.ifCond .ne 9, 3) := by decide +kernel
theorem dX3_goBack_29 : decode cX3_goBack 29 = .ok (.aload_n 0, 1) := by decide +kernel
theorem dX3_goBack_30 : decode cX3_goBack 30 = .ok (.iconst 2, 1) := by decide +kernel
theorem dX3_goBack_31 : decode cX3_goBack 31 = .ok (.invokevirtual 79, 3) := by decide +kernel
theorem dX3_goBack_34 : decode cX3_goBack 34 = .ok (.ireturn, 1) := by decide +kernel
theorem dX3_goBack_35 : decode cX3_goBack 35 = .ok (.aload_n 0, 1) := by decide +kernel
theorem dX3_goBack_36 : decode cX3_goBack 36 = .ok (.invokevirtual 85, 3) := by decide +kernel
theorem dX3_goBack_39 : decode cX3_goBack 39 = .ok (.iconst 0, 1) := by decide +kernel
theorem dX3_goBack_40 : decode cX3_goBack 40 = .ok (.istore_n 2, 1) := by decide +kernel
theorem dX3_goBack_41 : decode cX3_goBack 41 = .ok (.iload_n 2, 1) := by decide +kernel
theorem dX3_goBack_42 : decode cX3_goBack 42 = .ok (.bipush 56, 2) := by decide +kernel
theorem dX3_goBack_44 : decode cX3_goBack 44 = .ok (.if_icmp .ge 26, 3) := by decide +kernel
theorem dX3_goBack_47 : decode cX3_goBack 47 = .ok (.aload_n 0, 1) := by decide +kernel
theorem dX3_goBack_48 : decode cX3_goBack 48 = .ok (.getfield 7, 3) := by decide +kernel
theorem dX3_goBack_51 : decode cX3_goBack 51 = .ok (.iload_n 2, 1) := by decide +kernel
theorem dX3_goBack_52 : decode cX3_goBack 52 = .ok (.aload_n 0, 1) := by decide +kernel
theorem dX3_goBack_53 : decode cX3_goBack 53 = .ok (.getfield 16, 3) := by decide +kernel
theorem dX3_goBack_56 : decode cX3_goBack 56 = .ok (.bipush 56, 2) := by decide +kernel
theorem dX3_goBack_58 : decode cX3_goBack 58 = .ok (.iload_n 1, 1) := by decide +kernel
theorem dX3_goBack_59 : decode cX3_goBack 59 = .ok (.imul, 1) := by decide +kernel
theorem dX3_goBack_60 : decode cX3_goBack 60 = .ok (.iload_n 2, 1) := by decide +kernel
theorem dX3_goBack_61 : decode cX3_goBack 61 = .ok (.iadd, 1) := by decide +kernel
theorem dX3_goBack_62 : decode cX3_goBack 62 = .ok (.iaload, 1) := by decide +kernel
theorem dX3_goBack_63 : decode cX3_goBack 63 = .ok (.iastore, 1) := by decide +kernel
theorem dX3_goBack_64 : decode cX3_goBack 64 = .ok (.iinc 2 1, 3) := by decide +kernel
theorem dX3_goBack_67 : decode cX3_goBack 67 = .ok (.goto (-26), 3) := by decide +kernel
theorem dX3_goBack_70 : decode cX3_goBack 70 = .ok (.aload_n 0, 1) := by decide +kernel
theorem dX3_goBack_71 : decode cX3_goBack 71 = .ok (.invokevirtual 104, 3) := by decide +kernel
theorem dX3_goBack_74 : decode cX3_goBack 74 = .ok (.ireturn, 1) := by decide +kernel
theorem dX3_undo_0 : decode cX3_undo 0 = .ok (.aload_n 0, 1) := by decide +kernel
theorem dX3_undo_1 : decode cX3_undo 1 = .ok (.iconst 0, 1) := by decide +kernel
theorem dX3_undo_2 : decode cX3_undo 2 = .ok (.putfield 36, 3) := by decide +kernel
theorem dX3_undo_5 : decode cX3_undo 5 = .ok (.aload_n 0, 1) := by decide +kernel
theorem dX3_undo_6 : decode cX3_undo 6 = .ok (.getfield 48, 3) := by decide +kernel
theorem dX3_undo_9 : decode cX3_undo 9 = .ok (.ifCond .ne 9, 3) := by decide +kernel
theorem dX3_undo_12 : decode cX3_undo 12 = .ok (.aload_n 0, 1) := by decide +kernel
theorem dX3_undo_13 : decode cX3_undo 13 = .ok (.iconst 1, 1) := by decide +kernel
theorem dX3_undo_14 : decode cX3_undo 14 = .ok (.invokevirtual 79, 3) := by decide +kernel
theorem dX3_undo_17 : decode cX3_undo 17 = .ok (.ireturn, 1) := by decide +kernel
theorem dX3_undo_18 : decode cX3_undo 18 = .ok (.aload_n 0, 1) := by decide +kernel
theorem dX3_undo_19 : decode cX3_undo 19 = .ok (.dup, 1) := by decide +kernel
theorem dX3_undo_20 : decode cX3_undo 20 = .ok (.getfield 48, 3) := by decide +kernel
theorem dX3_undo_23 : decode cX3_undo 23 = .ok (.iconst 1, 1) := by decide +kernel
theorem dX3_undo_24 : decode cX3_undo 24 = .ok (.isub, 1) := by decide +kernel
theorem dX3_undo_25 : decode cX3_undo 25 = .ok (.putfield 48, 3) := by decide +kernel
theorem dX3_undo_28 : decode cX3_undo 28 = .ok (.iconst 0, 1) := by decide +kernel
theorem dX3_undo_29 : decode cX3_undo 29 = .ok (.istore_n 1, 1) := by decide +kernel
theorem dX3_undo_30 : decode cX3_undo 30 = .ok (.iload_n 1, 1) := by decide +kernel
theorem dX3_undo_31 : decode cX3_undo 31 = .ok (.bipush 56, 2) := by decide +kernel
theorem dX3_undo_33 : decode cX3_undo 33 = .ok (.if_icmp .ge 29, 3) := by decide +kernel
theorem dX3_undo_36 : decode cX3_undo 36 = .ok (.aload_n 0, 1) := by decide +kernel
theorem dX3_undo_37 : decode cX3_undo 37 = .ok (.getfield 7, 3) := by decide +kernel
theorem dX3_undo_40 : decode cX3_undo 40 = .ok (.iload_n 1, 1) := by decide +kernel
theorem dX3_undo_41 : decode cX3_undo 41 = .ok (.aload_n 0, 1) := by decide +kernel
theorem dX3_undo_42 : decode cX3_undo 42 = .ok (.getfield 13, 3) := by decide +kernel
theorem dX3_undo_45 : decode cX3_undo 45 = .ok (.bipush 56, 2) := by decide +kernel
theorem dX3_undo_47 : decode cX3_undo 47 = .ok (.aload_n 0, 1) := by decide +kernel
theorem dX3_undo_48 : decode cX3_undo 48 = .ok (.getfield 48, 3) := by decide +kernel
theorem dX3_undo_51 : decode cX3_undo 51 = .ok (.imul, 1) := by decide +kernel
theorem dX3_undo_52 : decode cX3_undo 52 = .ok (.iload_n 1, 1) := by decide +kernel
theorem dX3_undo_53 : decode cX3_undo 53 = .ok (.iadd, 1) := by decide +kernel
theorem dX3_undo_54 : decode cX3_undo 54 = .ok (.iaload, 1) := by decide +kernel
theorem dX3_undo_55 : decode cX3_undo 55 = .ok (.iastore, 1) := by decide +kernel
theorem dX3_undo_56 : decode cX3_undo 56 = .ok (.iinc 1 1, 3) := by decide +kernel
theorem dX3_undo_59 : decode cX3_undo 59 = .ok (.goto (-29), 3) := by decide +kernel
theorem dX3_undo_62 : decode cX3_undo 62 = .ok (.aload_n 0, 1) := by decide +kernel
theorem dX3_undo_63 : decode cX3_undo 63 = .ok (.getfield 48, 3) := by decide +kernel
theorem dX3_undo_66 : decode cX3_undo 66 = .ok (.ireturn, 1) := by decide +kernel
theorem dX3_sign_0 : decode cX3_sign 0 = .ok (.aload_n 0, 1) := by decide +kernel
theorem dX3_sign_1 : decode cX3_sign 1 = .ok (.iconst 0, 1) := by decide +kernel
theorem dX3_sign_2 : decode cX3_sign 2 = .ok (.putfield 36, 3) := by decide +kernel
theorem dX3_sign_5 : decode cX3_sign 5 = .ok (.iload_n 1, 1) := by decide +kernel
theorem dX3_sign_6 : decode cX3_sign 6 = .ok (.invokestatic 75, 3) := by decide +kernel
theorem dX3_sign_9 : decode cX3_sign 9 = .ok (.ifCond .ne 9, 3) := by decide +kernel
theorem dX3_sign_12 : decode cX3_sign 12 = .ok (.aload_n 0, 1) := by decide +kernel
theorem dX3_sign_13 : decode cX3_sign 13 = .ok (.iconst 1, 1) := by decide +kernel
theorem dX3_sign_14 : decode cX3_sign 14 = .ok (.invokevirtual 79, 3) := by decide +kernel
theorem dX3_sign_17 : decode cX3_sign 17 = .ok (.ireturn, 1) := by decide +kernel
theorem dX3_sign_18 : decode cX3_sign 18 = .ok (.iload_n 2, 1) := by decide +kernel
theorem dX3_sign_19 : decode cX3_sign 19 = .ok (.iconst 0, 1) := by decide +kernel
theorem dX3_sign_20 : decode cX3_sign 20 = .ok (.bipush 8, 2) := by decide +kernel
theorem dX3_sign_22 : decode cX3_sign 22 = .ok (.invokestatic 40, 3) := by decide +kernel
theorem dX3_sign_25 : decode cX3_sign 25 = .ok (.ifCond .eq 12, 3) := by decide +kernel
theorem dX3_sign_28 : decode cX3_sign 28 = .ok (.aload_n 0, 1) := by decide +kernel
theorem dX3_sign_29 : decode cX3_sign 29 = .ok (.iload_n 1, 1) := by decide +kernel
theorem dX3_sign_30 : decode cX3_sign 30 = .ok (.iload_n 2, 1) := by decide +kernel
theorem dX3_sign_31 : decode cX3_sign 31 = .ok (.invokevirtual 44, 3) := by decide +kernel
theorem dX3_sign_34 : decode cX3_sign 34 = .ok (.goto 8, 3) := by decide +kernel
theorem dX3_sign_37 : decode cX3_sign 37 = .ok (.aload_n 0, 1) := by decide +kernel
theorem dX3_sign_38 : decode cX3_sign 38 = .ok (.iconst 2, 1) := by decide +kernel
theorem dX3_sign_39 : decode cX3_sign 39 = .ok (.invokevirtual 79, 3) := by decide +kernel
theorem dX3_sign_42 : decode cX3_sign 42 = .ok (.ireturn, 1) := by decide +kernel
theorem dX3_tells_0 : decode cX3_tells 0 = .ok (.iload_n 2, 1) := by decide +kernel
theorem dX3_tells_1 : decode cX3_tells 1 = .ok (.ifCond .ne 9, 3) := by decide +kernel
theorem dX3_tells_4 : decode cX3_tells 4 = .ok (.aload_n 0, 1) := by decide +kernel
theorem dX3_tells_5 : decode cX3_tells 5 = .ok (.iload_n 1, 1) := by decide +kernel
theorem dX3_tells_6 : decode cX3_tells 6 = .ok (.invokevirtual 51, 3) := by decide +kernel
theorem dX3_tells_9 : decode cX3_tells 9 = .ok (.ireturn, 1) := by decide +kernel
theorem dX3_tells_10 : decode cX3_tells 10 = .ok (.iload_n 2, 1) := by decide +kernel
theorem dX3_tells_11 : decode cX3_tells 11 = .ok (.iconst 2, 1) := by decide +kernel
theorem dX3_tells_12 : decode cX3_tells 12 = .ok (.if_icmp .ne 10, 3) := by decide +kernel
theorem dX3_tells_15 : decode cX3_tells 15 = .ok (.aload_n 0, 1) := by decide +kernel
theorem dX3_tells_16 : decode cX3_tells 16 = .ok (.iload_n 1, 1) := by decide +kernel
theorem dX3_tells_17 : decode cX3_tells 17 = .ok (.iconst 1, 1) := by decide +kernel
theorem dX3_tells_18 : decode cX3_tells 18 = .ok (.invokevirtual 107, 3) := by decide +kernel
theorem dX3_tells_21 : decode cX3_tells 21 = .ok (.ireturn, 1) := by decide +kernel
theorem dX3_tells_22 : decode cX3_tells 22 = .ok (.iconst 0, 1) := by decide +kernel
theorem dX3_tells_23 : decode cX3_tells 23 = .ok (.istore_n 3, 1) := by decide +kernel
theorem dX3_tells_24 : decode cX3_tells 24 = .ok (.iconst 0, 1) := by decide +kernel
theorem dX3_tells_25 : decode cX3_tells 25 = .ok (.istore 4, 2) := by decide +kernel
theorem dX3_tells_27 : decode cX3_tells 27 = .ok (.iload 4, 2) := by decide +kernel
theorem dX3_tells_29 : decode cX3_tells 29 = .ok (.bipush 9, 2) := by decide +kernel
theorem dX3_tells_31 : decode cX3_tells 31 = .ok (.if_icmp .ge 41, 3) := by decide +kernel
theorem dX3_tells_34 : decode cX3_tells 34 = .ok (.aload_n 0, 1) := by decide +kernel
theorem dX3_tells_35 : decode cX3_tells 35 = .ok (.getfield 26, 3) := by decide +kernel
theorem dX3_tells_38 : decode cX3_tells 38 = .ok (.iload 4, 2) := by decide +kernel
theorem dX3_tells_40 : decode cX3_tells 40 = .ok (.aload_n 0, 1) := by decide +kernel
theorem dX3_tells_41 : decode cX3_tells 41 = .ok (.iload_n 1, 1) := by decide +kernel
theorem dX3_tells_42 : decode cX3_tells 42 = .ok (.iload 4, 2) := by decide +kernel
theorem dX3_tells_44 : decode cX3_tells 44 = .ok (.invokevirtual 44, 3) := by decide +kernel
theorem dX3_tells_47 : decode cX3_tells 47 = .ok (.iastore, 1) := by decide +kernel
theorem dX3_tells_48 : decode cX3_tells 48 = .ok (.iload_n 3, 1) := by decide +kernel
theorem dX3_tells_49 : decode cX3_tells 49 = .ok (.aload_n 0, 1) := by decide +kernel
theorem dX3_tells_50 : decode cX3_tells 50 = .ok (.getfield 26, 3) := by decide +kernel
theorem dX3_tells_53 : decode cX3_tells 53 = .ok (.iload 4, 2) := by decide +kernel
theorem dX3_tells_55 : decode cX3_tells 55 = .ok (.iaload, 1) := by decide +kernel
theorem dX3_tells_56 : decode cX3_tells 56 = .ok (.ifCond .eq 7, 3) := by decide +kernel
theorem dX3_tells_59 : decode cX3_tells 59 = .ok (.iconst 1, 1) := by decide +kernel
theorem dX3_tells_60 : decode cX3_tells 60 = .ok (.goto 4, 3) := by decide +kernel
theorem dX3_tells_63 : decode cX3_tells 63 = .ok (.iconst 0, 1) := by decide +kernel
theorem dX3_tells_64 : decode cX3_tells 64 = .ok (.iadd, 1) := by decide +kernel
theorem dX3_tells_65 : decode cX3_tells 65 = .ok (.istore_n 3, 1) := by decide +kernel
theorem dX3_tells_66 : decode cX3_tells 66 = .ok (.iinc 4 1, 3) := by decide +kernel
theorem dX3_tells_69 : decode cX3_tells 69 = .ok (.goto (-42), 3) := by decide +kernel
theorem dX3_tells_72 : decode cX3_tells 72 = .ok (.iload_n 2, 1) := by decide +kernel
theorem dX3_tells_73 : decode cX3_tells 73 = .ok (.iconst 1, 1) := by decide +kernel
theorem dX3_tells_74 : decode cX3_tells 74 = .ok (.if_icmp .ne 7, 3) := by decide +kernel
theorem dX3_tells_77 : decode cX3_tells 77 = .ok (.iload_n 3, 1) := by decide +kernel
theorem dX3_tells_78 : decode cX3_tells 78 = .ok (.goto 10, 3) := by decide +kernel
theorem dX3_tells_81 : decode cX3_tells 81 = .ok (.aload_n 0, 1) := by decide +kernel
theorem dX3_tells_82 : decode cX3_tells 82 = .ok (.getfield 26, 3) := by decide +kernel
theorem dX3_tells_85 : decode cX3_tells 85 = .ok (.invokestatic 110, 3) := by decide +kernel
theorem dX3_tells_88 : decode cX3_tells 88 = .ok (.ireturn, 1) := by decide +kernel
theorem dX3_of_0 : decode cX3_of 0 = .ok (.aload_n 0, 1) := by decide +kernel
theorem dX3_of_1 : decode cX3_of 1 = .ok (.iconst 0, 1) := by decide +kernel
theorem dX3_of_2 : decode cX3_of 2 = .ok (.putfield 36, 3) := by decide +kernel
theorem dX3_of_5 : decode cX3_of 5 = .ok (.iload_n 1, 1) := by decide +kernel
theorem dX3_of_6 : decode cX3_of 6 = .ok (.invokestatic 75, 3) := by decide +kernel
theorem dX3_of_9 : decode cX3_of 9 = .ok (.ifCond .ne 9, 3) := by decide +kernel
theorem dX3_of_12 : decode cX3_of 12 = .ok (.aload_n 0, 1) := by decide +kernel
theorem dX3_of_13 : decode cX3_of 13 = .ok (.iconst 1, 1) := by decide +kernel
theorem dX3_of_14 : decode cX3_of 14 = .ok (.invokevirtual 79, 3) := by decide +kernel
theorem dX3_of_17 : decode cX3_of 17 = .ok (.ireturn, 1) := by decide +kernel
theorem dX3_of_18 : decode cX3_of 18 = .ok (.iload_n 2, 1) := by decide +kernel
theorem dX3_of_19 : decode cX3_of 19 = .ok (.iconst 0, 1) := by decide +kernel
theorem dX3_of_20 : decode cX3_of 20 = .ok (.iconst 3, 1) := by decide +kernel
theorem dX3_of_21 : decode cX3_of 21 = .ok (.invokestatic 40, 3) := by decide +kernel
theorem dX3_of_24 : decode cX3_of 24 = .ok (.ifCond .eq 12, 3) := by decide +kernel
theorem dX3_of_27 : decode cX3_of 27 = .ok (.aload_n 0, 1) := by decide +kernel
theorem dX3_of_28 : decode cX3_of 28 = .ok (.iload_n 1, 1) := by decide +kernel
theorem dX3_of_29 : decode cX3_of 29 = .ok (.iload_n 2, 1) := by decide +kernel
theorem dX3_of_30 : decode cX3_of 30 = .ok (.invokevirtual 114, 3) := by decide +kernel
theorem dX3_of_33 : decode cX3_of 33 = .ok (.goto 8, 3) := by decide +kernel
theorem dX3_of_36 : decode cX3_of 36 = .ok (.aload_n 0, 1) := by decide +kernel
theorem dX3_of_37 : decode cX3_of 37 = .ok (.iconst 2, 1) := by decide +kernel
theorem dX3_of_38 : decode cX3_of 38 = .ok (.invokevirtual 79, 3) := by decide +kernel
theorem dX3_of_41 : decode cX3_of 41 = .ok (.ireturn, 1) := by decide +kernel
theorem dX3_has_0 : decode cX3_has 0 = .ok (.iconst 0, 1) := by decide +kernel
theorem dX3_has_1 : decode cX3_has 1 = .ok (.istore_n 3, 1) := by decide +kernel
theorem dX3_has_2 : decode cX3_has 2 = .ok (.iconst 0, 1) := by decide +kernel
theorem dX3_has_3 : decode cX3_has 3 = .ok (.istore 4, 2) := by decide +kernel
theorem dX3_has_5 : decode cX3_has 5 = .ok (.iconst 0, 1) := by decide +kernel
theorem dX3_has_6 : decode cX3_has 6 = .ok (.istore 5, 2) := by decide +kernel
theorem dX3_has_8 : decode cX3_has 8 = .ok (.iload 5, 2) := by decide +kernel
theorem dX3_has_10 : decode cX3_has 10 = .ok (.bipush 9, 2) := by decide +kernel
theorem dX3_has_12 : decode cX3_has 12 = .ok (.if_icmp .ge 86, 3) := by decide +kernel
theorem dX3_has_15 : decode cX3_has 15 = .ok (.iload_n 2, 1) := by decide +kernel
theorem dX3_has_16 : decode cX3_has 16 = .ok (.ifCond .ne 12, 3) := by decide +kernel
theorem dX3_has_19 : decode cX3_has 19 = .ok (.iload 5, 2) := by decide +kernel
theorem dX3_has_21 : decode cX3_has 21 = .ok (.ifCond .le 7, 3) := by decide +kernel
theorem dX3_has_24 : decode cX3_has 24 = .ok (.iconst 0, 1) := by decide +kernel
theorem dX3_has_25 : decode cX3_has 25 = .ok (.goto 33, 3) := by decide +kernel
theorem dX3_has_28 : decode cX3_has 28 = .ok (.iload_n 2, 1) := by decide +kernel
theorem dX3_has_29 : decode cX3_has 29 = .ok (.ifCond .ge 22, 3) := by decide +kernel
theorem dX3_has_32 : decode cX3_has 32 = .ok (.iload 5, 2) := by decide +kernel
theorem dX3_has_34 : decode cX3_has 34 = .ok (.iconst 2, 1) := by decide +kernel
theorem dX3_has_35 : decode cX3_has 35 = .ok (.irem, 1) := by decide +kernel
theorem dX3_has_36 : decode cX3_has 36 = .ok (.iconst 1, 1) := by decide +kernel
theorem dX3_has_37 : decode cX3_has 37 = .ok (.if_icmp .ne 14, 3) := by decide +kernel
theorem dX3_has_40 : decode cX3_has 40 = .ok (.aload_n 0, 1) := by decide +kernel
theorem dX3_has_41 : decode cX3_has 41 = .ok (.iload_n 1, 1) := by decide +kernel
theorem dX3_has_42 : decode cX3_has 42 = .ok (.iload 5, 2) := by decide +kernel
theorem dX3_has_44 : decode cX3_has 44 = .ok (.invokevirtual 44, 3) := by decide +kernel
theorem dX3_has_47 : decode cX3_has 47 = .ok (.ineg, 1) := by decide +kernel
theorem dX3_has_48 : decode cX3_has 48 = .ok (.goto 10, 3) := by decide +kernel
theorem dX3_has_51 : decode cX3_has 51 = .ok (.aload_n 0, 1) := by decide +kernel
theorem dX3_has_52 : decode cX3_has 52 = .ok (.iload_n 1, 1) := by decide +kernel
theorem dX3_has_53 : decode cX3_has 53 = .ok (.iload 5, 2) := by decide +kernel
theorem dX3_has_55 : decode cX3_has 55 = .ok (.invokevirtual 44, 3) := by decide +kernel
theorem dX3_has_58 : decode cX3_has 58 = .ok (.istore 6, 2) := by decide +kernel
theorem dX3_has_60 : decode cX3_has 60 = .ok (.iload_n 3, 1) := by decide +kernel
theorem dX3_has_61 : decode cX3_has 61 = .ok (.ifCond .ne 8, 3) := by decide +kernel
theorem dX3_has_64 : decode cX3_has 64 = .ok (.iload 6, 2) := by decide +kernel
theorem dX3_has_66 : decode cX3_has 66 = .ok (.ifCond .le 7, 3) := by decide +kernel
theorem dX3_has_69 : decode cX3_has 69 = .ok (.iconst 1, 1) := by decide +kernel
theorem dX3_has_70 : decode cX3_has 70 = .ok (.goto 4, 3) := by decide +kernel
theorem dX3_has_73 : decode cX3_has 73 = .ok (.iconst 0, 1) := by decide +kernel
theorem dX3_has_74 : decode cX3_has 74 = .ok (.istore_n 3, 1) := by decide +kernel
theorem dX3_has_75 : decode cX3_has 75 = .ok (.iload 4, 2) := by decide +kernel
theorem dX3_has_77 : decode cX3_has 77 = .ok (.ifCond .ne 8, 3) := by decide +kernel
theorem dX3_has_80 : decode cX3_has 80 = .ok (.iload 6, 2) := by decide +kernel
theorem dX3_has_82 : decode cX3_has 82 = .ok (.ifCond .ge 7, 3) := by decide +kernel
theorem dX3_has_85 : decode cX3_has 85 = .ok (.iconst 1, 1) := by decide +kernel
theorem dX3_has_86 : decode cX3_has 86 = .ok (.goto 4, 3) := by decide +kernel
theorem dX3_has_89 : decode cX3_has 89 = .ok (.iconst 0, 1) := by decide +kernel
theorem dX3_has_90 : decode cX3_has 90 = .ok (.istore 4, 2) := by decide +kernel
theorem dX3_has_92 : decode cX3_has 92 = .ok (.iinc 5 1, 3) := by decide +kernel
theorem dX3_has_95 : decode cX3_has 95 = .ok (.goto (-87), 3) := by decide +kernel
theorem dX3_has_98 : decode cX3_has 98 = .ok (.iload_n 3, 1) := by decide +kernel
theorem dX3_has_99 : decode cX3_has 99 = .ok (.iload 4, 2) := by decide +kernel
theorem dX3_has_101 : decode cX3_has 101 = .ok (.if_icmp .ne 7, 3) := by decide +kernel
theorem dX3_has_104 : decode cX3_has 104 = .ok (.iconst 1, 1) := by decide +kernel
theorem dX3_has_105 : decode cX3_has 105 = .ok (.goto 4, 3) := by decide +kernel
theorem dX3_has_108 : decode cX3_has 108 = .ok (.iconst 0, 1) := by decide +kernel
theorem dX3_has_109 : decode cX3_has 109 = .ok (.ireturn, 1) := by decide +kernel
theorem dX3_isRoot_0 : decode cX3_isRoot 0 = .ok (.aload_n 0, 1) := by decide +kernel
theorem dX3_isRoot_1 : decode cX3_isRoot 1 = .ok (.iconst 0, 1) := by decide +kernel
theorem dX3_isRoot_2 : decode cX3_isRoot 2 = .ok (.putfield 36, 3) := by decide +kernel
theorem dX3_isRoot_5 : decode cX3_isRoot 5 = .ok (.iload_n 1, 1) := by decide +kernel
theorem dX3_isRoot_6 : decode cX3_isRoot 6 = .ok (.invokestatic 75, 3) := by decide +kernel
theorem dX3_isRoot_9 : decode cX3_isRoot 9 = .ok (.ifCond .ne 9, 3) := by decide +kernel
theorem dX3_isRoot_12 : decode cX3_isRoot 12 = .ok (.aload_n 0, 1) := by decide +kernel
theorem dX3_isRoot_13 : decode cX3_isRoot 13 = .ok (.iconst 1, 1) := by decide +kernel
theorem dX3_isRoot_14 : decode cX3_isRoot 14 = .ok (.invokevirtual 79, 3) := by decide +kernel
theorem dX3_isRoot_17 : decode cX3_isRoot 17 = .ok (.ireturn, 1) := by decide +kernel
theorem dX3_isRoot_18 : decode cX3_isRoot 18 = .ok (.iload_n 2, 1) := by decide +kernel
theorem dX3_isRoot_19 : decode cX3_isRoot 19 = .ok (.invokestatic 82, 3) := by decide +kernel
theorem dX3_isRoot_22 : decode cX3_isRoot 22 = .ok (.ifCond .ne 11, 3) := by decide +kernel
theorem dX3_isRoot_25 : decode cX3_isRoot 25 = .ok (.aload_n 0, 1) := by decide +kernel
theorem dX3_isRoot_26 : decode cX3_isRoot 26 = .ok (.iconst 2, 1) := by decide +kernel
theorem dX3_isRoot_27 : decode cX3_isRoot 27 = .ok (.invokevirtual 79, 3) := by decide +kernel
theorem dX3_isRoot_30 : decode cX3_isRoot 30 = .ok (.goto 17, 3) := by decide +kernel
theorem dX3_isRoot_33 : decode cX3_isRoot 33 = .ok (.aload_n 0, 1) := by decide +kernel
theorem dX3_isRoot_34 : decode cX3_isRoot 34 = .ok (.iload_n 1, 1) := by decide +kernel
theorem dX3_isRoot_35 : decode cX3_isRoot 35 = .ok (.iload_n 2, 1) := by decide +kernel
theorem dX3_isRoot_36 : decode cX3_isRoot 36 = .ok (.invokevirtual 117, 3) := by decide +kernel
theorem dX3_isRoot_39 : decode cX3_isRoot 39 = .ok (.ifCond .eq 7, 3) := by decide +kernel
theorem dX3_isRoot_42 : decode cX3_isRoot 42 = .ok (.iconst 1, 1) := by decide +kernel
theorem dX3_isRoot_43 : decode cX3_isRoot 43 = .ok (.goto 4, 3) := by decide +kernel
theorem dX3_isRoot_46 : decode cX3_isRoot 46 = .ok (.iconst 0, 1) := by decide +kernel
theorem dX3_isRoot_47 : decode cX3_isRoot 47 = .ok (.ireturn, 1) := by decide +kernel
theorem dX3_times_0 : decode cX3_times 0 = .ok (.aload_n 0, 1) := by decide +kernel
theorem dX3_times_1 : decode cX3_times 1 = .ok (.iconst 0, 1) := by decide +kernel
theorem dX3_times_2 : decode cX3_times 2 = .ok (.putfield 36, 3) := by decide +kernel
theorem dX3_times_5 : decode cX3_times 5 = .ok (.iload_n 1, 1) := by decide +kernel
theorem dX3_times_6 : decode cX3_times 6 = .ok (.invokestatic 75, 3) := by decide +kernel
theorem dX3_times_9 : decode cX3_times 9 = .ok (.ifCond .ne 9, 3) := by decide +kernel
theorem dX3_times_12 : decode cX3_times 12 = .ok (.aload_n 0, 1) := by decide +kernel
theorem dX3_times_13 : decode cX3_times 13 = .ok (.iconst 1, 1) := by decide +kernel
theorem dX3_times_14 : decode cX3_times 14 = .ok (.invokevirtual 79, 3) := by decide +kernel
theorem dX3_times_17 : decode cX3_times 17 = .ok (.ireturn, 1) := by decide +kernel
theorem dX3_times_18 : decode cX3_times 18 = .ok (.iload_n 2, 1) := by decide +kernel
theorem dX3_times_19 : decode cX3_times 19 = .ok (.invokestatic 82, 3) := by decide +kernel
theorem dX3_times_22 : decode cX3_times 22 = .ok (.ifCond .eq 21, 3) := by decide +kernel
theorem dX3_times_25 : decode cX3_times 25 = .ok (.iload_n 3, 1) := by decide +kernel
theorem dX3_times_26 : decode cX3_times 26 = .ok (.iconst 0, 1) := by decide +kernel
theorem dX3_times_27 : decode cX3_times 27 = .ok (.iconst 1, 1) := by decide +kernel
theorem dX3_times_28 : decode cX3_times 28 = .ok (.invokestatic 40, 3) := by decide +kernel
theorem dX3_times_31 : decode cX3_times 31 = .ok (.ifCond .eq 12, 3) := by decide +kernel
theorem dX3_times_34 : decode cX3_times 34 = .ok (.aload_n 0, 1) := by decide +kernel
theorem dX3_times_35 : decode cX3_times 35 = .ok (.iload_n 1, 1) := by decide +kernel
theorem dX3_times_36 : decode cX3_times 36 = .ok (.iload_n 2, 1) := by decide +kernel
theorem dX3_times_37 : decode cX3_times 37 = .ok (.invokevirtual 107, 3) := by decide +kernel
theorem dX3_times_40 : decode cX3_times 40 = .ok (.goto 8, 3) := by decide +kernel
theorem dX3_times_43 : decode cX3_times 43 = .ok (.aload_n 0, 1) := by decide +kernel
theorem dX3_times_44 : decode cX3_times 44 = .ok (.iconst 2, 1) := by decide +kernel
theorem dX3_times_45 : decode cX3_times 45 = .ok (.invokevirtual 79, 3) := by decide +kernel
theorem dX3_times_48 : decode cX3_times 48 = .ok (.ireturn, 1) := by decide +kernel
theorem dX3_quotients_0 : decode cX3_quotients 0 = .ok (.aload_n 0, 1) := by decide +kernel
theorem dX3_quotients_1 : decode cX3_quotients 1 = .ok (.iconst 0, 1) := by decide +kernel
theorem dX3_quotients_2 : decode cX3_quotients 2 = .ok (.putfield 36, 3) := by decide +kernel
theorem dX3_quotients_5 : decode cX3_quotients 5 = .ok (.iload_n 1, 1) := by decide +kernel
theorem dX3_quotients_6 : decode cX3_quotients 6 = .ok (.invokestatic 75, 3) := by decide +kernel
theorem dX3_quotients_9 : decode cX3_quotients 9 = .ok (.ifCond .ne 9, 3) := by decide +kernel
theorem dX3_quotients_12 : decode cX3_quotients 12 = .ok (.aload_n 0, 1) := by decide +kernel
theorem dX3_quotients_13 : decode cX3_quotients 13 = .ok (.iconst 1, 1) := by decide +kernel
theorem dX3_quotients_14 : decode cX3_quotients 14 = .ok (.invokevirtual 79, 3) := by decide +kernel
theorem dX3_quotients_17 : decode cX3_quotients 17 = .ok (.ireturn, 1) := by decide +kernel
theorem dX3_quotients_18 : decode cX3_quotients 18 = .ok (.iload_n 2, 1) := by decide +kernel
theorem dX3_quotients_19 : decode cX3_quotients 19 = .ok (.invokestatic 82, 3) := by decide +kernel
theorem dX3_quotients_22 : decode cX3_quotients 22 = .ok (.ifCond .eq 12, 3) := by decide +kernel
theorem dX3_quotients_25 : decode cX3_quotients 25 = .ok (.aload_n 0, 1) := by decide +kernel
theorem dX3_quotients_26 : decode cX3_quotients 26 = .ok (.iload_n 1, 1) := by decide +kernel
theorem dX3_quotients_27 : decode cX3_quotients 27 = .ok (.iload_n 2, 1) := by decide +kernel
theorem dX3_quotients_28 : decode cX3_quotients 28 = .ok (.invokevirtual 91, 3) := by decide +kernel
theorem dX3_quotients_31 : decode cX3_quotients 31 = .ok (.goto 8, 3) := by decide +kernel
theorem dX3_quotients_34 : decode cX3_quotients 34 = .ok (.aload_n 0, 1) := by decide +kernel
theorem dX3_quotients_35 : decode cX3_quotients 35 = .ok (.iconst 2, 1) := by decide +kernel
theorem dX3_quotients_36 : decode cX3_quotients 36 = .ok (.invokevirtual 79, 3) := by decide +kernel
theorem dX3_quotients_39 : decode cX3_quotients 39 = .ok (.ireturn, 1) := by decide +kernel
theorem dX3_bestForm_0 : decode cX3_bestForm 0 = .ok (.aload_n 0, 1) := by decide +kernel
theorem dX3_bestForm_1 : decode cX3_bestForm 1 = .ok (.iload_n 1, 1) := by decide +kernel
theorem dX3_bestForm_2 : decode cX3_bestForm 2 = .ok (.iload_n 2, 1) := by decide +kernel
theorem dX3_bestForm_3 : decode cX3_bestForm 3 = .ok (.invokevirtual 91, 3) := by decide +kernel
theorem dX3_bestForm_6 : decode cX3_bestForm 6 = .ok (.ifCond .ne 8, 3) := by decide +kernel
theorem dX3_bestForm_9 : decode cX3_bestForm 9 = .ok (.bipush (-9), 2) := by decide +kernel
theorem dX3_bestForm_11 : decode cX3_bestForm 11 = .ok (.goto 10, 3) := by decide +kernel
theorem dX3_bestForm_14 : decode cX3_bestForm 14 = .ok (.aload_n 0, 1) := by decide +kernel
theorem dX3_bestForm_15 : decode cX3_bestForm 15 = .ok (.getfield 29, 3) := by decide +kernel
theorem dX3_bestForm_18 : decode cX3_bestForm 18 = .ok (.invokestatic 110, 3) := by decide +kernel
theorem dX3_bestForm_21 : decode cX3_bestForm 21 = .ok (.ireturn, 1) := by decide +kernel
theorem dX3_best_0 : decode cX3_best 0 = .ok (.aload_n 0, 1) := by decide +kernel
theorem dX3_best_1 : decode cX3_best 1 = .ok (.iconst 0, 1) := by decide +kernel
theorem dX3_best_2 : decode cX3_best 2 = .ok (.putfield 36, 3) := by decide +kernel
theorem dX3_best_5 : decode cX3_best 5 = .ok (.iload_n 1, 1) := by decide +kernel
theorem dX3_best_6 : decode cX3_best 6 = .ok (.invokestatic 75, 3) := by decide +kernel
theorem dX3_best_9 : decode cX3_best 9 = .ok (.ifCond .ne 9, 3) := by decide +kernel
theorem dX3_best_12 : decode cX3_best 12 = .ok (.aload_n 0, 1) := by decide +kernel
theorem dX3_best_13 : decode cX3_best 13 = .ok (.iconst 1, 1) := by decide +kernel
theorem dX3_best_14 : decode cX3_best 14 = .ok (.invokevirtual 79, 3) := by decide +kernel
theorem dX3_best_17 : decode cX3_best 17 = .ok (.ireturn, 1) := by decide +kernel
theorem dX3_best_18 : decode cX3_best 18 = .ok (.iload_n 2, 1) := by decide +kernel
theorem dX3_best_19 : decode cX3_best 19 = .ok (.invokestatic 82, 3) := by decide +kernel
theorem dX3_best_22 : decode cX3_best 22 = .ok (.ifCond .eq 12, 3) := by decide +kernel
theorem dX3_best_25 : decode cX3_best 25 = .ok (.aload_n 0, 1) := by decide +kernel
theorem dX3_best_26 : decode cX3_best 26 = .ok (.iload_n 1, 1) := by decide +kernel
theorem dX3_best_27 : decode cX3_best 27 = .ok (.iload_n 2, 1) := by decide +kernel
theorem dX3_best_28 : decode cX3_best 28 = .ok (.invokevirtual 121, 3) := by decide +kernel
theorem dX3_best_31 : decode cX3_best 31 = .ok (.goto 8, 3) := by decide +kernel
theorem dX3_best_34 : decode cX3_best 34 = .ok (.aload_n 0, 1) := by decide +kernel
theorem dX3_best_35 : decode cX3_best 35 = .ok (.iconst 2, 1) := by decide +kernel
theorem dX3_best_36 : decode cX3_best 36 = .ok (.invokevirtual 79, 3) := by decide +kernel
theorem dX3_best_39 : decode cX3_best 39 = .ok (.ireturn, 1) := by decide +kernel
theorem dX3_hasProduct_0 : decode cX3_hasProduct 0 = .ok (.iconst 0, 1) := by decide +kernel
theorem dX3_hasProduct_1 : decode cX3_hasProduct 1 = .ok (.istore 5, 2) := by decide +kernel
theorem dX3_hasProduct_3 : decode cX3_hasProduct 3 = .ok (.iconst 0, 1) := by decide +kernel
theorem dX3_hasProduct_4 : decode cX3_hasProduct 4 = .ok (.istore 6, 2) := by decide +kernel
theorem dX3_hasProduct_6 : decode cX3_hasProduct 6 = .ok (.iload 6, 2) := by decide +kernel
theorem dX3_hasProduct_8 : decode cX3_hasProduct 8 = .ok (.iload_n 3, 1) := by decide +kernel
theorem dX3_hasProduct_9 : decode cX3_hasProduct 9 = .ok (.if_icmp .gt 43, 3) := by decide +kernel
theorem dX3_hasProduct_12 : decode cX3_hasProduct 12 = .ok (.iload 5, 2) := by decide +kernel
theorem dX3_hasProduct_14 : decode cX3_hasProduct 14 = .ok (.ifCond .ne 25, 3) := by decide +kernel
theorem dX3_hasProduct_17 : decode cX3_hasProduct 17 = .ok (.aload_n 0, 1) := by decide +kernel
theorem dX3_hasProduct_18 : decode cX3_hasProduct 18 = .ok (.iload_n 1, 1) := by decide +kernel
theorem dX3_hasProduct_19 : decode cX3_hasProduct 19 = .ok (.iload 6, 2) := by decide +kernel
theorem dX3_hasProduct_21 : decode cX3_hasProduct 21 = .ok (.invokevirtual 44, 3) := by decide +kernel
theorem dX3_hasProduct_24 : decode cX3_hasProduct 24 = .ok (.aload_n 0, 1) := by decide +kernel
theorem dX3_hasProduct_25 : decode cX3_hasProduct 25 = .ok (.iload_n 2, 1) := by decide +kernel
theorem dX3_hasProduct_26 : decode cX3_hasProduct 26 = .ok (.iload_n 3, 1) := by decide +kernel
theorem dX3_hasProduct_27 : decode cX3_hasProduct 27 = .ok (.iload 6, 2) := by decide +kernel
theorem dX3_hasProduct_29 : decode cX3_hasProduct 29 = .ok (.isub, 1) := by decide +kernel
theorem dX3_hasProduct_30 : decode cX3_hasProduct 30 = .ok (.invokevirtual 44, 3) := by decide +kernel
theorem dX3_hasProduct_33 : decode cX3_hasProduct 33 = .ok (.imul, 1) := by decide +kernel
theorem dX3_hasProduct_34 : decode cX3_hasProduct 34 = .ok (.iload 4, 2) := by decide +kernel
theorem dX3_hasProduct_36 : decode cX3_hasProduct 36 = .ok (.if_icmp .ne 7, 3) := by decide +kernel
theorem dX3_hasProduct_39 : decode cX3_hasProduct 39 = .ok (.iconst 1, 1) := by decide +kernel
theorem dX3_hasProduct_40 : decode cX3_hasProduct 40 = .ok (.goto 4, 3) := by decide +kernel
theorem dX3_hasProduct_43 : decode cX3_hasProduct 43 = .ok (.iconst 0, 1) := by decide +kernel
theorem dX3_hasProduct_44 : decode cX3_hasProduct 44 = .ok (.istore 5, 2) := by decide +kernel
theorem dX3_hasProduct_46 : decode cX3_hasProduct 46 = .ok (.iinc 6 1, 3) := by decide +kernel
theorem dX3_hasProduct_49 : decode cX3_hasProduct 49 = .ok (.goto (-43), 3) := by decide +kernel
theorem dX3_hasProduct_52 : decode cX3_hasProduct 52 = .ok (.iload 5, 2) := by decide +kernel
theorem dX3_hasProduct_54 : decode cX3_hasProduct 54 = .ok (.ireturn, 1) := by decide +kernel
theorem dX3_isThree_0 : decode cX3_isThree 0 = .ok (.iload 4, 2) := by decide +kernel
theorem dX3_isThree_2 : decode cX3_isThree 2 = .ok (.ifCond .ne 27, 3) := by decide +kernel
theorem dX3_isThree_5 : decode cX3_isThree 5 = .ok (.aload_n 0, 1) := by decide +kernel
theorem dX3_isThree_6 : decode cX3_isThree 6 = .ok (.iload_n 1, 1) := by decide +kernel
theorem dX3_isThree_7 : decode cX3_isThree 7 = .ok (.iload_n 3, 1) := by decide +kernel
theorem dX3_isThree_8 : decode cX3_isThree 8 = .ok (.invokevirtual 44, 3) := by decide +kernel
theorem dX3_isThree_11 : decode cX3_isThree 11 = .ok (.aload_n 0, 1) := by decide +kernel
theorem dX3_isThree_12 : decode cX3_isThree 12 = .ok (.iload_n 2, 1) := by decide +kernel
theorem dX3_isThree_13 : decode cX3_isThree 13 = .ok (.iload_n 3, 1) := by decide +kernel
theorem dX3_isThree_14 : decode cX3_isThree 14 = .ok (.invokevirtual 44, 3) := by decide +kernel
theorem dX3_isThree_17 : decode cX3_isThree 17 = .ok (.imul, 1) := by decide +kernel
theorem dX3_isThree_18 : decode cX3_isThree 18 = .ok (.ifCond .ge 7, 3) := by decide +kernel
theorem dX3_isThree_21 : decode cX3_isThree 21 = .ok (.iconst 1, 1) := by decide +kernel
theorem dX3_isThree_22 : decode cX3_isThree 22 = .ok (.goto 34, 3) := by decide +kernel
theorem dX3_isThree_25 : decode cX3_isThree 25 = .ok (.iconst 0, 1) := by decide +kernel
theorem dX3_isThree_26 : decode cX3_isThree 26 = .ok (.goto 30, 3) := by decide +kernel
theorem dX3_isThree_29 : decode cX3_isThree 29 = .ok (.aload_n 0, 1) := by decide +kernel
theorem dX3_isThree_30 : decode cX3_isThree 30 = .ok (.iload_n 1, 1) := by decide +kernel
theorem dX3_isThree_31 : decode cX3_isThree 31 = .ok (.iload_n 2, 1) := by decide +kernel
theorem dX3_isThree_32 : decode cX3_isThree 32 = .ok (.iload_n 3, 1) := by decide +kernel
theorem dX3_isThree_33 : decode cX3_isThree 33 = .ok (.iconst 1, 1) := by decide +kernel
theorem dX3_isThree_34 : decode cX3_isThree 34 = .ok (.invokevirtual 124, 3) := by decide +kernel
theorem dX3_isThree_37 : decode cX3_isThree 37 = .ok (.ifCond .eq 18, 3) := by decide +kernel
theorem dX3_isThree_40 : decode cX3_isThree 40 = .ok (.aload_n 0, 1) := by decide +kernel
theorem dX3_isThree_41 : decode cX3_isThree 41 = .ok (.iload_n 1, 1) := by decide +kernel
theorem dX3_isThree_42 : decode cX3_isThree 42 = .ok (.iload_n 2, 1) := by decide +kernel
theorem dX3_isThree_43 : decode cX3_isThree 43 = .ok (.iload_n 3, 1) := by decide +kernel
theorem dX3_isThree_44 : decode cX3_isThree 44 = .ok (.iconst (-1), 1) := by decide +kernel
theorem dX3_isThree_45 : decode cX3_isThree 45 = .ok (.invokevirtual 124, 3) := by decide +kernel
theorem dX3_isThree_48 : decode cX3_isThree 48 = .ok (.ifCond .eq 7, 3) := by decide +kernel
theorem dX3_isThree_51 : decode cX3_isThree 51 = .ok (.iconst 1, 1) := by decide +kernel
theorem dX3_isThree_52 : decode cX3_isThree 52 = .ok (.goto 4, 3) := by decide +kernel
theorem dX3_isThree_55 : decode cX3_isThree 55 = .ok (.iconst 0, 1) := by decide +kernel
theorem dX3_isThree_56 : decode cX3_isThree 56 = .ok (.ireturn, 1) := by decide +kernel
theorem dX3_only_0 : decode cX3_only 0 = .ok (.iload 4, 2) := by decide +kernel
theorem dX3_only_2 : decode cX3_only 2 = .ok (.ifCond .ne 28, 3) := by decide +kernel
theorem dX3_only_5 : decode cX3_only 5 = .ok (.aload_n 0, 1) := by decide +kernel
theorem dX3_only_6 : decode cX3_only 6 = .ok (.iload_n 1, 1) := by decide +kernel
theorem dX3_only_7 : decode cX3_only 7 = .ok (.iload_n 3, 1) := by decide +kernel
theorem dX3_only_8 : decode cX3_only 8 = .ok (.invokevirtual 44, 3) := by decide +kernel
theorem dX3_only_11 : decode cX3_only 11 = .ok (.ifCond .ne 12, 3) := by decide +kernel
theorem dX3_only_14 : decode cX3_only 14 = .ok (.aload_n 0, 1) := by decide +kernel
theorem dX3_only_15 : decode cX3_only 15 = .ok (.iload_n 2, 1) := by decide +kernel
theorem dX3_only_16 : decode cX3_only 16 = .ok (.iload_n 3, 1) := by decide +kernel
theorem dX3_only_17 : decode cX3_only 17 = .ok (.invokevirtual 44, 3) := by decide +kernel
theorem dX3_only_20 : decode cX3_only 20 = .ok (.goto 9, 3) := by decide +kernel
theorem dX3_only_23 : decode cX3_only 23 = .ok (.aload_n 0, 1) := by decide +kernel
theorem dX3_only_24 : decode cX3_only 24 = .ok (.iload_n 1, 1) := by decide +kernel
theorem dX3_only_25 : decode cX3_only 25 = .ok (.iload_n 3, 1) := by decide +kernel
theorem dX3_only_26 : decode cX3_only 26 = .ok (.invokevirtual 44, 3) := by decide +kernel
theorem dX3_only_29 : decode cX3_only 29 = .ok (.ireturn, 1) := by decide +kernel
theorem dX3_only_30 : decode cX3_only 30 = .ok (.aload_n 0, 1) := by decide +kernel
theorem dX3_only_31 : decode cX3_only 31 = .ok (.iload_n 1, 1) := by decide +kernel
theorem dX3_only_32 : decode cX3_only 32 = .ok (.iload_n 2, 1) := by decide +kernel
theorem dX3_only_33 : decode cX3_only 33 = .ok (.iload_n 3, 1) := by decide +kernel
theorem dX3_only_34 : decode cX3_only 34 = .ok (.iconst 1, 1) := by decide +kernel
theorem dX3_only_35 : decode cX3_only 35 = .ok (.invokevirtual 124, 3) := by decide +kernel
theorem dX3_only_38 : decode cX3_only 38 = .ok (.ifCond .eq 7, 3) := by decide +kernel
theorem dX3_only_41 : decode cX3_only 41 = .ok (.iconst 1, 1) := by decide +kernel
theorem dX3_only_42 : decode cX3_only 42 = .ok (.goto 19, 3) := by decide +kernel
theorem dX3_only_45 : decode cX3_only 45 = .ok (.aload_n 0, 1) := by decide +kernel
theorem dX3_only_46 : decode cX3_only 46 = .ok (.iload_n 1, 1) := by decide +kernel
theorem dX3_only_47 : decode cX3_only 47 = .ok (.iload_n 2, 1) := by decide +kernel
theorem dX3_only_48 : decode cX3_only 48 = .ok (.iload_n 3, 1) := by decide +kernel
theorem dX3_only_49 : decode cX3_only 49 = .ok (.iconst (-1), 1) := by decide +kernel
theorem dX3_only_50 : decode cX3_only 50 = .ok (.invokevirtual 124, 3) := by decide +kernel
theorem dX3_only_53 : decode cX3_only 53 = .ok (.ifCond .eq 7, 3) := by decide +kernel
theorem dX3_only_56 : decode cX3_only 56 = .ok (.iconst (-1), 1) := by decide +kernel
theorem dX3_only_57 : decode cX3_only 57 = .ok (.goto 4, 3) := by decide +kernel
theorem dX3_only_60 : decode cX3_only 60 = .ok (.iconst 0, 1) := by decide +kernel
theorem dX3_only_61 : decode cX3_only 61 = .ok (.ireturn, 1) := by decide +kernel
theorem dX3_isTooHigh_0 : decode cX3_isTooHigh 0 = .ok (.iload_n 3, 1) := by decide +kernel
theorem dX3_isTooHigh_1 : decode cX3_isTooHigh 1 = .ok (.iconst 1, 1) := by decide +kernel
theorem dX3_isTooHigh_2 : decode cX3_isTooHigh 2 = .ok (.if_icmp .ne 23, 3) := by decide +kernel
theorem dX3_isTooHigh_5 : decode cX3_isTooHigh 5 = .ok (.aload_n 0, 1) := by decide +kernel
theorem dX3_isTooHigh_6 : decode cX3_isTooHigh 6 = .ok (.iload_n 1, 1) := by decide +kernel
theorem dX3_isTooHigh_7 : decode cX3_isTooHigh 7 = .ok (.invokevirtual 51, 3) := by decide +kernel
theorem dX3_isTooHigh_10 : decode cX3_isTooHigh 10 = .ok (.aload_n 0, 1) := by decide +kernel
theorem dX3_isTooHigh_11 : decode cX3_isTooHigh 11 = .ok (.iload_n 2, 1) := by decide +kernel
theorem dX3_isTooHigh_12 : decode cX3_isTooHigh 12 = .ok (.invokevirtual 51, 3) := by decide +kernel
theorem dX3_isTooHigh_15 : decode cX3_isTooHigh 15 = .ok (.iadd, 1) := by decide +kernel
theorem dX3_isTooHigh_16 : decode cX3_isTooHigh 16 = .ok (.bipush 8, 2) := by decide +kernel
theorem dX3_isTooHigh_18 : decode cX3_isTooHigh 18 = .ok (.if_icmp .le 7, 3) := by decide +kernel
theorem dX3_isTooHigh_21 : decode cX3_isTooHigh 21 = .ok (.iconst 1, 1) := by decide +kernel
theorem dX3_isTooHigh_22 : decode cX3_isTooHigh 22 = .ok (.goto 4, 3) := by decide +kernel
theorem dX3_isTooHigh_25 : decode cX3_isTooHigh 25 = .ok (.iconst 0, 1) := by decide +kernel
theorem dX3_isTooHigh_26 : decode cX3_isTooHigh 26 = .ok (.ireturn, 1) := by decide +kernel
theorem dX3_rows_0 : decode cX3_rows 0 = .ok (.aload_n 0, 1) := by decide +kernel
theorem dX3_rows_1 : decode cX3_rows 1 = .ok (.iload_n 1, 1) := by decide +kernel
theorem dX3_rows_2 : decode cX3_rows 2 = .ok (.iload_n 2, 1) := by decide +kernel
theorem dX3_rows_3 : decode cX3_rows 3 = .ok (.iload_n 3, 1) := by decide +kernel
theorem dX3_rows_4 : decode cX3_rows 4 = .ok (.invokevirtual 128, 3) := by decide +kernel
theorem dX3_rows_7 : decode cX3_rows 7 = .ok (.ifCond .eq 6, 3) := by decide +kernel
theorem dX3_rows_10 : decode cX3_rows 10 = .ok (.bipush (-9), 2) := by decide +kernel
theorem dX3_rows_12 : decode cX3_rows 12 = .ok (.ireturn, 1) := by decide +kernel
theorem dX3_rows_13 : decode cX3_rows 13 = .ok (.iconst 1, 1) := by decide +kernel
theorem dX3_rows_14 : decode cX3_rows 14 = .ok (.istore 4, 2) := by decide +kernel
theorem dX3_rows_16 : decode cX3_rows 16 = .ok (.iconst 0, 1) := by decide +kernel
theorem dX3_rows_17 : decode cX3_rows 17 = .ok (.istore 5, 2) := by decide +kernel
theorem dX3_rows_19 : decode cX3_rows 19 = .ok (.iload 5, 2) := by decide +kernel
theorem dX3_rows_21 : decode cX3_rows 21 = .ok (.bipush 9, 2) := by decide +kernel
theorem dX3_rows_23 : decode cX3_rows 23 = .ok (.if_icmp .ge 31, 3) := by decide +kernel
theorem dX3_rows_26 : decode cX3_rows 26 = .ok (.iload 4, 2) := by decide +kernel
theorem dX3_rows_28 : decode cX3_rows 28 = .ok (.aload_n 0, 1) := by decide +kernel
theorem dX3_rows_29 : decode cX3_rows 29 = .ok (.iload_n 1, 1) := by decide +kernel
theorem dX3_rows_30 : decode cX3_rows 30 = .ok (.iload_n 2, 1) := by decide +kernel
theorem dX3_rows_31 : decode cX3_rows 31 = .ok (.iload 5, 2) := by decide +kernel
theorem dX3_rows_33 : decode cX3_rows 33 = .ok (.iload_n 3, 1) := by decide +kernel
theorem dX3_rows_34 : decode cX3_rows 34 = .ok (.invokevirtual 131, 3) := by decide +kernel
theorem dX3_rows_37 : decode cX3_rows 37 = .ok (.ifCond .eq 7, 3) := by decide +kernel
theorem dX3_rows_40 : decode cX3_rows 40 = .ok (.iconst 3, 1) := by decide +kernel
theorem dX3_rows_41 : decode cX3_rows 41 = .ok (.goto 4, 3) := by decide +kernel
theorem dX3_rows_44 : decode cX3_rows 44 = .ok (.iconst 1, 1) := by decide +kernel
theorem dX3_rows_45 : decode cX3_rows 45 = .ok (.imul, 1) := by decide +kernel
theorem dX3_rows_46 : decode cX3_rows 46 = .ok (.istore 4, 2) := by decide +kernel
theorem dX3_rows_48 : decode cX3_rows 48 = .ok (.iinc 5 1, 3) := by decide +kernel
theorem dX3_rows_51 : decode cX3_rows 51 = .ok (.goto (-32), 3) := by decide +kernel
theorem dX3_rows_54 : decode cX3_rows 54 = .ok (.iload 4, 2) := by decide +kernel
theorem dX3_rows_56 : decode cX3_rows 56 = .ok (.ireturn, 1) := by decide +kernel
theorem dX3_many_0 : decode cX3_many 0 = .ok (.aload_n 0, 1) := by decide +kernel
theorem dX3_many_1 : decode cX3_many 1 = .ok (.iconst 0, 1) := by decide +kernel
theorem dX3_many_2 : decode cX3_many 2 = .ok (.putfield 36, 3) := by decide +kernel
theorem dX3_many_5 : decode cX3_many 5 = .ok (.iload_n 1, 1) := by decide +kernel
theorem dX3_many_6 : decode cX3_many 6 = .ok (.invokestatic 75, 3) := by decide +kernel
theorem dX3_many_9 : decode cX3_many 9 = .ok (.ifCond .eq 10, 3) := by decide +kernel
theorem dX3_many_12 : decode cX3_many 12 = .ok (.iload_n 2, 1) := by decide +kernel
theorem dX3_many_13 : decode cX3_many 13 = .ok (.invokestatic 75, 3) := by decide +kernel
theorem dX3_many_16 : decode cX3_many 16 = .ok (.ifCond .ne 9, 3) := by decide +kernel
theorem dX3_many_19 : decode cX3_many 19 = .ok (.aload_n 0, 1) := by decide +kernel
theorem dX3_many_20 : decode cX3_many 20 = .ok (.iconst 1, 1) := by decide +kernel
theorem dX3_many_21 : decode cX3_many 21 = .ok (.invokevirtual 79, 3) := by decide +kernel
theorem dX3_many_24 : decode cX3_many 24 = .ok (.ireturn, 1) := by decide +kernel
theorem dX3_many_25 : decode cX3_many 25 = .ok (.iload_n 3, 1) := by decide +kernel
theorem dX3_many_26 : decode cX3_many 26 = .ok (.iconst 0, 1) := by decide +kernel
theorem dX3_many_27 : decode cX3_many 27 = .ok (.iconst 1, 1) := by decide +kernel
theorem dX3_many_28 : decode cX3_many 28 = .ok (.invokestatic 40, 3) := by decide +kernel
theorem dX3_many_31 : decode cX3_many 31 = .ok (.ifCond .eq 13, 3) := by decide +kernel
theorem dX3_many_34 : decode cX3_many 34 = .ok (.aload_n 0, 1) := by decide +kernel
theorem dX3_many_35 : decode cX3_many 35 = .ok (.iload_n 1, 1) := by decide +kernel
theorem dX3_many_36 : decode cX3_many 36 = .ok (.iload_n 2, 1) := by decide +kernel
theorem dX3_many_37 : decode cX3_many 37 = .ok (.iload_n 3, 1) := by decide +kernel
theorem dX3_many_38 : decode cX3_many 38 = .ok (.invokevirtual 134, 3) := by decide +kernel
theorem dX3_many_41 : decode cX3_many 41 = .ok (.goto 8, 3) := by decide +kernel
theorem dX3_many_44 : decode cX3_many 44 = .ok (.aload_n 0, 1) := by decide +kernel
theorem dX3_many_45 : decode cX3_many 45 = .ok (.iconst 2, 1) := by decide +kernel
theorem dX3_many_46 : decode cX3_many 46 = .ok (.invokevirtual 79, 3) := by decide +kernel
theorem dX3_many_49 : decode cX3_many 49 = .ok (.ireturn, 1) := by decide +kernel
theorem dX3_isAmong_0 : decode cX3_isAmong 0 = .ok (.aload_n 0, 1) := by decide +kernel
theorem dX3_isAmong_1 : decode cX3_isAmong 1 = .ok (.iload_n 2, 1) := by decide +kernel
theorem dX3_isAmong_2 : decode cX3_isAmong 2 = .ok (.iload_n 3, 1) := by decide +kernel
theorem dX3_isAmong_3 : decode cX3_isAmong 3 = .ok (.iload 4, 2) := by decide +kernel
theorem dX3_isAmong_5 : decode cX3_isAmong 5 = .ok (.invokevirtual 128, 3) := by decide +kernel
theorem dX3_isAmong_8 : decode cX3_isAmong 8 = .ok (.ifCond .ne 7, 3) := by decide +kernel
theorem dX3_isAmong_11 : decode cX3_isAmong 11 = .ok (.iconst 1, 1) := by decide +kernel
theorem dX3_isAmong_12 : decode cX3_isAmong 12 = .ok (.goto 4, 3) := by decide +kernel
theorem dX3_isAmong_15 : decode cX3_isAmong 15 = .ok (.iconst 0, 1) := by decide +kernel
theorem dX3_isAmong_16 : decode cX3_isAmong 16 = .ok (.istore 5, 2) := by decide +kernel
theorem dX3_isAmong_18 : decode cX3_isAmong 18 = .ok (.iconst 0, 1) := by decide +kernel
theorem dX3_isAmong_19 : decode cX3_isAmong 19 = .ok (.istore 6, 2) := by decide +kernel
theorem dX3_isAmong_21 : decode cX3_isAmong 21 = .ok (.iload 6, 2) := by decide +kernel
theorem dX3_isAmong_23 : decode cX3_isAmong 23 = .ok (.bipush 9, 2) := by decide +kernel
theorem dX3_isAmong_25 : decode cX3_isAmong 25 = .ok (.if_icmp .ge 54, 3) := by decide +kernel
theorem dX3_isAmong_28 : decode cX3_isAmong 28 = .ok (.iload 5, 2) := by decide +kernel
theorem dX3_isAmong_30 : decode cX3_isAmong 30 = .ok (.ifCond .eq 40, 3) := by decide +kernel
theorem dX3_isAmong_33 : decode cX3_isAmong 33 = .ok (.aload_n 0, 1) := by decide +kernel
theorem dX3_isAmong_34 : decode cX3_isAmong 34 = .ok (.iload_n 2, 1) := by decide +kernel
theorem dX3_isAmong_35 : decode cX3_isAmong 35 = .ok (.iload_n 3, 1) := by decide +kernel
theorem dX3_isAmong_36 : decode cX3_isAmong 36 = .ok (.iload 6, 2) := by decide +kernel
theorem dX3_isAmong_38 : decode cX3_isAmong 38 = .ok (.iload 4, 2) := by decide +kernel
theorem dX3_isAmong_40 : decode cX3_isAmong 40 = .ok (.invokevirtual 131, 3) := by decide +kernel
theorem dX3_isAmong_43 : decode cX3_isAmong 43 = .ok (.ifCond .ne 23, 3) := by decide +kernel
theorem dX3_isAmong_46 : decode cX3_isAmong 46 = .ok (.aload_n 0, 1) := by decide +kernel
theorem dX3_isAmong_47 : decode cX3_isAmong 47 = .ok (.iload_n 1, 1) := by decide +kernel
theorem dX3_isAmong_48 : decode cX3_isAmong 48 = .ok (.iload 6, 2) := by decide +kernel
theorem dX3_isAmong_50 : decode cX3_isAmong 50 = .ok (.invokevirtual 44, 3) := by decide +kernel
theorem dX3_isAmong_53 : decode cX3_isAmong 53 = .ok (.aload_n 0, 1) := by decide +kernel
theorem dX3_isAmong_54 : decode cX3_isAmong 54 = .ok (.iload_n 2, 1) := by decide +kernel
theorem dX3_isAmong_55 : decode cX3_isAmong 55 = .ok (.iload_n 3, 1) := by decide +kernel
theorem dX3_isAmong_56 : decode cX3_isAmong 56 = .ok (.iload 6, 2) := by decide +kernel
theorem dX3_isAmong_58 : decode cX3_isAmong 58 = .ok (.iload 4, 2) := by decide +kernel
theorem dX3_isAmong_60 : decode cX3_isAmong 60 = .ok (.invokevirtual 138, 3) := by decide +kernel
theorem dX3_isAmong_63 : decode cX3_isAmong 63 = .ok (.if_icmp .ne 7, 3) := by decide +kernel
theorem dX3_isAmong_66 : decode cX3_isAmong 66 = .ok (.iconst 1, 1) := by decide +kernel
theorem dX3_isAmong_67 : decode cX3_isAmong 67 = .ok (.goto 4, 3) := by decide +kernel
theorem dX3_isAmong_70 : decode cX3_isAmong 70 = .ok (.iconst 0, 1) := by decide +kernel
theorem dX3_isAmong_71 : decode cX3_isAmong 71 = .ok (.istore 5, 2) := by decide +kernel
theorem dX3_isAmong_73 : decode cX3_isAmong 73 = .ok (.iinc 6 1, 3) := by decide +kernel
theorem dX3_isAmong_76 : decode cX3_isAmong 76 = .ok (.goto (-55), 3) := by decide +kernel
theorem dX3_isAmong_79 : decode cX3_isAmong 79 = .ok (.iload 5, 2) := by decide +kernel
theorem dX3_isAmong_81 : decode cX3_isAmong 81 = .ok (.ireturn, 1) := by decide +kernel
theorem dX3_isIn_0 : decode cX3_isIn 0 = .ok (.aload_n 0, 1) := by decide +kernel
theorem dX3_isIn_1 : decode cX3_isIn 1 = .ok (.iconst 0, 1) := by decide +kernel
theorem dX3_isIn_2 : decode cX3_isIn 2 = .ok (.putfield 36, 3) := by decide +kernel
theorem dX3_isIn_5 : decode cX3_isIn 5 = .ok (.iload_n 1, 1) := by decide +kernel
theorem dX3_isIn_6 : decode cX3_isIn 6 = .ok (.invokestatic 75, 3) := by decide +kernel
theorem dX3_isIn_9 : decode cX3_isIn 9 = .ok (.ifCond .eq 17, 3) := by decide +kernel
theorem dX3_isIn_12 : decode cX3_isIn 12 = .ok (.iload_n 2, 1) := by decide +kernel
theorem dX3_isIn_13 : decode cX3_isIn 13 = .ok (.invokestatic 75, 3) := by decide +kernel
theorem dX3_isIn_16 : decode cX3_isIn 16 = .ok (.ifCond .eq 10, 3) := by decide +kernel
theorem dX3_isIn_19 : decode cX3_isIn 19 = .ok (.iload_n 3, 1) := by decide +kernel
theorem dX3_isIn_20 : decode cX3_isIn 20 = .ok (.invokestatic 75, 3) := by decide +kernel
theorem dX3_isIn_23 : decode cX3_isIn 23 = .ok (.ifCond .ne 9, 3) := by decide +kernel
theorem dX3_isIn_26 : decode cX3_isIn 26 = .ok (.aload_n 0, 1) := by decide +kernel
theorem dX3_isIn_27 : decode cX3_isIn 27 = .ok (.iconst 1, 1) := by decide +kernel
theorem dX3_isIn_28 : decode cX3_isIn 28 = .ok (.invokevirtual 79, 3) := by decide +kernel
theorem dX3_isIn_31 : decode cX3_isIn 31 = .ok (.ireturn, 1) := by decide +kernel
theorem dX3_isIn_32 : decode cX3_isIn 32 = .ok (.iload 4, 2) := by decide +kernel
theorem dX3_isIn_34 : decode cX3_isIn 34 = .ok (.iconst 0, 1) := by decide +kernel
theorem dX3_isIn_35 : decode cX3_isIn 35 = .ok (.iconst 1, 1) := by decide +kernel
theorem dX3_isIn_36 : decode cX3_isIn 36 = .ok (.invokestatic 40, 3) := by decide +kernel
theorem dX3_isIn_39 : decode cX3_isIn 39 = .ok (.ifCond .ne 11, 3) := by decide +kernel
theorem dX3_isIn_42 : decode cX3_isIn 42 = .ok (.aload_n 0, 1) := by decide +kernel
theorem dX3_isIn_43 : decode cX3_isIn 43 = .ok (.iconst 2, 1) := by decide +kernel
theorem dX3_isIn_44 : decode cX3_isIn 44 = .ok (.invokevirtual 79, 3) := by decide +kernel
theorem dX3_isIn_47 : decode cX3_isIn 47 = .ok (.goto 20, 3) := by decide +kernel
theorem dX3_isIn_50 : decode cX3_isIn 50 = .ok (.aload_n 0, 1) := by decide +kernel
theorem dX3_isIn_51 : decode cX3_isIn 51 = .ok (.iload_n 1, 1) := by decide +kernel
theorem dX3_isIn_52 : decode cX3_isIn 52 = .ok (.iload_n 2, 1) := by decide +kernel
theorem dX3_isIn_53 : decode cX3_isIn 53 = .ok (.iload_n 3, 1) := by decide +kernel
theorem dX3_isIn_54 : decode cX3_isIn 54 = .ok (.iload 4, 2) := by decide +kernel
theorem dX3_isIn_56 : decode cX3_isIn 56 = .ok (.invokevirtual 142, 3) := by decide +kernel
theorem dX3_isIn_59 : decode cX3_isIn 59 = .ok (.ifCond .eq 7, 3) := by decide +kernel
theorem dX3_isIn_62 : decode cX3_isIn 62 = .ok (.iconst 1, 1) := by decide +kernel
theorem dX3_isIn_63 : decode cX3_isIn 63 = .ok (.goto 4, 3) := by decide +kernel
theorem dX3_isIn_66 : decode cX3_isIn 66 = .ok (.iconst 0, 1) := by decide +kernel
theorem dX3_isIn_67 : decode cX3_isIn 67 = .ok (.ireturn, 1) := by decide +kernel
theorem dX3_coefficient_0 : decode cX3_coefficient 0 = .ok (.aload_n 0, 1) := by decide +kernel
theorem dX3_coefficient_1 : decode cX3_coefficient 1 = .ok (.iconst 0, 1) := by decide +kernel
theorem dX3_coefficient_2 : decode cX3_coefficient 2 = .ok (.putfield 36, 3) := by decide +kernel
theorem dX3_coefficient_5 : decode cX3_coefficient 5 = .ok (.iload_n 1, 1) := by decide +kernel
theorem dX3_coefficient_6 : decode cX3_coefficient 6 = .ok (.iconst 0, 1) := by decide +kernel
theorem dX3_coefficient_7 : decode cX3_coefficient 7 = .ok (.bipush 8, 2) := by decide +kernel
theorem dX3_coefficient_9 : decode cX3_coefficient 9 = .ok (.invokestatic 40, 3) := by decide +kernel
theorem dX3_coefficient_12 : decode cX3_coefficient 12 = .ok (.ifCond .ne 10, 3) := by decide +kernel
theorem dX3_coefficient_15 : decode cX3_coefficient 15 = .ok (.aload_n 0, 1) := by decide +kernel
theorem dX3_coefficient_16 : decode cX3_coefficient 16 = .ok (.iconst 1, 1) := by decide +kernel
theorem dX3_coefficient_17 : decode cX3_coefficient 17 = .ok (.invokevirtual 79, 3) := by decide +kernel
theorem dX3_coefficient_20 : decode cX3_coefficient 20 = .ok (.i2l, 1) := by decide +kernel
theorem dX3_coefficient_21 : decode cX3_coefficient 21 = .ok (.lreturn, 1) := by decide +kernel
theorem dX3_coefficient_22 : decode cX3_coefficient 22 = .ok (.aload_n 0, 1) := by decide +kernel
theorem dX3_coefficient_23 : decode cX3_coefficient 23 = .ok (.invokevirtual 94, 3) := by decide +kernel
theorem dX3_coefficient_26 : decode cX3_coefficient 26 = .ok (.aload_n 0, 1) := by decide +kernel
theorem dX3_coefficient_27 : decode cX3_coefficient 27 = .ok (.getfield 32, 3) := by decide +kernel
theorem dX3_coefficient_30 : decode cX3_coefficient 30 = .ok (.iload_n 1, 1) := by decide +kernel
theorem dX3_coefficient_31 : decode cX3_coefficient 31 = .ok (.laload, 1) := by decide +kernel
theorem dX3_coefficient_32 : decode cX3_coefficient 32 = .ok (.lreturn, 1) := by decide +kernel
theorem dX3_rootsOf_0 : decode cX3_rootsOf 0 = .ok (.iconst 0, 1) := by decide +kernel
theorem dX3_rootsOf_1 : decode cX3_rootsOf 1 = .ok (.istore_n 2, 1) := by decide +kernel
theorem dX3_rootsOf_2 : decode cX3_rootsOf 2 = .ok (.iconst 0, 1) := by decide +kernel
theorem dX3_rootsOf_3 : decode cX3_rootsOf 3 = .ok (.istore_n 3, 1) := by decide +kernel
theorem dX3_rootsOf_4 : decode cX3_rootsOf 4 = .ok (.iload_n 3, 1) := by decide +kernel
theorem dX3_rootsOf_5 : decode cX3_rootsOf 5 = .ok (.aload_n 0, 1) := by decide +kernel
theorem dX3_rootsOf_6 : decode cX3_rootsOf 6 = .ok (.getfield 7, 3) := by decide +kernel
theorem dX3_rootsOf_9 : decode cX3_rootsOf 9 = .ok (.bipush 45, 2) := by decide +kernel
theorem dX3_rootsOf_11 : decode cX3_rootsOf 11 = .ok (.iaload, 1) := by decide +kernel
theorem dX3_rootsOf_12 : decode cX3_rootsOf 12 = .ok (.if_icmp .ge 51, 3) := by decide +kernel
theorem dX3_rootsOf_15 : decode cX3_rootsOf 15 = .ok (.aload_n 0, 1) := by decide +kernel
theorem dX3_rootsOf_16 : decode cX3_rootsOf 16 = .ok (.getfield 7, 3) := by decide +kernel
theorem dX3_rootsOf_19 : decode cX3_rootsOf 19 = .ok (.bipush 46, 2) := by decide +kernel
theorem dX3_rootsOf_21 : decode cX3_rootsOf 21 = .ok (.iload_n 3, 1) := by decide +kernel
theorem dX3_rootsOf_22 : decode cX3_rootsOf 22 = .ok (.iadd, 1) := by decide +kernel
theorem dX3_rootsOf_23 : decode cX3_rootsOf 23 = .ok (.iaload, 1) := by decide +kernel
theorem dX3_rootsOf_24 : decode cX3_rootsOf 24 = .ok (.istore 4, 2) := by decide +kernel
theorem dX3_rootsOf_26 : decode cX3_rootsOf 26 = .ok (.iload_n 2, 1) := by decide +kernel
theorem dX3_rootsOf_27 : decode cX3_rootsOf 27 = .ok (.iload 4, 2) := by decide +kernel
theorem dX3_rootsOf_29 : decode cX3_rootsOf 29 = .ok (.ifCond .le 7, 3) := by decide +kernel
theorem dX3_rootsOf_32 : decode cX3_rootsOf 32 = .ok (.iconst 1, 1) := by decide +kernel
theorem dX3_rootsOf_33 : decode cX3_rootsOf 33 = .ok (.goto 13, 3) := by decide +kernel
theorem dX3_rootsOf_36 : decode cX3_rootsOf 36 = .ok (.iload 4, 2) := by decide +kernel
theorem dX3_rootsOf_38 : decode cX3_rootsOf 38 = .ok (.ifCond .ge 7, 3) := by decide +kernel
theorem dX3_rootsOf_41 : decode cX3_rootsOf 41 = .ok (.iconst 2, 1) := by decide +kernel
theorem dX3_rootsOf_42 : decode cX3_rootsOf 42 = .ok (.goto 4, 3) := by decide +kernel
theorem dX3_rootsOf_45 : decode cX3_rootsOf 45 = .ok (.iconst 3, 1) := by decide +kernel
theorem dX3_rootsOf_46 : decode cX3_rootsOf 46 = .ok (.iload_n 1, 1) := by decide +kernel
theorem dX3_rootsOf_47 : decode cX3_rootsOf 47 = .ok (.if_icmp .ne 7, 3) := by decide +kernel
theorem dX3_rootsOf_50 : decode cX3_rootsOf 50 = .ok (.iconst 1, 1) := by decide +kernel
theorem dX3_rootsOf_51 : decode cX3_rootsOf 51 = .ok (.goto 4, 3) := by decide +kernel
theorem dX3_rootsOf_54 : decode cX3_rootsOf 54 = .ok (.iconst 0, 1) := by decide +kernel
theorem dX3_rootsOf_55 : decode cX3_rootsOf 55 = .ok (.iadd, 1) := by decide +kernel
theorem dX3_rootsOf_56 : decode cX3_rootsOf 56 = .ok (.istore_n 2, 1) := by decide +kernel
theorem dX3_rootsOf_57 : decode cX3_rootsOf 57 = .ok (.iinc 3 1, 3) := by decide +kernel
theorem dX3_rootsOf_60 : decode cX3_rootsOf 60 = .ok (.goto (-56), 3) := by decide +kernel
theorem dX3_rootsOf_63 : decode cX3_rootsOf 63 = .ok (.iload_n 2, 1) := by decide +kernel
theorem dX3_rootsOf_64 : decode cX3_rootsOf 64 = .ok (.ireturn, 1) := by decide +kernel
theorem dX3_tellsCount_0 : decode cX3_tellsCount 0 = .ok (.iload_n 1, 1) := by decide +kernel
theorem dX3_tellsCount_1 : decode cX3_tellsCount 1 = .ok (.tableswitch 107 0 6 #[43, 51, 51, 51, 57, 65, 73], 43) := by decide +kernel
theorem dX3_tellsCount_44 : decode cX3_tellsCount 44 = .ok (.aload_n 0, 1) := by decide +kernel
theorem dX3_tellsCount_45 : decode cX3_tellsCount 45 = .ok (.getfield 7, 3) := by decide +kernel
theorem dX3_tellsCount_48 : decode cX3_tellsCount 48 = .ok (.bipush 45, 2) := by decide +kernel
theorem dX3_tellsCount_50 : decode cX3_tellsCount 50 = .ok (.iaload, 1) := by decide +kernel
theorem dX3_tellsCount_51 : decode cX3_tellsCount 51 = .ok (.ireturn, 1) := by decide +kernel
theorem dX3_tellsCount_52 : decode cX3_tellsCount 52 = .ok (.aload_n 0, 1) := by decide +kernel
theorem dX3_tellsCount_53 : decode cX3_tellsCount 53 = .ok (.iload_n 1, 1) := by decide +kernel
theorem dX3_tellsCount_54 : decode cX3_tellsCount 54 = .ok (.invokevirtual 145, 3) := by decide +kernel
theorem dX3_tellsCount_57 : decode cX3_tellsCount 57 = .ok (.ireturn, 1) := by decide +kernel
theorem dX3_tellsCount_58 : decode cX3_tellsCount 58 = .ok (.aload_n 0, 1) := by decide +kernel
theorem dX3_tellsCount_59 : decode cX3_tellsCount 59 = .ok (.getfield 7, 3) := by decide +kernel
theorem dX3_tellsCount_62 : decode cX3_tellsCount 62 = .ok (.bipush 54, 2) := by decide +kernel
theorem dX3_tellsCount_64 : decode cX3_tellsCount 64 = .ok (.iaload, 1) := by decide +kernel
theorem dX3_tellsCount_65 : decode cX3_tellsCount 65 = .ok (.ireturn, 1) := by decide +kernel
theorem dX3_tellsCount_66 : decode cX3_tellsCount 66 = .ok (.aload_n 0, 1) := by decide +kernel
theorem dX3_tellsCount_67 : decode cX3_tellsCount 67 = .ok (.getfield 7, 3) := by decide +kernel
theorem dX3_tellsCount_70 : decode cX3_tellsCount 70 = .ok (.bipush 55, 2) := by decide +kernel
theorem dX3_tellsCount_72 : decode cX3_tellsCount 72 = .ok (.iaload, 1) := by decide +kernel
theorem dX3_tellsCount_73 : decode cX3_tellsCount 73 = .ok (.ireturn, 1) := by decide +kernel
theorem dX3_tellsCount_74 : decode cX3_tellsCount 74 = .ok (.iconst 0, 1) := by decide +kernel
theorem dX3_tellsCount_75 : decode cX3_tellsCount 75 = .ok (.istore_n 2, 1) := by decide +kernel
theorem dX3_tellsCount_76 : decode cX3_tellsCount 76 = .ok (.iconst 0, 1) := by decide +kernel
theorem dX3_tellsCount_77 : decode cX3_tellsCount 77 = .ok (.istore_n 3, 1) := by decide +kernel
theorem dX3_tellsCount_78 : decode cX3_tellsCount 78 = .ok (.iload_n 3, 1) := by decide +kernel
theorem dX3_tellsCount_79 : decode cX3_tellsCount 79 = .ok (.iconst 5, 1) := by decide +kernel
theorem dX3_tellsCount_80 : decode cX3_tellsCount 80 = .ok (.if_icmp .ge 26, 3) := by decide +kernel
theorem dX3_tellsCount_83 : decode cX3_tellsCount 83 = .ok (.iload_n 2, 1) := by decide +kernel
theorem dX3_tellsCount_84 : decode cX3_tellsCount 84 = .ok (.aload_n 0, 1) := by decide +kernel
theorem dX3_tellsCount_85 : decode cX3_tellsCount 85 = .ok (.iload_n 3, 1) := by decide +kernel
theorem dX3_tellsCount_86 : decode cX3_tellsCount 86 = .ok (.iconst 1, 1) := by decide +kernel
theorem dX3_tellsCount_87 : decode cX3_tellsCount 87 = .ok (.invokevirtual 117, 3) := by decide +kernel
theorem dX3_tellsCount_90 : decode cX3_tellsCount 90 = .ok (.ifCond .eq 7, 3) := by decide +kernel
theorem dX3_tellsCount_93 : decode cX3_tellsCount 93 = .ok (.iconst 1, 1) := by decide +kernel
theorem dX3_tellsCount_94 : decode cX3_tellsCount 94 = .ok (.goto 4, 3) := by decide +kernel
theorem dX3_tellsCount_97 : decode cX3_tellsCount 97 = .ok (.iconst 0, 1) := by decide +kernel
theorem dX3_tellsCount_98 : decode cX3_tellsCount 98 = .ok (.iadd, 1) := by decide +kernel
theorem dX3_tellsCount_99 : decode cX3_tellsCount 99 = .ok (.istore_n 2, 1) := by decide +kernel
theorem dX3_tellsCount_100 : decode cX3_tellsCount 100 = .ok (.iinc 3 1, 3) := by decide +kernel
theorem dX3_tellsCount_103 : decode cX3_tellsCount 103 = .ok (.goto (-25), 3) := by decide +kernel
theorem dX3_tellsCount_106 : decode cX3_tellsCount 106 = .ok (.iload_n 2, 1) := by decide +kernel
theorem dX3_tellsCount_107 : decode cX3_tellsCount 107 = .ok (.ireturn, 1) := by decide +kernel
theorem dX3_tellsCount_108 : decode cX3_tellsCount 108 = .ok (.aload_n 0, 1) := by decide +kernel
theorem dX3_tellsCount_109 : decode cX3_tellsCount 109 = .ok (.getfield 48, 3) := by decide +kernel
theorem dX3_tellsCount_112 : decode cX3_tellsCount 112 = .ok (.ireturn, 1) := by decide +kernel
theorem dX3_count_0 : decode cX3_count 0 = .ok (.aload_n 0, 1) := by decide +kernel
theorem dX3_count_1 : decode cX3_count 1 = .ok (.iconst 0, 1) := by decide +kernel
theorem dX3_count_2 : decode cX3_count 2 = .ok (.putfield 36, 3) := by decide +kernel
theorem dX3_count_5 : decode cX3_count 5 = .ok (.iload_n 1, 1) := by decide +kernel
theorem dX3_count_6 : decode cX3_count 6 = .ok (.iconst 0, 1) := by decide +kernel
theorem dX3_count_7 : decode cX3_count 7 = .ok (.bipush 7, 2) := by decide +kernel
theorem dX3_count_9 : decode cX3_count 9 = .ok (.invokestatic 40, 3) := by decide +kernel
theorem dX3_count_12 : decode cX3_count 12 = .ok (.ifCond .eq 11, 3) := by decide +kernel
theorem dX3_count_15 : decode cX3_count 15 = .ok (.aload_n 0, 1) := by decide +kernel
theorem dX3_count_16 : decode cX3_count 16 = .ok (.iload_n 1, 1) := by decide +kernel
theorem dX3_count_17 : decode cX3_count 17 = .ok (.invokevirtual 148, 3) := by decide +kernel
theorem dX3_count_20 : decode cX3_count 20 = .ok (.goto 8, 3) := by decide +kernel
theorem dX3_count_23 : decode cX3_count 23 = .ok (.aload_n 0, 1) := by decide +kernel
theorem dX3_count_24 : decode cX3_count 24 = .ok (.iconst 1, 1) := by decide +kernel
theorem dX3_count_25 : decode cX3_count 25 = .ok (.invokevirtual 79, 3) := by decide +kernel
theorem dX3_count_28 : decode cX3_count 28 = .ok (.ireturn, 1) := by decide +kernel
theorem dX3_share_0 : decode cX3_share 0 = .ok (.aload_n 0, 1) := by decide +kernel
theorem dX3_share_1 : decode cX3_share 1 = .ok (.iload_n 1, 1) := by decide +kernel
theorem dX3_share_2 : decode cX3_share 2 = .ok (.iconst 1, 1) := by decide +kernel
theorem dX3_share_3 : decode cX3_share 3 = .ok (.invokevirtual 107, 3) := by decide +kernel
theorem dX3_share_6 : decode cX3_share 6 = .ok (.aload_n 0, 1) := by decide +kernel
theorem dX3_share_7 : decode cX3_share 7 = .ok (.iload_n 1, 1) := by decide +kernel
theorem dX3_share_8 : decode cX3_share 8 = .ok (.iconst (-1), 1) := by decide +kernel
theorem dX3_share_9 : decode cX3_share 9 = .ok (.invokevirtual 107, 3) := by decide +kernel
theorem dX3_share_12 : decode cX3_share 12 = .ok (.iadd, 1) := by decide +kernel
theorem dX3_share_13 : decode cX3_share 13 = .ok (.aload_n 0, 1) := by decide +kernel
theorem dX3_share_14 : decode cX3_share 14 = .ok (.iload_n 1, 1) := by decide +kernel
theorem dX3_share_15 : decode cX3_share 15 = .ok (.iconst 0, 1) := by decide +kernel
theorem dX3_share_16 : decode cX3_share 16 = .ok (.invokevirtual 107, 3) := by decide +kernel
theorem dX3_share_19 : decode cX3_share 19 = .ok (.iadd, 1) := by decide +kernel
theorem dX3_share_20 : decode cX3_share 20 = .ok (.istore_n 2, 1) := by decide +kernel
theorem dX3_share_21 : decode cX3_share 21 = .ok (.aload_n 0, 1) := by decide +kernel
theorem dX3_share_22 : decode cX3_share 22 = .ok (.iload_n 1, 1) := by decide +kernel
theorem dX3_share_23 : decode cX3_share 23 = .ok (.invokevirtual 51, 3) := by decide +kernel
theorem dX3_share_26 : decode cX3_share 26 = .ok (.ifCond .ne 7, 3) := by decide +kernel
theorem dX3_share_29 : decode cX3_share 29 = .ok (.dconst 1, 1) := by decide +kernel
theorem dX3_share_30 : decode cX3_share 30 = .ok (.goto 12, 3) := by decide +kernel
theorem dX3_share_33 : decode cX3_share 33 = .ok (.iload_n 2, 1) := by decide +kernel
theorem dX3_share_34 : decode cX3_share 34 = .ok (.i2d, 1) := by decide +kernel
theorem dX3_share_35 : decode cX3_share 35 = .ok (.aload_n 0, 1) := by decide +kernel
theorem dX3_share_36 : decode cX3_share 36 = .ok (.iload_n 1, 1) := by decide +kernel
theorem dX3_share_37 : decode cX3_share 37 = .ok (.invokevirtual 51, 3) := by decide +kernel
theorem dX3_share_40 : decode cX3_share 40 = .ok (.i2d, 1) := by decide +kernel
theorem dX3_share_41 : decode cX3_share 41 = .ok (.ddiv, 1) := by decide +kernel
theorem dX3_share_42 : decode cX3_share 42 = .ok (.dreturn, 1) := by decide +kernel
theorem dX3_takenShare_0 : decode cX3_takenShare 0 = .ok (.aload_n 0, 1) := by decide +kernel
theorem dX3_takenShare_1 : decode cX3_takenShare 1 = .ok (.iconst 0, 1) := by decide +kernel
theorem dX3_takenShare_2 : decode cX3_takenShare 2 = .ok (.putfield 36, 3) := by decide +kernel
theorem dX3_takenShare_5 : decode cX3_takenShare 5 = .ok (.iload_n 1, 1) := by decide +kernel
theorem dX3_takenShare_6 : decode cX3_takenShare 6 = .ok (.invokestatic 75, 3) := by decide +kernel
theorem dX3_takenShare_9 : decode cX3_takenShare 9 = .ok (.ifCond .eq 11, 3) := by decide +kernel
theorem dX3_takenShare_12 : decode cX3_takenShare 12 = .ok (.aload_n 0, 1) := by decide +kernel
theorem dX3_takenShare_13 : decode cX3_takenShare 13 = .ok (.iload_n 1, 1) := by decide +kernel
theorem dX3_takenShare_14 : decode cX3_takenShare 14 = .ok (.invokevirtual 151, 3) := by decide +kernel
theorem dX3_takenShare_17 : decode cX3_takenShare 17 = .ok (.goto 9, 3) := by decide +kernel
theorem dX3_takenShare_20 : decode cX3_takenShare 20 = .ok (.aload_n 0, 1) := by decide +kernel
theorem dX3_takenShare_21 : decode cX3_takenShare 21 = .ok (.iconst 1, 1) := by decide +kernel
theorem dX3_takenShare_22 : decode cX3_takenShare 22 = .ok (.invokevirtual 79, 3) := by decide +kernel
theorem dX3_takenShare_25 : decode cX3_takenShare 25 = .ok (.i2d, 1) := by decide +kernel
theorem dX3_takenShare_26 : decode cX3_takenShare 26 = .ok (.dreturn, 1) := by decide +kernel
theorem dX3_hashes_0 : decode cX3_hashes 0 = .ok (.aload_n 0, 1) := by decide +kernel
theorem dX3_hashes_1 : decode cX3_hashes 1 = .ok (.ldc2_w 155, 3) := by decide +kernel
theorem dX3_hashes_4 : decode cX3_hashes 4 = .ok (.aload_n 0, 1) := by decide +kernel
theorem dX3_hashes_5 : decode cX3_hashes 5 = .ok (.getfield 157, 3) := by decide +kernel
theorem dX3_hashes_8 : decode cX3_hashes 8 = .ok (.lmul, 1) := by decide +kernel
theorem dX3_hashes_9 : decode cX3_hashes 9 = .ok (.lload_n 1, 1) := by decide +kernel
theorem dX3_hashes_10 : decode cX3_hashes 10 = .ok (.ladd, 1) := by decide +kernel
theorem dX3_hashes_11 : decode cX3_hashes 11 = .ok (.putfield 157, 3) := by decide +kernel
theorem dX3_hashes_14 : decode cX3_hashes 14 = .ok (.return_, 1) := by decide +kernel
theorem dX3_hashesPoly_0 : decode cX3_hashesPoly 0 = .ok (.iconst 0, 1) := by decide +kernel
theorem dX3_hashesPoly_1 : decode cX3_hashesPoly 1 = .ok (.istore_n 2, 1) := by decide +kernel
theorem dX3_hashesPoly_2 : decode cX3_hashesPoly 2 = .ok (.iload_n 2, 1) := by decide +kernel
theorem dX3_hashesPoly_3 : decode cX3_hashesPoly 3 = .ok (.iconst 4, 1) := by decide +kernel
theorem dX3_hashesPoly_4 : decode cX3_hashesPoly 4 = .ok (.if_icmp .ge 20, 3) := by decide +kernel
theorem dX3_hashesPoly_7 : decode cX3_hashesPoly 7 = .ok (.aload_n 0, 1) := by decide +kernel
theorem dX3_hashesPoly_8 : decode cX3_hashesPoly 8 = .ok (.aload_n 0, 1) := by decide +kernel
theorem dX3_hashesPoly_9 : decode cX3_hashesPoly 9 = .ok (.iload_n 1, 1) := by decide +kernel
theorem dX3_hashesPoly_10 : decode cX3_hashesPoly 10 = .ok (.iload_n 2, 1) := by decide +kernel
theorem dX3_hashesPoly_11 : decode cX3_hashesPoly 11 = .ok (.invokevirtual 114, 3) := by decide +kernel
theorem dX3_hashesPoly_14 : decode cX3_hashesPoly 14 = .ok (.i2l, 1) := by decide +kernel
theorem dX3_hashesPoly_15 : decode cX3_hashesPoly 15 = .ok (.invokevirtual 161, 3) := by decide +kernel
theorem dX3_hashesPoly_18 : decode cX3_hashesPoly 18 = .ok (.iinc 2 1, 3) := by decide +kernel
theorem dX3_hashesPoly_21 : decode cX3_hashesPoly 21 = .ok (.goto (-19), 3) := by decide +kernel
theorem dX3_hashesPoly_24 : decode cX3_hashesPoly 24 = .ok (.iconst 0, 1) := by decide +kernel
theorem dX3_hashesPoly_25 : decode cX3_hashesPoly 25 = .ok (.istore_n 2, 1) := by decide +kernel
theorem dX3_hashesPoly_26 : decode cX3_hashesPoly 26 = .ok (.iload_n 2, 1) := by decide +kernel
theorem dX3_hashesPoly_27 : decode cX3_hashesPoly 27 = .ok (.bipush 9, 2) := by decide +kernel
theorem dX3_hashesPoly_29 : decode cX3_hashesPoly 29 = .ok (.if_icmp .ge 20, 3) := by decide +kernel
theorem dX3_hashesPoly_32 : decode cX3_hashesPoly 32 = .ok (.aload_n 0, 1) := by decide +kernel
theorem dX3_hashesPoly_33 : decode cX3_hashesPoly 33 = .ok (.aload_n 0, 1) := by decide +kernel
theorem dX3_hashesPoly_34 : decode cX3_hashesPoly 34 = .ok (.iload_n 1, 1) := by decide +kernel
theorem dX3_hashesPoly_35 : decode cX3_hashesPoly 35 = .ok (.iload_n 2, 1) := by decide +kernel
theorem dX3_hashesPoly_36 : decode cX3_hashesPoly 36 = .ok (.invokevirtual 44, 3) := by decide +kernel
theorem dX3_hashesPoly_39 : decode cX3_hashesPoly 39 = .ok (.i2l, 1) := by decide +kernel
theorem dX3_hashesPoly_40 : decode cX3_hashesPoly 40 = .ok (.invokevirtual 161, 3) := by decide +kernel
theorem dX3_hashesPoly_43 : decode cX3_hashesPoly 43 = .ok (.iinc 2 1, 3) := by decide +kernel
theorem dX3_hashesPoly_46 : decode cX3_hashesPoly 46 = .ok (.goto (-20), 3) := by decide +kernel
theorem dX3_hashesPoly_49 : decode cX3_hashesPoly 49 = .ok (.iconst (-1), 1) := by decide +kernel
theorem dX3_hashesPoly_50 : decode cX3_hashesPoly 50 = .ok (.istore_n 2, 1) := by decide +kernel
theorem dX3_hashesPoly_51 : decode cX3_hashesPoly 51 = .ok (.iload_n 2, 1) := by decide +kernel
theorem dX3_hashesPoly_52 : decode cX3_hashesPoly 52 = .ok (.iconst 2, 1) := by decide +kernel
theorem dX3_hashesPoly_53 : decode cX3_hashesPoly 53 = .ok (.if_icmp .ge 84, 3) := by decide +kernel
theorem dX3_hashesPoly_56 : decode cX3_hashesPoly 56 = .ok (.aload_n 0, 1) := by decide +kernel
theorem dX3_hashesPoly_57 : decode cX3_hashesPoly 57 = .ok (.aload_n 0, 1) := by decide +kernel
theorem dX3_hashesPoly_58 : decode cX3_hashesPoly 58 = .ok (.iload_n 1, 1) := by decide +kernel
theorem dX3_hashesPoly_59 : decode cX3_hashesPoly 59 = .ok (.iload_n 2, 1) := by decide +kernel
theorem dX3_hashesPoly_60 : decode cX3_hashesPoly 60 = .ok (.invokevirtual 117, 3) := by decide +kernel
theorem dX3_hashesPoly_63 : decode cX3_hashesPoly 63 = .ok (.ifCond .eq 7, 3) := by decide +kernel
theorem dX3_hashesPoly_66 : decode cX3_hashesPoly 66 = .ok (.lconst 1, 1) := by decide +kernel
theorem dX3_hashesPoly_67 : decode cX3_hashesPoly 67 = .ok (.goto 4, 3) := by decide +kernel
theorem dX3_hashesPoly_70 : decode cX3_hashesPoly 70 = .ok (.lconst 0, 1) := by decide +kernel
theorem dX3_hashesPoly_71 : decode cX3_hashesPoly 71 = .ok (.invokevirtual 161, 3) := by decide +kernel
theorem dX3_hashesPoly_74 : decode cX3_hashesPoly 74 = .ok (.aload_n 0, 1) := by decide +kernel
theorem dX3_hashesPoly_75 : decode cX3_hashesPoly 75 = .ok (.aload_n 0, 1) := by decide +kernel
theorem dX3_hashesPoly_76 : decode cX3_hashesPoly 76 = .ok (.iload_n 1, 1) := by decide +kernel
theorem dX3_hashesPoly_77 : decode cX3_hashesPoly 77 = .ok (.iload_n 2, 1) := by decide +kernel
theorem dX3_hashesPoly_78 : decode cX3_hashesPoly 78 = .ok (.invokevirtual 107, 3) := by decide +kernel
theorem dX3_hashesPoly_81 : decode cX3_hashesPoly 81 = .ok (.i2l, 1) := by decide +kernel
theorem dX3_hashesPoly_82 : decode cX3_hashesPoly 82 = .ok (.invokevirtual 161, 3) := by decide +kernel
theorem dX3_hashesPoly_85 : decode cX3_hashesPoly 85 = .ok (.aload_n 0, 1) := by decide +kernel
theorem dX3_hashesPoly_86 : decode cX3_hashesPoly 86 = .ok (.aload_n 0, 1) := by decide +kernel
theorem dX3_hashesPoly_87 : decode cX3_hashesPoly 87 = .ok (.iload_n 1, 1) := by decide +kernel
theorem dX3_hashesPoly_88 : decode cX3_hashesPoly 88 = .ok (.iload_n 2, 1) := by decide +kernel
theorem dX3_hashesPoly_89 : decode cX3_hashesPoly 89 = .ok (.invokevirtual 107, 3) := by decide +kernel
theorem dX3_hashesPoly_92 : decode cX3_hashesPoly 92 = .ok (.i2l, 1) := by decide +kernel
theorem dX3_hashesPoly_93 : decode cX3_hashesPoly 93 = .ok (.invokevirtual 161, 3) := by decide +kernel
theorem dX3_hashesPoly_96 : decode cX3_hashesPoly 96 = .ok (.aload_n 0, 1) := by decide +kernel
theorem dX3_hashesPoly_97 : decode cX3_hashesPoly 97 = .ok (.iload_n 1, 1) := by decide +kernel
theorem dX3_hashesPoly_98 : decode cX3_hashesPoly 98 = .ok (.iload_n 2, 1) := by decide +kernel
theorem dX3_hashesPoly_99 : decode cX3_hashesPoly 99 = .ok (.invokevirtual 91, 3) := by decide +kernel
theorem dX3_hashesPoly_102 : decode cX3_hashesPoly 102 = .ok (.istore_n 3, 1) := by decide +kernel
theorem dX3_hashesPoly_103 : decode cX3_hashesPoly 103 = .ok (.aload_n 0, 1) := by decide +kernel
theorem dX3_hashesPoly_104 : decode cX3_hashesPoly 104 = .ok (.iload_n 3, 1) := by decide +kernel
theorem dX3_hashesPoly_105 : decode cX3_hashesPoly 105 = .ok (.i2l, 1) := by decide +kernel
theorem dX3_hashesPoly_106 : decode cX3_hashesPoly 106 = .ok (.invokevirtual 161, 3) := by decide +kernel
theorem dX3_hashesPoly_109 : decode cX3_hashesPoly 109 = .ok (.aload_n 0, 1) := by decide +kernel
theorem dX3_hashesPoly_110 : decode cX3_hashesPoly 110 = .ok (.iload_n 3, 1) := by decide +kernel
theorem dX3_hashesPoly_111 : decode cX3_hashesPoly 111 = .ok (.ifCond .ne 9, 3) := by decide +kernel
theorem dX3_hashesPoly_114 : decode cX3_hashesPoly 114 = .ok (.ldc2_w 165, 3) := by decide +kernel
theorem dX3_hashesPoly_117 : decode cX3_hashesPoly 117 = .ok (.goto 11, 3) := by decide +kernel
theorem dX3_hashesPoly_120 : decode cX3_hashesPoly 120 = .ok (.aload_n 0, 1) := by decide +kernel
theorem dX3_hashesPoly_121 : decode cX3_hashesPoly 121 = .ok (.getfield 29, 3) := by decide +kernel
theorem dX3_hashesPoly_124 : decode cX3_hashesPoly 124 = .ok (.invokestatic 110, 3) := by decide +kernel
theorem dX3_hashesPoly_127 : decode cX3_hashesPoly 127 = .ok (.i2l, 1) := by decide +kernel
theorem dX3_hashesPoly_128 : decode cX3_hashesPoly 128 = .ok (.invokevirtual 161, 3) := by decide +kernel
theorem dX3_hashesPoly_131 : decode cX3_hashesPoly 131 = .ok (.iinc 2 1, 3) := by decide +kernel
theorem dX3_hashesPoly_134 : decode cX3_hashesPoly 134 = .ok (.goto (-83), 3) := by decide +kernel
theorem dX3_hashesPoly_137 : decode cX3_hashesPoly 137 = .ok (.aload_n 0, 1) := by decide +kernel
theorem dX3_hashesPoly_138 : decode cX3_hashesPoly 138 = .ok (.aload_n 0, 1) := by decide +kernel
theorem dX3_hashesPoly_139 : decode cX3_hashesPoly 139 = .ok (.iload_n 1, 1) := by decide +kernel
theorem dX3_hashesPoly_140 : decode cX3_hashesPoly 140 = .ok (.invokevirtual 151, 3) := by decide +kernel
theorem dX3_hashesPoly_143 : decode cX3_hashesPoly 143 = .ok (.invokestatic 167, 3) := by decide +kernel
theorem dX3_hashesPoly_146 : decode cX3_hashesPoly 146 = .ok (.invokevirtual 161, 3) := by decide +kernel
theorem dX3_hashesPoly_149 : decode cX3_hashesPoly 149 = .ok (.return_, 1) := by decide +kernel
theorem dX3_digest_0 : decode cX3_digest 0 = .ok (.aload_n 0, 1) := by decide +kernel
theorem dX3_digest_1 : decode cX3_digest 1 = .ok (.iconst 0, 1) := by decide +kernel
theorem dX3_digest_2 : decode cX3_digest 2 = .ok (.putfield 36, 3) := by decide +kernel
theorem dX3_digest_5 : decode cX3_digest 5 = .ok (.aload_n 0, 1) := by decide +kernel
theorem dX3_digest_6 : decode cX3_digest 6 = .ok (.ldc2_w 173, 3) := by decide +kernel
theorem dX3_digest_9 : decode cX3_digest 9 = .ok (.putfield 157, 3) := by decide +kernel
theorem dX3_digest_12 : decode cX3_digest 12 = .ok (.iconst 0, 1) := by decide +kernel
theorem dX3_digest_13 : decode cX3_digest 13 = .ok (.istore_n 1, 1) := by decide +kernel
theorem dX3_digest_14 : decode cX3_digest 14 = .ok (.iload_n 1, 1) := by decide +kernel
theorem dX3_digest_15 : decode cX3_digest 15 = .ok (.bipush 8, 2) := by decide +kernel
theorem dX3_digest_17 : decode cX3_digest 17 = .ok (.if_icmp .ge 19, 3) := by decide +kernel
theorem dX3_digest_20 : decode cX3_digest 20 = .ok (.aload_n 0, 1) := by decide +kernel
theorem dX3_digest_21 : decode cX3_digest 21 = .ok (.aload_n 0, 1) := by decide +kernel
theorem dX3_digest_22 : decode cX3_digest 22 = .ok (.iload_n 1, 1) := by decide +kernel
theorem dX3_digest_23 : decode cX3_digest 23 = .ok (.invokevirtual 148, 3) := by decide +kernel
theorem dX3_digest_26 : decode cX3_digest 26 = .ok (.i2l, 1) := by decide +kernel
theorem dX3_digest_27 : decode cX3_digest 27 = .ok (.invokevirtual 161, 3) := by decide +kernel
theorem dX3_digest_30 : decode cX3_digest 30 = .ok (.iinc 1 1, 3) := by decide +kernel
theorem dX3_digest_33 : decode cX3_digest 33 = .ok (.goto (-19), 3) := by decide +kernel
theorem dX3_digest_36 : decode cX3_digest 36 = .ok (.iconst 0, 1) := by decide +kernel
theorem dX3_digest_37 : decode cX3_digest 37 = .ok (.istore_n 1, 1) := by decide +kernel
theorem dX3_digest_38 : decode cX3_digest 38 = .ok (.iload_n 1, 1) := by decide +kernel
theorem dX3_digest_39 : decode cX3_digest 39 = .ok (.iconst 5, 1) := by decide +kernel
theorem dX3_digest_40 : decode cX3_digest 40 = .ok (.if_icmp .ge 14, 3) := by decide +kernel
theorem dX3_digest_43 : decode cX3_digest 43 = .ok (.aload_n 0, 1) := by decide +kernel
theorem dX3_digest_44 : decode cX3_digest 44 = .ok (.iload_n 1, 1) := by decide +kernel
theorem dX3_digest_45 : decode cX3_digest 45 = .ok (.invokevirtual 175, 3) := by decide +kernel
theorem dX3_digest_48 : decode cX3_digest 48 = .ok (.iinc 1 1, 3) := by decide +kernel
theorem dX3_digest_51 : decode cX3_digest 51 = .ok (.goto (-13), 3) := by decide +kernel
theorem dX3_digest_54 : decode cX3_digest 54 = .ok (.iconst 0, 1) := by decide +kernel
theorem dX3_digest_55 : decode cX3_digest 55 = .ok (.istore_n 1, 1) := by decide +kernel
theorem dX3_digest_56 : decode cX3_digest 56 = .ok (.iload_n 1, 1) := by decide +kernel
theorem dX3_digest_57 : decode cX3_digest 57 = .ok (.bipush 25, 2) := by decide +kernel
theorem dX3_digest_59 : decode cX3_digest 59 = .ok (.if_icmp .ge 41, 3) := by decide +kernel
theorem dX3_digest_62 : decode cX3_digest 62 = .ok (.aload_n 0, 1) := by decide +kernel
theorem dX3_digest_63 : decode cX3_digest 63 = .ok (.aload_n 0, 1) := by decide +kernel
theorem dX3_digest_64 : decode cX3_digest 64 = .ok (.iload_n 1, 1) := by decide +kernel
theorem dX3_digest_65 : decode cX3_digest 65 = .ok (.iconst 5, 1) := by decide +kernel
theorem dX3_digest_66 : decode cX3_digest 66 = .ok (.idiv, 1) := by decide +kernel
theorem dX3_digest_67 : decode cX3_digest 67 = .ok (.iload_n 1, 1) := by decide +kernel
theorem dX3_digest_68 : decode cX3_digest 68 = .ok (.iconst 5, 1) := by decide +kernel
theorem dX3_digest_69 : decode cX3_digest 69 = .ok (.irem, 1) := by decide +kernel
theorem dX3_digest_70 : decode cX3_digest 70 = .ok (.iconst 0, 1) := by decide +kernel
theorem dX3_digest_71 : decode cX3_digest 71 = .ok (.invokevirtual 134, 3) := by decide +kernel
theorem dX3_digest_74 : decode cX3_digest 74 = .ok (.i2l, 1) := by decide +kernel
theorem dX3_digest_75 : decode cX3_digest 75 = .ok (.invokevirtual 161, 3) := by decide +kernel
theorem dX3_digest_78 : decode cX3_digest 78 = .ok (.aload_n 0, 1) := by decide +kernel
theorem dX3_digest_79 : decode cX3_digest 79 = .ok (.aload_n 0, 1) := by decide +kernel
theorem dX3_digest_80 : decode cX3_digest 80 = .ok (.iload_n 1, 1) := by decide +kernel
theorem dX3_digest_81 : decode cX3_digest 81 = .ok (.iconst 5, 1) := by decide +kernel
theorem dX3_digest_82 : decode cX3_digest 82 = .ok (.idiv, 1) := by decide +kernel
theorem dX3_digest_83 : decode cX3_digest 83 = .ok (.iload_n 1, 1) := by decide +kernel
theorem dX3_digest_84 : decode cX3_digest 84 = .ok (.iconst 5, 1) := by decide +kernel
theorem dX3_digest_85 : decode cX3_digest 85 = .ok (.irem, 1) := by decide +kernel
theorem dX3_digest_86 : decode cX3_digest 86 = .ok (.iconst 1, 1) := by decide +kernel
theorem dX3_digest_87 : decode cX3_digest 87 = .ok (.invokevirtual 134, 3) := by decide +kernel
theorem dX3_digest_90 : decode cX3_digest 90 = .ok (.i2l, 1) := by decide +kernel
theorem dX3_digest_91 : decode cX3_digest 91 = .ok (.invokevirtual 161, 3) := by decide +kernel
theorem dX3_digest_94 : decode cX3_digest 94 = .ok (.iinc 1 1, 3) := by decide +kernel
theorem dX3_digest_97 : decode cX3_digest 97 = .ok (.goto (-41), 3) := by decide +kernel
theorem dX3_digest_100 : decode cX3_digest 100 = .ok (.aload_n 0, 1) := by decide +kernel
theorem dX3_digest_101 : decode cX3_digest 101 = .ok (.invokevirtual 94, 3) := by decide +kernel
theorem dX3_digest_104 : decode cX3_digest 104 = .ok (.iconst 0, 1) := by decide +kernel
theorem dX3_digest_105 : decode cX3_digest 105 = .ok (.istore_n 1, 1) := by decide +kernel
theorem dX3_digest_106 : decode cX3_digest 106 = .ok (.iload_n 1, 1) := by decide +kernel
theorem dX3_digest_107 : decode cX3_digest 107 = .ok (.bipush 9, 2) := by decide +kernel
theorem dX3_digest_109 : decode cX3_digest 109 = .ok (.if_icmp .ge 19, 3) := by decide +kernel
theorem dX3_digest_112 : decode cX3_digest 112 = .ok (.aload_n 0, 1) := by decide +kernel
theorem dX3_digest_113 : decode cX3_digest 113 = .ok (.aload_n 0, 1) := by decide +kernel
theorem dX3_digest_114 : decode cX3_digest 114 = .ok (.getfield 32, 3) := by decide +kernel
theorem dX3_digest_117 : decode cX3_digest 117 = .ok (.iload_n 1, 1) := by decide +kernel
theorem dX3_digest_118 : decode cX3_digest 118 = .ok (.laload, 1) := by decide +kernel
theorem dX3_digest_119 : decode cX3_digest 119 = .ok (.invokevirtual 161, 3) := by decide +kernel
theorem dX3_digest_122 : decode cX3_digest 122 = .ok (.iinc 1 1, 3) := by decide +kernel
theorem dX3_digest_125 : decode cX3_digest 125 = .ok (.goto (-19), 3) := by decide +kernel
theorem dX3_digest_128 : decode cX3_digest 128 = .ok (.iconst 0, 1) := by decide +kernel
theorem dX3_digest_129 : decode cX3_digest 129 = .ok (.istore_n 1, 1) := by decide +kernel
theorem dX3_digest_130 : decode cX3_digest 130 = .ok (.iload_n 1, 1) := by decide +kernel
theorem dX3_digest_131 : decode cX3_digest 131 = .ok (.aload_n 0, 1) := by decide +kernel
theorem dX3_digest_132 : decode cX3_digest 132 = .ok (.getfield 7, 3) := by decide +kernel
theorem dX3_digest_135 : decode cX3_digest 135 = .ok (.bipush 45, 2) := by decide +kernel
theorem dX3_digest_137 : decode cX3_digest 137 = .ok (.iaload, 1) := by decide +kernel
theorem dX3_digest_138 : decode cX3_digest 138 = .ok (.if_icmp .ge 23, 3) := by decide +kernel
theorem dX3_digest_141 : decode cX3_digest 141 = .ok (.aload_n 0, 1) := by decide +kernel
theorem dX3_digest_142 : decode cX3_digest 142 = .ok (.aload_n 0, 1) := by decide +kernel
theorem dX3_digest_143 : decode cX3_digest 143 = .ok (.getfield 7, 3) := by decide +kernel
theorem dX3_digest_146 : decode cX3_digest 146 = .ok (.bipush 46, 2) := by decide +kernel
theorem dX3_digest_148 : decode cX3_digest 148 = .ok (.iload_n 1, 1) := by decide +kernel
theorem dX3_digest_149 : decode cX3_digest 149 = .ok (.iadd, 1) := by decide +kernel
theorem dX3_digest_150 : decode cX3_digest 150 = .ok (.iaload, 1) := by decide +kernel
theorem dX3_digest_151 : decode cX3_digest 151 = .ok (.i2l, 1) := by decide +kernel
theorem dX3_digest_152 : decode cX3_digest 152 = .ok (.invokevirtual 161, 3) := by decide +kernel
theorem dX3_digest_155 : decode cX3_digest 155 = .ok (.iinc 1 1, 3) := by decide +kernel
theorem dX3_digest_158 : decode cX3_digest 158 = .ok (.goto (-28), 3) := by decide +kernel
theorem dX3_digest_161 : decode cX3_digest 161 = .ok (.aload_n 0, 1) := by decide +kernel
theorem dX3_digest_162 : decode cX3_digest 162 = .ok (.aload_n 0, 1) := by decide +kernel
theorem dX3_digest_163 : decode cX3_digest 163 = .ok (.getfield 19, 3) := by decide +kernel
theorem dX3_digest_166 : decode cX3_digest 166 = .ok (.iconst 0, 1) := by decide +kernel
theorem dX3_digest_167 : decode cX3_digest 167 = .ok (.baload, 1) := by decide +kernel
theorem dX3_digest_168 : decode cX3_digest 168 = .ok (.ifCond .eq 7, 3) := by decide +kernel
theorem dX3_digest_171 : decode cX3_digest 171 = .ok (.lconst 1, 1) := by decide +kernel
theorem dX3_digest_172 : decode cX3_digest 172 = .ok (.goto 4, 3) := by decide +kernel
theorem dX3_digest_175 : decode cX3_digest 175 = .ok (.lconst 0, 1) := by decide +kernel
theorem dX3_digest_176 : decode cX3_digest 176 = .ok (.invokevirtual 161, 3) := by decide +kernel
theorem dX3_digest_179 : decode cX3_digest 179 = .ok (.aload_n 0, 1) := by decide +kernel
theorem dX3_digest_180 : decode cX3_digest 180 = .ok (.aload_n 0, 1) := by decide +kernel
theorem dX3_digest_181 : decode cX3_digest 181 = .ok (.getfield 19, 3) := by decide +kernel
theorem dX3_digest_184 : decode cX3_digest 184 = .ok (.iconst 1, 1) := by decide +kernel
theorem dX3_digest_185 : decode cX3_digest 185 = .ok (.baload, 1) := by decide +kernel
theorem dX3_digest_186 : decode cX3_digest 186 = .ok (.ifCond .eq 7, 3) := by decide +kernel
theorem dX3_digest_189 : decode cX3_digest 189 = .ok (.lconst 1, 1) := by decide +kernel
theorem dX3_digest_190 : decode cX3_digest 190 = .ok (.goto 4, 3) := by decide +kernel
theorem dX3_digest_193 : decode cX3_digest 193 = .ok (.lconst 0, 1) := by decide +kernel
theorem dX3_digest_194 : decode cX3_digest 194 = .ok (.invokevirtual 161, 3) := by decide +kernel
theorem dX3_digest_197 : decode cX3_digest 197 = .ok (.aload_n 0, 1) := by decide +kernel
theorem dX3_digest_198 : decode cX3_digest 198 = .ok (.aload_n 0, 1) := by decide +kernel
theorem dX3_digest_199 : decode cX3_digest 199 = .ok (.getfield 97, 3) := by decide +kernel
theorem dX3_digest_202 : decode cX3_digest 202 = .ok (.i2l, 1) := by decide +kernel
theorem dX3_digest_203 : decode cX3_digest 203 = .ok (.invokevirtual 161, 3) := by decide +kernel
theorem dX3_digest_206 : decode cX3_digest 206 = .ok (.iconst 0, 1) := by decide +kernel
theorem dX3_digest_207 : decode cX3_digest 207 = .ok (.istore_n 1, 1) := by decide +kernel
theorem dX3_digest_208 : decode cX3_digest 208 = .ok (.iload_n 1, 1) := by decide +kernel
theorem dX3_digest_209 : decode cX3_digest 209 = .ok (.aload_n 0, 1) := by decide +kernel
theorem dX3_digest_210 : decode cX3_digest 210 = .ok (.getfield 97, 3) := by decide +kernel
theorem dX3_digest_213 : decode cX3_digest 213 = .ok (.if_icmp .ge 20, 3) := by decide +kernel
theorem dX3_digest_216 : decode cX3_digest 216 = .ok (.aload_n 0, 1) := by decide +kernel
theorem dX3_digest_217 : decode cX3_digest 217 = .ok (.aload_n 0, 1) := by decide +kernel
theorem dX3_digest_218 : decode cX3_digest 218 = .ok (.getfield 23, 3) := by decide +kernel
theorem dX3_digest_221 : decode cX3_digest 221 = .ok (.iload_n 1, 1) := by decide +kernel
theorem dX3_digest_222 : decode cX3_digest 222 = .ok (.iaload, 1) := by decide +kernel
theorem dX3_digest_223 : decode cX3_digest 223 = .ok (.i2l, 1) := by decide +kernel
theorem dX3_digest_224 : decode cX3_digest 224 = .ok (.invokevirtual 161, 3) := by decide +kernel
theorem dX3_digest_227 : decode cX3_digest 227 = .ok (.iinc 1 1, 3) := by decide +kernel
theorem dX3_digest_230 : decode cX3_digest 230 = .ok (.goto (-22), 3) := by decide +kernel
theorem dX3_digest_233 : decode cX3_digest 233 = .ok (.aload_n 0, 1) := by decide +kernel
theorem dX3_digest_234 : decode cX3_digest 234 = .ok (.getfield 157, 3) := by decide +kernel
theorem dX3_digest_237 : decode cX3_digest 237 = .ok (.lreturn, 1) := by decide +kernel
end
section
set_option linter.unusedVariables false
set_option linter.unusedSimpArgs false
/-! ===== the memory: what a pure picture of all cells is, by logical ids ===== -/
abbrev Mem : Type := Nat × (Nat → Nat → Int32) × (Nat → Nat → Int64) × (Nat → Nat → Option Nat) × (Nat → Nat → UInt64)
def mI (M : Mem) : Nat → Nat → Int32 := M.2.1
def mJ (M : Mem) : Nat → Nat → Int64 := M.2.2.1
def mR (M : Mem) : Nat → Nat → Option Nat := M.2.2.2.1
def mD (M : Mem) : Nat → Nat → UInt64 := M.2.2.2.2
def up2 {α : Type} (f : Nat → Nat → α) (a k : Nat) (v : α) : Nat → Nat → α := fun b j => if b = a ∧ j = k then v else f b j
def sI (M : Mem) (a k : Nat) (v : Int32) : Mem := (M.1, up2 (mI M) a k v, mJ M, mR M, mD M)
def sJ (M : Mem) (a k : Nat) (v : Int64) : Mem := (M.1, mI M, up2 (mJ M) a k v, mR M, mD M)
def sR (M : Mem) (a k : Nat) (v : Option Nat) : Mem := (M.1, mI M, mJ M, up2 (mR M) a k v, mD M)
def sD (M : Mem) (a k : Nat) (v : UInt64) : Mem := (M.1, mI M, mJ M, mR M, up2 (mD M) a k v)
/-- kinds of the ids: 0 Division, 1 State, 2 SignRoots, 3 the model, 4 int[], 5 long[], 6 boolean[], 7 Division[], 8 State[], 9 int[][], 10 double[] -/
def kdState : List Nat := [1, 9, 4, 4, 4, 4, 4, 4]
def lnState : List Nat := [0, 5, 9, 9, 9, 9, 9, 8]
def kdDiv : List Nat := [0, 4, 4, 4]
def lnDiv : List Nat := [0, 9, 9, 9]
def kdL : List Nat := [2] ++ kdState ++ [8, 8, 6, 4, 5, 7] ++ (List.replicate 8 kdState).flatten ++ (List.replicate 9 kdDiv).flatten ++ [3, 4, 4, 4, 6, 4, 4, 4, 5, 5, 10]
def lnL : List Nat := [0] ++ lnState ++ [6, 2, 2, 60, 9, 9] ++ (List.replicate 8 lnState).flatten ++ (List.replicate 9 lnDiv).flatten ++ [0, 56, 336, 112, 2, 60, 9, 9, 9, 1, 1]
def kd (i : Nat) : Nat := kdL.getD i 99
def ln (i : Nat) : Nat := lnL.getD i 0
abbrev Geo : Type := va_G × (Nat → ClassId)
abbrev tysOf (G : Geo) : List (ClassId × FieldType) := [(G.2 0, .int), (G.2 1, .long), (G.2 2, .boolean), (G.2 3, .object RX0), (G.2 4, .object RX1), (G.2 5, .array .int), (G.2 6, .double)]
/-- a reference, by its logical id (the machine's words never hold a return address; 'phys' turns it into the address) -/
def enc (a : Option Nat) : Nat := match a with
  | none => 0
  | some i => i + 1
abbrev rf (a : Option Nat) : Value := .retAddr (enc a)
def phys (ad : Nat → Nat) : Value → Value
  | .retAddr 0 => .null
  | .retAddr (i + 1) => .ref (ad i)
  | v => v
def re (ad : Nat → Nat) (r : Option Nat) : Value := va_rf (r.map ad)
theorem phys_rf (ad : Nat → Nat) (r : Option Nat) : phys ad (rf r) = re ad r := by cases r <;> rfl
def ent (G : Geo) (ad : Nat → Nat) (M : Mem) (i : Nat) : va_E :=
  if kd i = 0 then .inr (0, [re ad (mR M i 0), re ad (mR M i 1), re ad (mR M i 2), .int (mI M i 3), .int (mI M i 4), .int (mI M i 5)])
  else if kd i = 1 then .inr (1, [re ad (mR M i 0), re ad (mR M i 1), .int (mI M i 2), .int (mI M i 3), .int (mI M i 4)])
  else if kd i = 2 then .inr (2, [re ad (mR M i 0), re ad (mR M i 1), .int (mI M i 2), re ad (mR M i 3), re ad (mR M i 4), re ad (mR M i 5), .int (mI M i 6), re ad (mR M i 7), re ad (mR M i 8)])
  else if kd i = 3 then .inr (3, [.int (mI M i 0), re ad (mR M i 1), re ad (mR M i 2), .int (mI M i 3), re ad (mR M i 4), re ad (mR M i 5), re ad (mR M i 6), .int (mI M i 7), re ad (mR M i 8), re ad (mR M i 9), .int (mI M i 10), re ad (mR M i 11), .long (mJ M i 12)])
  else if kd i = 4 then .inl (G.2 0, ln i, .inl (mI M i))
  else if kd i = 5 then .inl (G.2 1, ln i, .inr (.inl (mJ M i)))
  else if kd i = 6 then .inl (G.2 2, ln i, .inl (mI M i))
  else if kd i = 7 then .inl (G.2 3, ln i, .inr (.inr (.inr (.inr (fun k => (mR M i k).map ad)))))
  else if kd i = 8 then .inl (G.2 4, ln i, .inr (.inr (.inr (.inr (fun k => (mR M i k).map ad)))))
  else if kd i = 9 then .inl (G.2 5, ln i, .inr (.inr (.inr (.inr (fun k => (mR M i k).map ad)))))
  else .inl (G.2 6, ln i, .inr (.inr (.inr (.inl (mD M i)))))
def pool (G : Geo) (ad : Nat → Nat) (M : Mem) : va_W := (List.range M.1).map (fun i => (ad i, ent G ad M i))
theorem pool_at {G : Geo} {ad : Nat → Nat} {M : Mem} {i : Nat} (h : i < M.1) : (pool G ad M)[i]? = some (ad i, ent G ad M i) := by
  simp [pool, h]
theorem pool_set {G : Geo} {ad : Nat → Nat} {M M2 : Mem} {i : Nat} {x : va_E} (hn : M2.1 = M.1) (h : i < M.1) (hx : ent G ad M2 i = x) (ho : ∀ j, j ≠ i → ent G ad M2 j = ent G ad M j) : (pool G ad M).set i (ad i, x) = pool G ad M2 := by
  apply List.ext_getElem?
  intro j
  by_cases hj : j = i
  · subst hj
    rw [List.getElem?_set_self (by simp [pool, h]), pool_at (by rw [hn]; exact h), hx]
  · rw [List.getElem?_set_ne (Ne.symm hj)]
    by_cases hl : j < M.1
    · rw [pool_at hl, pool_at (by rw [hn]; exact hl), ho j hj]
    · simp [pool, hl, hn]
theorem ent_sI_ne {G : Geo} {ad : Nat → Nat} {M : Mem} {a k : Nat} {v : Int32} {j : Nat} (h : j ≠ a) : ent G ad (sI M a k v) j = ent G ad M j := by
  have e : ∀ q, mI (sI M a k v) j q = mI M j q := fun q => by show up2 _ _ _ _ _ _ = _; simp [up2, h]
  have e2 : mI (sI M a k v) j = mI M j := funext e
  simp only [ent, e2, show mR (sI M a k v) = mR M from rfl, show mJ (sI M a k v) = mJ M from rfl, show mD (sI M a k v) = mD M from rfl]
theorem ent_sJ_ne {G : Geo} {ad : Nat → Nat} {M : Mem} {a k : Nat} {v : Int64} {j : Nat} (h : j ≠ a) : ent G ad (sJ M a k v) j = ent G ad M j := by
  have e2 : mJ (sJ M a k v) j = mJ M j := funext fun q => by show up2 _ _ _ _ _ _ = _; simp [up2, h]
  simp only [ent, e2, show mR (sJ M a k v) = mR M from rfl, show mI (sJ M a k v) = mI M from rfl, show mD (sJ M a k v) = mD M from rfl]
theorem ent_sR_ne {G : Geo} {ad : Nat → Nat} {M : Mem} {a k : Nat} {v : Option Nat} {j : Nat} (h : j ≠ a) : ent G ad (sR M a k v) j = ent G ad M j := by
  have e2 : mR (sR M a k v) j = mR M j := funext fun q => by show up2 _ _ _ _ _ _ = _; simp [up2, h]
  simp only [ent, e2, show mJ (sR M a k v) = mJ M from rfl, show mI (sR M a k v) = mI M from rfl, show mD (sR M a k v) = mD M from rfl]
theorem ent_sD_ne {G : Geo} {ad : Nat → Nat} {M : Mem} {a k : Nat} {v : UInt64} {j : Nat} (h : j ≠ a) : ent G ad (sD M a k v) j = ent G ad M j := by
  have e2 : mD (sD M a k v) j = mD M j := funext fun q => by show up2 _ _ _ _ _ _ = _; simp [up2, h]
  simp only [ent, e2, show mJ (sD M a k v) = mJ M from rfl, show mI (sD M a k v) = mI M from rfl, show mR (sD M a k v) = mR M from rfl]
/-! ===== the words ===== -/
def BIG : List Cond := lw_tbl.filter goodWord
theorem in_big {w : Cond} (i : Nat) (h : lw_tbl[i]? = some w) (g : goodWord w = true) : w ∈ BIG := List.mem_filter.mpr ⟨List.mem_of_getElem? h, g⟩
theorem big_good {w : Cond} (h : w ∈ BIG) : goodWord w = true := (List.mem_filter.mp h).2
theorem big_in {ws : List Cond} (h : ∀ w ∈ ws, w ∈ BIG) {c : Cond} : GoodIn (c :: BIG) ws := fun w hw => ⟨List.mem_cons_of_mem _ (h w hw), good_of_word (big_good (h w hw))⟩
theorem big_inB {ws : List Cond} (h : ∀ w ∈ ws, w ∈ BIG) : GoodIn BIG ws := fun w hw => ⟨h w hw, good_of_word (big_good (h w hw))⟩
theorem big_cons {c : Cond} (h : c ∈ BIG) : ∀ w ∈ c :: BIG, w ∈ BIG := fun w hw => (List.mem_cons.mp hw).elim (fun e => e ▸ h) id
/-! ===== the judgement ===== -/
def Vok (n : Nat) (v : Value) : Prop := ∀ i, v = .retAddr (i + 1) → i < n
def wfM (M : Mem) : Prop := ∀ i k j, i < M.1 → mR M i k = some j → j < M.1
def Wd (G : Geo) (ad : Nat → Nat) (M : Mem) (H : Heap) : Prop := va_P G.1 vwCl (pool G ad M) H ∧ (∀ i j, i < M.1 → j < M.1 → ad i = ad j → i = j) ∧ wfM M
def Aset (ad : Nat → Nat) (n sz : Nat) : Nat → Prop := fun q => (∃ i, i < n ∧ q = ad i) ∨ sz ≤ q
/-- what is known of the machine's tables, at any state of a run -/
def nestB (U : State) : Prop := (va_Nw (.methodLinkNest RX2 48 yX0_init RX2) U ∧ va_Nw (.methodLinkNest RX0 31 yX2_degreeOf RX2) U) ∧ va_Nw (.methodLinkNest RX0 46 yX2_markOf RX2) U ∧ va_Nw (.methodLinkNest RX0 50 yX2_holds RX2) U
def strB (U : State) : Prop := ∀ q ∈ ([(95, "a root is -9 to 9"), (113, "a character code is 33 to 126"), (117, "the buffer is full"), (124, "the buffer tells no polynomial"), (140, "the slot is empty"), (142, "there is no saved state"), (213, "there is no such polynomial"), (216, "a power is 0 to 8"), (218, "a sign is -1, 0 or 1"), (220, "a slot is 0 or 1"), (222, "there is no such thing to tell")] : List (Nat × String)), ∃ sa, vk_R RX2 q.1 q.2 sa U
def overB (U : State) : Prop := va_AO RX0 U ∧ va_AO RX1 U ∧ va_AOA .int U
abbrev yRE : MethodName := ⟨"java/lang/RuntimeException", "<init>", "(Ljava/lang/String;)V"⟩
abbrev yEX : MethodName := ⟨"java/lang/Exception", "<init>", "(Ljava/lang/String;)V"⟩
abbrev yTH : MethodName := ⟨"java/lang/Throwable", "<init>", "(Ljava/lang/String;)V"⟩
def ncB (U : State) : Prop := va_Nc "java/lang/IllegalArgumentException" "java/lang/IndexOutOfBoundsException" U ∧ va_Nc "java/lang/IllegalStateException" "java/lang/IllegalArgumentException" U
def castB (U : State) : Prop := (va_Nw (.castable "java/lang/IllegalArgumentException" "java/lang/IllegalArgumentException") U ∧ va_Nw (.castable "java/lang/IndexOutOfBoundsException" "java/lang/IndexOutOfBoundsException") U ∧ va_Nw (.castable "java/lang/IllegalStateException" "java/lang/IllegalStateException") U) ∧ va_Nw (.declares yRE) U ∧ va_Nw (.declares yEX) U ∧ va_Nw (.declares yTH) U ∧ ncB U
def KK (G : Geo) (A : Nat → Prop) (U : State) (H : Heap) : Prop := (va_K G.1 vwCl (tysOf G) U ∧ nestB U ∧ strB U ∧ overB U ∧ castB U) ∧ vx_Zq Bundle.tN "UNASSIGNED_STACK" Bundle.steD A U H ∧ vx_Zq Bundle.tN "SUPPRESSED_SENTINEL" Bundle.listD A U H
theorem idx_bare2 (vm : Vm) (comp : ClassId) : (vm.bare.classes.findIdx? fun (x : Class) => match x.kind with | .array component _ => component == comp | _ => false) = (vm.classes.findIdx? fun (x : Class) => match x.kind with | .array component _ => component == comp | _ => false) := by
  simp only [Vm.bare, Array.findIdx?_map]
  rfl
theorem va_AOA.moved {t : FieldType} {u U : State} (hvm : u.vm.Alike U.vm) (h : va_AOA t u) : va_AOA t U := by
  obtain ⟨comp, c, k, h1, h2, h3, h4, h5⟩ := Jvm.Stand.arrayOver_specB h
  obtain ⟨k', hk', he⟩ := hvm.2.2 _ _ h3
  have hi : (U.vm.classes.findIdx? fun (x : Class) => match x.kind with | .array component _ => component == comp | _ => false) = some c := by
    rw [← idx_bare2]
    first | rw [hvm.bare_eq] | rw [← hvm.bare_eq]
    rw [idx_bare2]
    exact h2
  have hkind : k'.kind = .array comp (.array t) := by rw [he]; exact h4
  have f1 : U.vm.findClass (FieldType.array t).toString = some comp := by rw [hvm.findClass]; exact h1
  have f2 : U.vm.findClass ("[" ++ (FieldType.array t).toString) = some c := by rw [hvm.findClass]; exact h5
  unfold va_AOA Cond.before Cond.holds
  simp only [Cond.value]
  rw [f1, Option.bind_some]
  refine (congrArg (fun o : Option Nat => (o.bind (fun c => (U.vm.classes[c]?).map fun (k : Class) => match k.kind with | .array _ ty => decide (ty = FieldType.array t) && decide (U.vm.findClass ("[" ++ (FieldType.array t).toString) = some c) | _ => false) == some true)) hi).trans ?_
  simp [hk', hkind, f2]
theorem KK.warm {G : Geo} {A : Nat → Prop} {s U : State} {H : Heap} (hW : s.WarmedH U.vm) (h : KK G A s H) : KK G A U H := by
  obtain ⟨⟨h1, ⟨⟨n1, n2⟩, n3, n4⟩, h3, ⟨o1, o2, o3⟩, ⟨c1, c2, c3⟩, e1, e2, e3, n9⟩, z1, z2⟩ := h
  exact ⟨⟨va_K.moved hW.alike h1, ⟨⟨va_Nw.warmM hW n1, va_Nw.warmM hW n2⟩, va_Nw.warmM hW n3, va_Nw.warmM hW n4⟩, fun q hq => (h3 q hq).elim fun sa hsa => ⟨sa, vk_R.warm hW hsa⟩, ⟨va_AO.moved hW.alike o1, va_AO.moved hW.alike o2, va_AOA.moved hW.alike o3⟩, ⟨va_Nw.warmC hW c1, va_Nw.warmC hW c2, va_Nw.warmC hW c3⟩, va_Nw.warmD hW e1, va_Nw.warmD hW e2, va_Nw.warmD hW e3, va_Nc.moved hW.alike n9.1, va_Nc.moved hW.alike n9.2⟩, vx_Zq.moved hW.alike z1, vx_Zq.moved hW.alike z2⟩
theorem KK.kept {G : Geo} {A : Nat → Prop} {U : State} {H H1 : Heap} (h : KK G A U H) (hq : ∀ a : Nat, a < H.size → ¬ A a → H1[a]? = H[a]?) : KK G A U H1 := ⟨h.1, vx_Zq.kept h.2.1 hq, vx_Zq.kept h.2.2 hq⟩
theorem KK.narrow {G : Geo} {A B : Nat → Prop} {U : State} {H : Heap} (h : KK G A U H) (hAB : ∀ q, B q → A q) : KK G B U H := ⟨h.1, vx_Zq.narrow h.2.1 hAB, vx_Zq.narrow h.2.2 hAB⟩
def J (C : Program × Launch × Env × Room × State × MethodId × Array Value × List Frame × Method × Code × Heap × (Nat → Prop) × (State → Prop) × Nat × Geo × (Nat → Nat) × Nat) (cells slots : Nat) (M : Mem) (pc : Nat) (lv : List (Nat × Value)) (st : List Value) : Prop :=
  match C with
  | (p, l, e, R, s, m, args, below, meth, c, H0, A, Q, nL, G, ad0, n0) => ∀ (ad : Nat → Nat) (H : Heap) (locs : List Loc) (ls : Array Slot), Wd G ad M H → (∀ i, i < M.1 → A (ad i)) → (∀ i, i < n0 → ad i = ad0 i) → n0 ≤ M.1 → (∀ q ∈ lv, Vok M.1 q.2) → (∀ v ∈ st, Vok M.1 v) → va_S A H0 H locs → lv_has ls nL (lv.map fun q => (q.1, phys ad q.2)) → W p l e R s m args below meth c H locs cells slots Q (F0 m pc ls (st.map (phys ad)))
end
section
abbrev JC : Type := Program × Launch × Env × Room × State × MethodId × Array Value × List Frame × Method × Code × Heap × (Nat → Prop) × (State → Prop) × Nat × Geo × (Nat → Nat) × Nat
abbrev Res : Type := Mem × (String ⊕ Option Value)
theorem Vok_int {n : Nat} {v : Int32} : Vok n (.int v) := fun _ h => by cases h
theorem Vok_long {n : Nat} {v : Int64} : Vok n (.long v) := fun _ h => by cases h
theorem Vok_double {n : Nat} {v : UInt64} : Vok n (.double v) := fun _ h => by cases h
theorem Vok_null {n : Nat} : Vok n .null := fun _ h => by cases h
theorem Vok_ref {n a : Nat} : Vok n (.ref a) := fun _ h => by cases h
theorem Vok_rf {n : Nat} {r : Option Nat} (h : ∀ j, r = some j → j < n) : Vok n (rf r) := fun i e => by
  cases r with
  | none => cases e
  | some j => cases e; exact h _ rfl
theorem vs_c {n : Nat} {v : Value} {st : List Value} (h : Vok n v) (hs : ∀ w ∈ st, Vok n w) : ∀ w ∈ v :: st, Vok n w := fun w hw => (List.mem_cons.mp hw).elim (fun e => e ▸ h) (hs w)
theorem vs_t {n : Nat} {v : Value} {st : List Value} (hs : ∀ w ∈ v :: st, Vok n w) : ∀ w ∈ st, Vok n w := fun w hw => hs w (List.mem_cons_of_mem _ hw)
theorem vs_h {n : Nat} {v : Value} {st : List Value} (hs : ∀ w ∈ v :: st, Vok n w) : Vok n v := hs v List.mem_cons_self
theorem vl_at {n : Nat} {lv : List (Nat × Value)} (h : ∀ q ∈ lv, Vok n q.2) {k i : Nat} {v : Value} (e : lv[k]? = some (i, v)) : Vok n v := h (i, v) (List.mem_of_getElem? e)
theorem mp_at {ad : Nat → Nat} {lv : List (Nat × Value)} {k i : Nat} {v : Value} (e : lv[k]? = some (i, v)) : (lv.map fun q => (q.1, phys ad q.2))[k]? = some (i, phys ad v) := by
  rw [List.getElem?_map, e]
  rfl
theorem cat_phys (ad : Nat → Nat) (v : Value) : (phys ad v).category = v.category := by
  cases v <;> try rfl
  case retAddr n => cases n <;> rfl
theorem mp_st1 {ad : Nat → Nat} {lv lv' : List (Nat × Value)} {i : Nat} {v : Value} (hl : (i, v) :: lv.filter (fun q => !(q.1 == i) && !(q.1 + 1 == i && q.2.category == 2)) = lv') :
    (i, phys ad v) :: (lv.map fun q => (q.1, phys ad q.2)).filter (fun q => !(q.1 == i) && !(q.1 + 1 == i && q.2.category == 2)) = lv'.map fun q => (q.1, phys ad q.2) := by
  subst hl
  simp only [List.map_cons, List.filter_map, Function.comp_def, cat_phys]
theorem mp_st2 {ad : Nat → Nat} {lv lv' : List (Nat × Value)} {i : Nat} {v : Value} (hl : (i, v) :: lv.filter (fun q => !(q.1 == i) && (!(q.1 == i + 1) && !(q.1 + 1 == i && q.2.category == 2))) = lv') :
    (i, phys ad v) :: (lv.map fun q => (q.1, phys ad q.2)).filter (fun q => !(q.1 == i) && (!(q.1 == i + 1) && !(q.1 + 1 == i && q.2.category == 2))) = lv'.map fun q => (q.1, phys ad q.2) := by
  subst hl
  simp only [List.map_cons, List.filter_map, Function.comp_def, cat_phys]
theorem vl_st {n : Nat} {lv lv' : List (Nat × Value)} {i : Nat} {v : Value} {f : Nat × Value → Bool} (hl : (i, v) :: lv.filter f = lv') (hv : Vok n v) (h : ∀ q ∈ lv, Vok n q.2) : ∀ q ∈ lv', Vok n q.2 := by
  subst hl
  intro q hq
  rcases List.mem_cons.mp hq with e | e
  · rw [e]; exact hv
  · exact h q (List.mem_filter.mp e).1
/-- what a return must show -/
def Qret (G : Geo) (ad0 : Nat → Nat) (n0 : Nat) (A : Nat → Prop) (res : Res) : Array Value → State → Outcome → State → Prop := fun _ st o t =>
  (∃ (ad : Nat → Nat) (rv : Option Value), res.2 = .inr rv ∧ o = .returned (rv.map (phys ad)) ∧ (∀ i, i < n0 → ad i = ad0 i) ∧ n0 ≤ res.1.1 ∧ Wd G ad res.1 t.heap ∧ (∀ i, i < res.1.1 → A (ad i)) ∧ ∀ v, rv = some v → Vok res.1.1 v) ∧ va_F A st t
def Qthr (G : Geo) (ad0 : Nat → Nat) (n0 : Nat) (A : Nat → Prop) (res : Res) : String → State → State → Prop := fun E st t =>
  (∃ (ad : Nat → Nat), res.2 = .inl E ∧ (∀ i, i < n0 → ad i = ad0 i) ∧ n0 ≤ res.1.1 ∧ Wd G ad res.1 t.heap ∧ (∀ i, i < res.1.1 → A (ad i))) ∧ va_F A st t
def PreC (G : Geo) (ad : Nat → Nat) (sz : Nat) (As : List Value) (M : Mem) : Array Value → State → Prop := va_Pc (As.map (phys ad)) (fun U => U.heap.size = sz ∧ Wd G ad M U.heap ∧ KK G (Aset ad M.1 sz) U U.heap ∧ ∀ v ∈ As, Vok M.1 v)
/-- a method's contract: x: it may throw -/
def Con (x : Bool) (l : Launch) (y : MethodName) (cc : ByteArray) (maxL : Nat) (ret : Option FieldType) (rm : Room) (As : List Value) (M : Mem) (res : Res) : Prop := ∀ (G : Geo) (ad : Nat → Nat) (sz : Nat),
  if x = true then vx_Met l y (.code y cc maxL ret :: BIG) rm (PreC G ad sz As M) (Qret G ad M.1 (Aset ad M.1 sz) res) (Qthr G ad M.1 (Aset ad M.1 sz) res) rm.cells rm.slots (Aset ad M.1 sz)
  else Met l y (.code y cc maxL ret :: BIG) rm (PreC G ad sz As M) (Qret G ad M.1 (Aset ad M.1 sz) res) rm.cells rm.slots (Aset ad M.1 sz)
def Ok (C : JC) (x : Bool) (cc : ByteArray) (nL : Nat) (rm : Room) (rt : Option FieldType) (own : String) (res : Res) : Prop := match C with
  | (p, l, e, R, s, m, args, below, meth, c, H0, A, Q, nL0, G, ad0, n0) => p.tables.exec = Jvm.exec ∧ c.code = cc ∧ c.maxLocals = nL ∧ nL0 = nL ∧ s.vm.findClass own = some m.cls ∧ (∀ w ∈ BIG, w.before args s = true) ∧ KK G A s s.heap ∧ H0 = s.heap ∧ (∀ q, s.heap.size ≤ q → A q) ∧ meth.locks = false ∧ meth.sig.returnType = rt ∧ R = rm ∧
    (Q = if x = true then vx_MQ below (Qret G ad0 n0 A res) (Qthr G ad0 n0 A res) args s rm.cells rm.slots A else MQ below (Qret G ad0 n0 A res) args s rm.cells rm.slots A) ∧ ((x = true → ∀ z ∈ c.exceptionTable.toList, False) ∧ l.stackTraces = false)
theorem J_iconst {C : JC} {x : Bool} {cc : ByteArray} {nL : Nat} {rm : Room} {rt : Option FieldType} {own : String} {res : Res} {ce sl : Nat} {M : Mem} {pc : Nat} {lv : List (Nat × Value)} {st : List Value} {n : Int} {v : Int32} (hC : Ok C x cc nL rm rt own res) (hdg : decode cc pc = .ok (.iconst n, 1)) (hv : Int32.ofInt n = v)
    (kk : J C ce sl M (pc + 1) lv (.int v :: st)) : J C ce sl M pc lv (st) := by
  obtain ⟨p, l, e, R, s, m, args, below, meth, c, H0, A, Q, nL0, G, ad0, n0⟩ := C
  obtain ⟨hx, hb, hml, hnl, hown, hts, hKK, hH0, hA, hlk, hrt, hR, hQ, hxt⟩ := hC
  intro ad H locs ls hW hAa hag hn hvl hvs hS hl
  exact lv_iconst hx hb hdg hv (kk ad H locs ls hW hAa hag hn hvl (vs_c Vok_int hvs) hS hl)
theorem J_bipush {C : JC} {x : Bool} {cc : ByteArray} {nL : Nat} {rm : Room} {rt : Option FieldType} {own : String} {res : Res} {ce sl : Nat} {M : Mem} {pc : Nat} {lv : List (Nat × Value)} {st : List Value} {n : Int} {v : Int32} (hC : Ok C x cc nL rm rt own res) (hdg : decode cc pc = .ok (.bipush n, 2)) (hv : (Int8.ofInt n).toInt32 = v)
    (kk : J C ce sl M (pc + 2) lv (.int v :: st)) : J C ce sl M pc lv (st) := by
  obtain ⟨p, l, e, R, s, m, args, below, meth, c, H0, A, Q, nL0, G, ad0, n0⟩ := C
  obtain ⟨hx, hb, hml, hnl, hown, hts, hKK, hH0, hA, hlk, hrt, hR, hQ, hxt⟩ := hC
  intro ad H locs ls hW hAa hag hn hvl hvs hS hl
  exact lv_bipush hx hb hdg hv (kk ad H locs ls hW hAa hag hn hvl (vs_c Vok_int hvs) hS hl)
theorem J_sipush {C : JC} {x : Bool} {cc : ByteArray} {nL : Nat} {rm : Room} {rt : Option FieldType} {own : String} {res : Res} {ce sl : Nat} {M : Mem} {pc : Nat} {lv : List (Nat × Value)} {st : List Value} {n : Int} {v : Int32} (hC : Ok C x cc nL rm rt own res) (hdg : decode cc pc = .ok (.sipush n, 3)) (hv : (Int16.ofInt n).toInt32 = v)
    (kk : J C ce sl M (pc + 3) lv (.int v :: st)) : J C ce sl M pc lv (st) := by
  obtain ⟨p, l, e, R, s, m, args, below, meth, c, H0, A, Q, nL0, G, ad0, n0⟩ := C
  obtain ⟨hx, hb, hml, hnl, hown, hts, hKK, hH0, hA, hlk, hrt, hR, hQ, hxt⟩ := hC
  intro ad H locs ls hW hAa hag hn hvl hvs hS hl
  exact lv_sipush hx hb hdg hv (kk ad H locs ls hW hAa hag hn hvl (vs_c Vok_int hvs) hS hl)
theorem J_lconst {C : JC} {x : Bool} {cc : ByteArray} {nL : Nat} {rm : Room} {rt : Option FieldType} {own : String} {res : Res} {ce sl : Nat} {M : Mem} {pc : Nat} {lv : List (Nat × Value)} {st : List Value} {n : Fin 2} {v : Int64} (hC : Ok C x cc nL rm rt own res) (hdg : decode cc pc = .ok (.lconst n, 1)) (hv : Int64.ofNat (n : Nat) = v)
    (kk : J C ce sl M (pc + 1) lv (.long v :: st)) : J C ce sl M pc lv (st) := by
  obtain ⟨p, l, e, R, s, m, args, below, meth, c, H0, A, Q, nL0, G, ad0, n0⟩ := C
  obtain ⟨hx, hb, hml, hnl, hown, hts, hKK, hH0, hA, hlk, hrt, hR, hQ, hxt⟩ := hC
  intro ad H locs ls hW hAa hag hn hvl hvs hS hl
  exact lv_lconst hx hb hdg hv (kk ad H locs ls hW hAa hag hn hvl (vs_c Vok_long hvs) hS hl)
theorem J_dconst0 {C : JC} {x : Bool} {cc : ByteArray} {nL : Nat} {rm : Room} {rt : Option FieldType} {own : String} {res : Res} {ce sl : Nat} {M : Mem} {pc : Nat} {lv : List (Nat × Value)} {st : List Value}  (hC : Ok C x cc nL rm rt own res) (hdg : decode cc pc = .ok (.dconst 0, 1))
    (kk : J C ce sl M (pc + 1) lv (.double FP.dconst0 :: st)) : J C ce sl M pc lv (st) := by
  obtain ⟨p, l, e, R, s, m, args, below, meth, c, H0, A, Q, nL0, G, ad0, n0⟩ := C
  obtain ⟨hx, hb, hml, hnl, hown, hts, hKK, hH0, hA, hlk, hrt, hR, hQ, hxt⟩ := hC
  intro ad H locs ls hW hAa hag hn hvl hvs hS hl
  exact lv_dconst0 hx hb hdg (kk ad H locs ls hW hAa hag hn hvl (vs_c Vok_double hvs) hS hl)
theorem J_dconst1 {C : JC} {x : Bool} {cc : ByteArray} {nL : Nat} {rm : Room} {rt : Option FieldType} {own : String} {res : Res} {ce sl : Nat} {M : Mem} {pc : Nat} {lv : List (Nat × Value)} {st : List Value}  (hC : Ok C x cc nL rm rt own res) (hdg : decode cc pc = .ok (.dconst 1, 1))
    (kk : J C ce sl M (pc + 1) lv (.double FP.dconst1 :: st)) : J C ce sl M pc lv (st) := by
  obtain ⟨p, l, e, R, s, m, args, below, meth, c, H0, A, Q, nL0, G, ad0, n0⟩ := C
  obtain ⟨hx, hb, hml, hnl, hown, hts, hKK, hH0, hA, hlk, hrt, hR, hQ, hxt⟩ := hC
  intro ad H locs ls hW hAa hag hn hvl hvs hS hl
  exact lv_dconst1 hx hb hdg (kk ad H locs ls hW hAa hag hn hvl (vs_c Vok_double hvs) hS hl)
theorem J_ldc {C : JC} {x : Bool} {cc : ByteArray} {nL : Nat} {rm : Room} {rt : Option FieldType} {own : String} {res : Res} {ce sl : Nat} {M : Mem} {pc : Nat} {lv : List (Nat × Value)} {st : List Value} {index : Nat} {v : Int32} (hC : Ok C x cc nL rm rt own res) (hw : Cond.constant own index v ∈ BIG) (hdg : decode cc pc = .ok (.ldc index, 2))
    (kk : J C ce sl M (pc + 2) lv (.int v :: st)) : J C ce sl M pc lv (st) := by
  obtain ⟨p, l, e, R, s, m, args, below, meth, c, H0, A, Q, nL0, G, ad0, n0⟩ := C
  obtain ⟨hx, hb, hml, hnl, hown, hts, hKK, hH0, hA, hlk, hrt, hR, hQ, hxt⟩ := hC
  intro ad H locs ls hW hAa hag hn hvl hvs hS hl
  exact lv_ldc hx hb hown (hts _ hw) hdg (kk ad H locs ls hW hAa hag hn hvl (vs_c Vok_int hvs) hS hl)
theorem J_ldc2 {C : JC} {x : Bool} {cc : ByteArray} {nL : Nat} {rm : Room} {rt : Option FieldType} {own : String} {res : Res} {ce sl : Nat} {M : Mem} {pc : Nat} {lv : List (Nat × Value)} {st : List Value} {index : Nat} {v : Int64} (hC : Ok C x cc nL rm rt own res) (hw : Cond.constantLong own index v ∈ BIG) (hdg : decode cc pc = .ok (.ldc2_w index, 3))
    (kk : J C ce sl M (pc + 3) lv (.long v :: st)) : J C ce sl M pc lv (st) := by
  obtain ⟨p, l, e, R, s, m, args, below, meth, c, H0, A, Q, nL0, G, ad0, n0⟩ := C
  obtain ⟨hx, hb, hml, hnl, hown, hts, hKK, hH0, hA, hlk, hrt, hR, hQ, hxt⟩ := hC
  intro ad H locs ls hW hAa hag hn hvl hvs hS hl
  exact lv_ldc2 hx hb hown (hts _ hw) hdg (kk ad H locs ls hW hAa hag hn hvl (vs_c Vok_long hvs) hS hl)
theorem J_ldc2d {C : JC} {x : Bool} {cc : ByteArray} {nL : Nat} {rm : Room} {rt : Option FieldType} {own : String} {res : Res} {ce sl : Nat} {M : Mem} {pc : Nat} {lv : List (Nat × Value)} {st : List Value} {index : Nat} {v : UInt64} (hC : Ok C x cc nL rm rt own res) (hw : Cond.constantDouble own index v ∈ BIG) (hdg : decode cc pc = .ok (.ldc2_w index, 3))
    (kk : J C ce sl M (pc + 3) lv (.double v :: st)) : J C ce sl M pc lv (st) := by
  obtain ⟨p, l, e, R, s, m, args, below, meth, c, H0, A, Q, nL0, G, ad0, n0⟩ := C
  obtain ⟨hx, hb, hml, hnl, hown, hts, hKK, hH0, hA, hlk, hrt, hR, hQ, hxt⟩ := hC
  intro ad H locs ls hW hAa hag hn hvl hvs hS hl
  exact lv_ldc2d hx hb hown (hts _ hw) hdg (kk ad H locs ls hW hAa hag hn hvl (vs_c Vok_double hvs) hS hl)
theorem J_iload_n {C : JC} {x : Bool} {cc : ByteArray} {nL : Nat} {rm : Room} {rt : Option FieldType} {own : String} {res : Res} {ce sl : Nat} {M : Mem} {pc : Nat} {lv : List (Nat × Value)} {st : List Value} {k : Fin 4} {j : Nat} {v : Int32} (hC : Ok C x cc nL rm rt own res) (hdg : decode cc pc = .ok (.iload_n k, 1)) (hlv : lv[j]? = some ((k : Nat), .int v))
    (kk : J C ce sl M (pc + 1) lv (.int v :: st)) : J C ce sl M pc lv (st) := by
  obtain ⟨p, l, e, R, s, m, args, below, meth, c, H0, A, Q, nL0, G, ad0, n0⟩ := C
  obtain ⟨hx, hb, hml, hnl, hown, hts, hKK, hH0, hA, hlk, hrt, hR, hQ, hxt⟩ := hC
  intro ad H locs ls hW hAa hag hn hvl hvs hS hl
  exact lv_iload_n hx hb hdg rfl (lv_at hl j (mp_at hlv)) (kk ad H locs ls hW hAa hag hn hvl (vs_c Vok_int hvs) hS hl)
theorem J_iload {C : JC} {x : Bool} {cc : ByteArray} {nL : Nat} {rm : Room} {rt : Option FieldType} {own : String} {res : Res} {ce sl : Nat} {M : Mem} {pc : Nat} {lv : List (Nat × Value)} {st : List Value} {i j : Nat} {v : Int32} (hC : Ok C x cc nL rm rt own res) (hdg : decode cc pc = .ok (.iload i, 2)) (hlv : lv[j]? = some (i, .int v))
    (kk : J C ce sl M (pc + 2) lv (.int v :: st)) : J C ce sl M pc lv (st) := by
  obtain ⟨p, l, e, R, s, m, args, below, meth, c, H0, A, Q, nL0, G, ad0, n0⟩ := C
  obtain ⟨hx, hb, hml, hnl, hown, hts, hKK, hH0, hA, hlk, hrt, hR, hQ, hxt⟩ := hC
  intro ad H locs ls hW hAa hag hn hvl hvs hS hl
  exact lv_iload hx hb hdg (lv_at hl j (mp_at hlv)) (kk ad H locs ls hW hAa hag hn hvl (vs_c Vok_int hvs) hS hl)
theorem J_lload_n {C : JC} {x : Bool} {cc : ByteArray} {nL : Nat} {rm : Room} {rt : Option FieldType} {own : String} {res : Res} {ce sl : Nat} {M : Mem} {pc : Nat} {lv : List (Nat × Value)} {st : List Value} {k : Fin 4} {j : Nat} {v : Int64} (hC : Ok C x cc nL rm rt own res) (hdg : decode cc pc = .ok (.lload_n k, 1)) (hlv : lv[j]? = some ((k : Nat), .long v))
    (kk : J C ce sl M (pc + 1) lv (.long v :: st)) : J C ce sl M pc lv (st) := by
  obtain ⟨p, l, e, R, s, m, args, below, meth, c, H0, A, Q, nL0, G, ad0, n0⟩ := C
  obtain ⟨hx, hb, hml, hnl, hown, hts, hKK, hH0, hA, hlk, hrt, hR, hQ, hxt⟩ := hC
  intro ad H locs ls hW hAa hag hn hvl hvs hS hl
  exact lv_lload_n hx hb hdg rfl (lv_at hl j (mp_at hlv)) (kk ad H locs ls hW hAa hag hn hvl (vs_c Vok_long hvs) hS hl)
theorem J_lload {C : JC} {x : Bool} {cc : ByteArray} {nL : Nat} {rm : Room} {rt : Option FieldType} {own : String} {res : Res} {ce sl : Nat} {M : Mem} {pc : Nat} {lv : List (Nat × Value)} {st : List Value} {i j : Nat} {v : Int64} (hC : Ok C x cc nL rm rt own res) (hdg : decode cc pc = .ok (.lload i, 2)) (hlv : lv[j]? = some (i, .long v))
    (kk : J C ce sl M (pc + 2) lv (.long v :: st)) : J C ce sl M pc lv (st) := by
  obtain ⟨p, l, e, R, s, m, args, below, meth, c, H0, A, Q, nL0, G, ad0, n0⟩ := C
  obtain ⟨hx, hb, hml, hnl, hown, hts, hKK, hH0, hA, hlk, hrt, hR, hQ, hxt⟩ := hC
  intro ad H locs ls hW hAa hag hn hvl hvs hS hl
  exact lv_lload hx hb hdg (lv_at hl j (mp_at hlv)) (kk ad H locs ls hW hAa hag hn hvl (vs_c Vok_long hvs) hS hl)
theorem J_dload_n {C : JC} {x : Bool} {cc : ByteArray} {nL : Nat} {rm : Room} {rt : Option FieldType} {own : String} {res : Res} {ce sl : Nat} {M : Mem} {pc : Nat} {lv : List (Nat × Value)} {st : List Value} {k : Fin 4} {j : Nat} {v : UInt64} (hC : Ok C x cc nL rm rt own res) (hdg : decode cc pc = .ok (.dload_n k, 1)) (hlv : lv[j]? = some ((k : Nat), .double v))
    (kk : J C ce sl M (pc + 1) lv (.double v :: st)) : J C ce sl M pc lv (st) := by
  obtain ⟨p, l, e, R, s, m, args, below, meth, c, H0, A, Q, nL0, G, ad0, n0⟩ := C
  obtain ⟨hx, hb, hml, hnl, hown, hts, hKK, hH0, hA, hlk, hrt, hR, hQ, hxt⟩ := hC
  intro ad H locs ls hW hAa hag hn hvl hvs hS hl
  exact lv_dload_n hx hb hdg rfl (lv_at hl j (mp_at hlv)) (kk ad H locs ls hW hAa hag hn hvl (vs_c Vok_double hvs) hS hl)
theorem J_dload {C : JC} {x : Bool} {cc : ByteArray} {nL : Nat} {rm : Room} {rt : Option FieldType} {own : String} {res : Res} {ce sl : Nat} {M : Mem} {pc : Nat} {lv : List (Nat × Value)} {st : List Value} {i j : Nat} {v : UInt64} (hC : Ok C x cc nL rm rt own res) (hdg : decode cc pc = .ok (.dload i, 2)) (hlv : lv[j]? = some (i, .double v))
    (kk : J C ce sl M (pc + 2) lv (.double v :: st)) : J C ce sl M pc lv (st) := by
  obtain ⟨p, l, e, R, s, m, args, below, meth, c, H0, A, Q, nL0, G, ad0, n0⟩ := C
  obtain ⟨hx, hb, hml, hnl, hown, hts, hKK, hH0, hA, hlk, hrt, hR, hQ, hxt⟩ := hC
  intro ad H locs ls hW hAa hag hn hvl hvs hS hl
  exact lv_dload hx hb hdg (lv_at hl j (mp_at hlv)) (kk ad H locs ls hW hAa hag hn hvl (vs_c Vok_double hvs) hS hl)
theorem J_aload_n {C : JC} {x : Bool} {cc : ByteArray} {nL : Nat} {rm : Room} {rt : Option FieldType} {own : String} {res : Res} {ce sl : Nat} {M : Mem} {pc : Nat} {lv : List (Nat × Value)} {st : List Value} {k : Fin 4} {j : Nat} {r : Option Nat} (hC : Ok C x cc nL rm rt own res) (hdg : decode cc pc = .ok (.aload_n k, 1)) (hlv : lv[j]? = some ((k : Nat), rf r))
    (kk : J C ce sl M (pc + 1) lv (rf r :: st)) : J C ce sl M pc lv (st) := by
  obtain ⟨p, l, e, R, s, m, args, below, meth, c, H0, A, Q, nL0, G, ad0, n0⟩ := C
  obtain ⟨hx, hb, hml, hnl, hown, hts, hKK, hH0, hA, hlk, hrt, hR, hQ, hxt⟩ := hC
  intro ad H locs ls hW hAa hag hn hvl hvs hS hl
  have kk := (kk ad H locs ls hW hAa hag hn hvl (vs_c (vl_at hvl hlv) hvs) hS hl)
  have h9 := lv_at hl j (mp_at hlv)
  cases r with
  | none => exact lv_aload_nN hx hb hdg rfl h9 kk
  | some q => exact lv_aload_n hx hb hdg rfl h9 kk
theorem J_aload {C : JC} {x : Bool} {cc : ByteArray} {nL : Nat} {rm : Room} {rt : Option FieldType} {own : String} {res : Res} {ce sl : Nat} {M : Mem} {pc : Nat} {lv : List (Nat × Value)} {st : List Value} {i j : Nat} {r : Option Nat} (hC : Ok C x cc nL rm rt own res) (hdg : decode cc pc = .ok (.aload i, 2)) (hlv : lv[j]? = some (i, rf r))
    (kk : J C ce sl M (pc + 2) lv (rf r :: st)) : J C ce sl M pc lv (st) := by
  obtain ⟨p, l, e, R, s, m, args, below, meth, c, H0, A, Q, nL0, G, ad0, n0⟩ := C
  obtain ⟨hx, hb, hml, hnl, hown, hts, hKK, hH0, hA, hlk, hrt, hR, hQ, hxt⟩ := hC
  intro ad H locs ls hW hAa hag hn hvl hvs hS hl
  have kk := (kk ad H locs ls hW hAa hag hn hvl (vs_c (vl_at hvl hlv) hvs) hS hl)
  have h9 := lv_at hl j (mp_at hlv)
  cases r with
  | none => exact lv_aloadN hx hb hdg h9 kk
  | some q => exact lv_aload hx hb hdg h9 kk
theorem J_istore_n {C : JC} {x : Bool} {cc : ByteArray} {nL : Nat} {rm : Room} {rt : Option FieldType} {own : String} {res : Res} {ce sl : Nat} {M : Mem} {pc : Nat} {lv : List (Nat × Value)} {st : List Value} {k : Fin 4} {i : Nat} {v : Int32} (hk : (k : Nat) = i) {lv' : List (Nat × Value)} (hC : Ok C x cc nL rm rt own res) (hdg : decode cc pc = .ok (.istore_n k, 1)) (hi : i < nL) (hlv : (i, Value.int v) :: lv.filter (fun q => !(q.1 == i) && !(q.1 + 1 == i && q.2.category == 2)) = lv')
    (kk : J C ce sl M (pc + 1) lv' st) : J C ce sl M pc lv (Value.int v :: st) := by
  obtain ⟨p, l, e, R, s, m, args, below, meth, c, H0, A, Q, nL0, G, ad0, n0⟩ := C
  obtain ⟨hx, hb, hml, hnl, hown, hts, hKK, hH0, hA, hlk, hrt, hR, hQ, hxt⟩ := hC
  intro ad H locs ls hW hAa hag hn hvl hvs hS hl
  subst hnl
  have kk := fun ls hl => kk ad H locs ls hW hAa hag hn (vl_st hlv (vs_h hvs) hvl) (vs_t hvs) hS hl
  have h9 := mp_st1 (ad := ad) hlv
  exact lv_istore_n hx hb hdg hk hl hi h9 kk
theorem J_istore {C : JC} {x : Bool} {cc : ByteArray} {nL : Nat} {rm : Room} {rt : Option FieldType} {own : String} {res : Res} {ce sl : Nat} {M : Mem} {pc : Nat} {lv : List (Nat × Value)} {st : List Value} {i : Nat} {v : Int32} {lv' : List (Nat × Value)} (hC : Ok C x cc nL rm rt own res) (hdg : decode cc pc = .ok (.istore i, 2)) (hi : i < nL) (hlv : (i, Value.int v) :: lv.filter (fun q => !(q.1 == i) && !(q.1 + 1 == i && q.2.category == 2)) = lv')
    (kk : J C ce sl M (pc + 2) lv' st) : J C ce sl M pc lv (Value.int v :: st) := by
  obtain ⟨p, l, e, R, s, m, args, below, meth, c, H0, A, Q, nL0, G, ad0, n0⟩ := C
  obtain ⟨hx, hb, hml, hnl, hown, hts, hKK, hH0, hA, hlk, hrt, hR, hQ, hxt⟩ := hC
  intro ad H locs ls hW hAa hag hn hvl hvs hS hl
  subst hnl
  have kk := fun ls hl => kk ad H locs ls hW hAa hag hn (vl_st hlv (vs_h hvs) hvl) (vs_t hvs) hS hl
  have h9 := mp_st1 (ad := ad) hlv
  exact lv_istore hx hb hdg hl hi h9 kk
theorem J_lstore_n {C : JC} {x : Bool} {cc : ByteArray} {nL : Nat} {rm : Room} {rt : Option FieldType} {own : String} {res : Res} {ce sl : Nat} {M : Mem} {pc : Nat} {lv : List (Nat × Value)} {st : List Value} {k : Fin 4} {i : Nat} {v : Int64} (hk : (k : Nat) = i) {lv' : List (Nat × Value)} (hC : Ok C x cc nL rm rt own res) (hdg : decode cc pc = .ok (.lstore_n k, 1)) (hi : i + 1 < nL) (hlv : (i, Value.long v) :: lv.filter (fun q => !(q.1 == i) && (!(q.1 == i + 1) && !(q.1 + 1 == i && q.2.category == 2))) = lv')
    (kk : J C ce sl M (pc + 1) lv' st) : J C ce sl M pc lv (Value.long v :: st) := by
  obtain ⟨p, l, e, R, s, m, args, below, meth, c, H0, A, Q, nL0, G, ad0, n0⟩ := C
  obtain ⟨hx, hb, hml, hnl, hown, hts, hKK, hH0, hA, hlk, hrt, hR, hQ, hxt⟩ := hC
  intro ad H locs ls hW hAa hag hn hvl hvs hS hl
  subst hnl
  have kk := fun ls hl => kk ad H locs ls hW hAa hag hn (vl_st hlv (vs_h hvs) hvl) (vs_t hvs) hS hl
  have h9 := mp_st2 (ad := ad) hlv
  exact lv_lstore_n hx hb hdg hk hl hi h9 kk
theorem J_lstore {C : JC} {x : Bool} {cc : ByteArray} {nL : Nat} {rm : Room} {rt : Option FieldType} {own : String} {res : Res} {ce sl : Nat} {M : Mem} {pc : Nat} {lv : List (Nat × Value)} {st : List Value} {i : Nat} {v : Int64} {lv' : List (Nat × Value)} (hC : Ok C x cc nL rm rt own res) (hdg : decode cc pc = .ok (.lstore i, 2)) (hi : i + 1 < nL) (hlv : (i, Value.long v) :: lv.filter (fun q => !(q.1 == i) && (!(q.1 == i + 1) && !(q.1 + 1 == i && q.2.category == 2))) = lv')
    (kk : J C ce sl M (pc + 2) lv' st) : J C ce sl M pc lv (Value.long v :: st) := by
  obtain ⟨p, l, e, R, s, m, args, below, meth, c, H0, A, Q, nL0, G, ad0, n0⟩ := C
  obtain ⟨hx, hb, hml, hnl, hown, hts, hKK, hH0, hA, hlk, hrt, hR, hQ, hxt⟩ := hC
  intro ad H locs ls hW hAa hag hn hvl hvs hS hl
  subst hnl
  have kk := fun ls hl => kk ad H locs ls hW hAa hag hn (vl_st hlv (vs_h hvs) hvl) (vs_t hvs) hS hl
  have h9 := mp_st2 (ad := ad) hlv
  exact lv_lstore hx hb hdg hl hi h9 kk
theorem J_dstore_n {C : JC} {x : Bool} {cc : ByteArray} {nL : Nat} {rm : Room} {rt : Option FieldType} {own : String} {res : Res} {ce sl : Nat} {M : Mem} {pc : Nat} {lv : List (Nat × Value)} {st : List Value} {k : Fin 4} {i : Nat} {v : UInt64} (hk : (k : Nat) = i) {lv' : List (Nat × Value)} (hC : Ok C x cc nL rm rt own res) (hdg : decode cc pc = .ok (.dstore_n k, 1)) (hi : i + 1 < nL) (hlv : (i, Value.double v) :: lv.filter (fun q => !(q.1 == i) && (!(q.1 == i + 1) && !(q.1 + 1 == i && q.2.category == 2))) = lv')
    (kk : J C ce sl M (pc + 1) lv' st) : J C ce sl M pc lv (Value.double v :: st) := by
  obtain ⟨p, l, e, R, s, m, args, below, meth, c, H0, A, Q, nL0, G, ad0, n0⟩ := C
  obtain ⟨hx, hb, hml, hnl, hown, hts, hKK, hH0, hA, hlk, hrt, hR, hQ, hxt⟩ := hC
  intro ad H locs ls hW hAa hag hn hvl hvs hS hl
  subst hnl
  have kk := fun ls hl => kk ad H locs ls hW hAa hag hn (vl_st hlv (vs_h hvs) hvl) (vs_t hvs) hS hl
  have h9 := mp_st2 (ad := ad) hlv
  exact lv_dstore_n hx hb hdg hk hl hi h9 kk
theorem J_dstore {C : JC} {x : Bool} {cc : ByteArray} {nL : Nat} {rm : Room} {rt : Option FieldType} {own : String} {res : Res} {ce sl : Nat} {M : Mem} {pc : Nat} {lv : List (Nat × Value)} {st : List Value} {i : Nat} {v : UInt64} {lv' : List (Nat × Value)} (hC : Ok C x cc nL rm rt own res) (hdg : decode cc pc = .ok (.dstore i, 2)) (hi : i + 1 < nL) (hlv : (i, Value.double v) :: lv.filter (fun q => !(q.1 == i) && (!(q.1 == i + 1) && !(q.1 + 1 == i && q.2.category == 2))) = lv')
    (kk : J C ce sl M (pc + 2) lv' st) : J C ce sl M pc lv (Value.double v :: st) := by
  obtain ⟨p, l, e, R, s, m, args, below, meth, c, H0, A, Q, nL0, G, ad0, n0⟩ := C
  obtain ⟨hx, hb, hml, hnl, hown, hts, hKK, hH0, hA, hlk, hrt, hR, hQ, hxt⟩ := hC
  intro ad H locs ls hW hAa hag hn hvl hvs hS hl
  subst hnl
  have kk := fun ls hl => kk ad H locs ls hW hAa hag hn (vl_st hlv (vs_h hvs) hvl) (vs_t hvs) hS hl
  have h9 := mp_st2 (ad := ad) hlv
  exact lv_dstore hx hb hdg hl hi h9 kk
theorem J_astore_n {C : JC} {x : Bool} {cc : ByteArray} {nL : Nat} {rm : Room} {rt : Option FieldType} {own : String} {res : Res} {ce sl : Nat} {M : Mem} {pc : Nat} {lv : List (Nat × Value)} {st : List Value} {k : Fin 4} {i : Nat} {r : Option Nat} (hk : (k : Nat) = i) {lv' : List (Nat × Value)} (hC : Ok C x cc nL rm rt own res) (hdg : decode cc pc = .ok (.astore_n k, 1)) (hi : i < nL) (hlv : (i, rf r) :: lv.filter (fun q => !(q.1 == i) && !(q.1 + 1 == i && q.2.category == 2)) = lv')
    (kk : J C ce sl M (pc + 1) lv' st) : J C ce sl M pc lv (rf r :: st) := by
  obtain ⟨p, l, e, R, s, m, args, below, meth, c, H0, A, Q, nL0, G, ad0, n0⟩ := C
  obtain ⟨hx, hb, hml, hnl, hown, hts, hKK, hH0, hA, hlk, hrt, hR, hQ, hxt⟩ := hC
  intro ad H locs ls hW hAa hag hn hvl hvs hS hl
  subst hnl
  have kk := fun ls hl => kk ad H locs ls hW hAa hag hn (vl_st hlv (vs_h hvs) hvl) (vs_t hvs) hS hl
  have h9 := mp_st1 (ad := ad) hlv
  cases r with
  | none => exact lv_astore_nN hx hb hdg hk hl hi h9 kk
  | some q => exact lv_astore_n hx hb hdg hk hl hi h9 kk
theorem J_astore {C : JC} {x : Bool} {cc : ByteArray} {nL : Nat} {rm : Room} {rt : Option FieldType} {own : String} {res : Res} {ce sl : Nat} {M : Mem} {pc : Nat} {lv : List (Nat × Value)} {st : List Value} {i : Nat} {r : Option Nat} {lv' : List (Nat × Value)} (hC : Ok C x cc nL rm rt own res) (hdg : decode cc pc = .ok (.astore i, 2)) (hi : i < nL) (hlv : (i, rf r) :: lv.filter (fun q => !(q.1 == i) && !(q.1 + 1 == i && q.2.category == 2)) = lv')
    (kk : J C ce sl M (pc + 2) lv' st) : J C ce sl M pc lv (rf r :: st) := by
  obtain ⟨p, l, e, R, s, m, args, below, meth, c, H0, A, Q, nL0, G, ad0, n0⟩ := C
  obtain ⟨hx, hb, hml, hnl, hown, hts, hKK, hH0, hA, hlk, hrt, hR, hQ, hxt⟩ := hC
  intro ad H locs ls hW hAa hag hn hvl hvs hS hl
  subst hnl
  have kk := fun ls hl => kk ad H locs ls hW hAa hag hn (vl_st hlv (vs_h hvs) hvl) (vs_t hvs) hS hl
  have h9 := mp_st1 (ad := ad) hlv
  cases r with
  | none => exact lv_astoreN hx hb hdg hl hi h9 kk
  | some q => exact lv_astore hx hb hdg hl hi h9 kk
theorem J_iinc {C : JC} {x : Bool} {cc : ByteArray} {nL : Nat} {rm : Room} {rt : Option FieldType} {own : String} {res : Res} {ce sl : Nat} {M : Mem} {pc : Nat} {lv : List (Nat × Value)} {st : List Value} {i j : Nat} {n : Int} {v w : Int32} {lv' : List (Nat × Value)} (hC : Ok C x cc nL rm rt own res) (hdg : decode cc pc = .ok (.iinc i n, 3)) (hi : i < nL) (hj : lv[j]? = some (i, .int v)) (hw : v + Int32.ofInt n = w) (hlv : (i, Value.int w) :: lv.filter (fun q => !(q.1 == i) && !(q.1 + 1 == i && q.2.category == 2)) = lv')
    (kk : J C ce sl M (pc + 3) lv' st) : J C ce sl M pc lv st := by
  obtain ⟨p, l, e, R, s, m, args, below, meth, c, H0, A, Q, nL0, G, ad0, n0⟩ := C
  obtain ⟨hx, hb, hml, hnl, hown, hts, hKK, hH0, hA, hlk, hrt, hR, hQ, hxt⟩ := hC
  intro ad H locs ls hW hAa hag hn hvl hvs hS hl
  subst hnl
  have h9 := mp_st1 (ad := ad) hlv
  exact lv_iinc hx hb hdg hl (mp_at hj) hw hi h9 (fun ls hl => kk ad H locs ls hW hAa hag hn (vl_st hlv Vok_int hvl) hvs hS hl)
theorem J_iadd {C : JC} {x : Bool} {cc : ByteArray} {nL : Nat} {rm : Room} {rt : Option FieldType} {own : String} {res : Res} {ce sl : Nat} {M : Mem} {pc : Nat} {lv : List (Nat × Value)} {st : List Value} {a b : Int32} (hC : Ok C x cc nL rm rt own res) (hdg : decode cc pc = .ok (.iadd, 1))
    (kk : J C ce sl M (pc + 1) lv (.int (a + b) :: st)) : J C ce sl M pc lv (.int b :: .int a :: st) := by
  obtain ⟨p, l, e, R, s, m, args, below, meth, c, H0, A, Q, nL0, G, ad0, n0⟩ := C
  obtain ⟨hx, hb, hml, hnl, hown, hts, hKK, hH0, hA, hlk, hrt, hR, hQ, hxt⟩ := hC
  intro ad H locs ls hW hAa hag hn hvl hvs hS hl
  exact lv_iadd hx hb hdg (kk ad H locs ls hW hAa hag hn hvl (vs_c Vok_int (vs_t (vs_t hvs))) hS hl)
theorem J_isub {C : JC} {x : Bool} {cc : ByteArray} {nL : Nat} {rm : Room} {rt : Option FieldType} {own : String} {res : Res} {ce sl : Nat} {M : Mem} {pc : Nat} {lv : List (Nat × Value)} {st : List Value} {a b : Int32} (hC : Ok C x cc nL rm rt own res) (hdg : decode cc pc = .ok (.isub, 1))
    (kk : J C ce sl M (pc + 1) lv (.int (a - b) :: st)) : J C ce sl M pc lv (.int b :: .int a :: st) := by
  obtain ⟨p, l, e, R, s, m, args, below, meth, c, H0, A, Q, nL0, G, ad0, n0⟩ := C
  obtain ⟨hx, hb, hml, hnl, hown, hts, hKK, hH0, hA, hlk, hrt, hR, hQ, hxt⟩ := hC
  intro ad H locs ls hW hAa hag hn hvl hvs hS hl
  exact lv_isub hx hb hdg (kk ad H locs ls hW hAa hag hn hvl (vs_c Vok_int (vs_t (vs_t hvs))) hS hl)
theorem J_imul {C : JC} {x : Bool} {cc : ByteArray} {nL : Nat} {rm : Room} {rt : Option FieldType} {own : String} {res : Res} {ce sl : Nat} {M : Mem} {pc : Nat} {lv : List (Nat × Value)} {st : List Value} {a b : Int32} (hC : Ok C x cc nL rm rt own res) (hdg : decode cc pc = .ok (.imul, 1))
    (kk : J C ce sl M (pc + 1) lv (.int (a * b) :: st)) : J C ce sl M pc lv (.int b :: .int a :: st) := by
  obtain ⟨p, l, e, R, s, m, args, below, meth, c, H0, A, Q, nL0, G, ad0, n0⟩ := C
  obtain ⟨hx, hb, hml, hnl, hown, hts, hKK, hH0, hA, hlk, hrt, hR, hQ, hxt⟩ := hC
  intro ad H locs ls hW hAa hag hn hvl hvs hS hl
  exact lv_imul hx hb hdg (kk ad H locs ls hW hAa hag hn hvl (vs_c Vok_int (vs_t (vs_t hvs))) hS hl)
theorem J_iand {C : JC} {x : Bool} {cc : ByteArray} {nL : Nat} {rm : Room} {rt : Option FieldType} {own : String} {res : Res} {ce sl : Nat} {M : Mem} {pc : Nat} {lv : List (Nat × Value)} {st : List Value} {a b : Int32} (hC : Ok C x cc nL rm rt own res) (hdg : decode cc pc = .ok (.iand, 1))
    (kk : J C ce sl M (pc + 1) lv (.int (a &&& b) :: st)) : J C ce sl M pc lv (.int b :: .int a :: st) := by
  obtain ⟨p, l, e, R, s, m, args, below, meth, c, H0, A, Q, nL0, G, ad0, n0⟩ := C
  obtain ⟨hx, hb, hml, hnl, hown, hts, hKK, hH0, hA, hlk, hrt, hR, hQ, hxt⟩ := hC
  intro ad H locs ls hW hAa hag hn hvl hvs hS hl
  exact lv_iand hx hb hdg (kk ad H locs ls hW hAa hag hn hvl (vs_c Vok_int (vs_t (vs_t hvs))) hS hl)
theorem J_ior {C : JC} {x : Bool} {cc : ByteArray} {nL : Nat} {rm : Room} {rt : Option FieldType} {own : String} {res : Res} {ce sl : Nat} {M : Mem} {pc : Nat} {lv : List (Nat × Value)} {st : List Value} {a b : Int32} (hC : Ok C x cc nL rm rt own res) (hdg : decode cc pc = .ok (.ior, 1))
    (kk : J C ce sl M (pc + 1) lv (.int (a ||| b) :: st)) : J C ce sl M pc lv (.int b :: .int a :: st) := by
  obtain ⟨p, l, e, R, s, m, args, below, meth, c, H0, A, Q, nL0, G, ad0, n0⟩ := C
  obtain ⟨hx, hb, hml, hnl, hown, hts, hKK, hH0, hA, hlk, hrt, hR, hQ, hxt⟩ := hC
  intro ad H locs ls hW hAa hag hn hvl hvs hS hl
  exact lv_ior hx hb hdg (kk ad H locs ls hW hAa hag hn hvl (vs_c Vok_int (vs_t (vs_t hvs))) hS hl)
theorem J_ladd {C : JC} {x : Bool} {cc : ByteArray} {nL : Nat} {rm : Room} {rt : Option FieldType} {own : String} {res : Res} {ce sl : Nat} {M : Mem} {pc : Nat} {lv : List (Nat × Value)} {st : List Value} {a b : Int64} (hC : Ok C x cc nL rm rt own res) (hdg : decode cc pc = .ok (.ladd, 1))
    (kk : J C ce sl M (pc + 1) lv (.long (a + b) :: st)) : J C ce sl M pc lv (.long b :: .long a :: st) := by
  obtain ⟨p, l, e, R, s, m, args, below, meth, c, H0, A, Q, nL0, G, ad0, n0⟩ := C
  obtain ⟨hx, hb, hml, hnl, hown, hts, hKK, hH0, hA, hlk, hrt, hR, hQ, hxt⟩ := hC
  intro ad H locs ls hW hAa hag hn hvl hvs hS hl
  exact lv_ladd hx hb hdg (kk ad H locs ls hW hAa hag hn hvl (vs_c Vok_long (vs_t (vs_t hvs))) hS hl)
theorem J_lsub {C : JC} {x : Bool} {cc : ByteArray} {nL : Nat} {rm : Room} {rt : Option FieldType} {own : String} {res : Res} {ce sl : Nat} {M : Mem} {pc : Nat} {lv : List (Nat × Value)} {st : List Value} {a b : Int64} (hC : Ok C x cc nL rm rt own res) (hdg : decode cc pc = .ok (.lsub, 1))
    (kk : J C ce sl M (pc + 1) lv (.long (a - b) :: st)) : J C ce sl M pc lv (.long b :: .long a :: st) := by
  obtain ⟨p, l, e, R, s, m, args, below, meth, c, H0, A, Q, nL0, G, ad0, n0⟩ := C
  obtain ⟨hx, hb, hml, hnl, hown, hts, hKK, hH0, hA, hlk, hrt, hR, hQ, hxt⟩ := hC
  intro ad H locs ls hW hAa hag hn hvl hvs hS hl
  exact lv_lsub hx hb hdg (kk ad H locs ls hW hAa hag hn hvl (vs_c Vok_long (vs_t (vs_t hvs))) hS hl)
theorem J_lmul {C : JC} {x : Bool} {cc : ByteArray} {nL : Nat} {rm : Room} {rt : Option FieldType} {own : String} {res : Res} {ce sl : Nat} {M : Mem} {pc : Nat} {lv : List (Nat × Value)} {st : List Value} {a b : Int64} (hC : Ok C x cc nL rm rt own res) (hdg : decode cc pc = .ok (.lmul, 1))
    (kk : J C ce sl M (pc + 1) lv (.long (a * b) :: st)) : J C ce sl M pc lv (.long b :: .long a :: st) := by
  obtain ⟨p, l, e, R, s, m, args, below, meth, c, H0, A, Q, nL0, G, ad0, n0⟩ := C
  obtain ⟨hx, hb, hml, hnl, hown, hts, hKK, hH0, hA, hlk, hrt, hR, hQ, hxt⟩ := hC
  intro ad H locs ls hW hAa hag hn hvl hvs hS hl
  exact lv_lmul hx hb hdg (kk ad H locs ls hW hAa hag hn hvl (vs_c Vok_long (vs_t (vs_t hvs))) hS hl)
theorem J_idiv {C : JC} {x : Bool} {cc : ByteArray} {nL : Nat} {rm : Room} {rt : Option FieldType} {own : String} {res : Res} {ce sl : Nat} {M : Mem} {pc : Nat} {lv : List (Nat × Value)} {st : List Value} {a b : Int32} (hC : Ok C x cc nL rm rt own res) (hdg : decode cc pc = .ok (.idiv, 1)) (h0 : ¬ b = 0)
    (kk : J C ce sl M (pc + 1) lv (.int (a / b) :: st)) : J C ce sl M pc lv (.int b :: .int a :: st) := by
  obtain ⟨p, l, e, R, s, m, args, below, meth, c, H0, A, Q, nL0, G, ad0, n0⟩ := C
  obtain ⟨hx, hb, hml, hnl, hown, hts, hKK, hH0, hA, hlk, hrt, hR, hQ, hxt⟩ := hC
  intro ad H locs ls hW hAa hag hn hvl hvs hS hl
  exact lv_idiv hx hb hdg h0 (kk ad H locs ls hW hAa hag hn hvl (vs_c Vok_int (vs_t (vs_t hvs))) hS hl)
theorem J_irem {C : JC} {x : Bool} {cc : ByteArray} {nL : Nat} {rm : Room} {rt : Option FieldType} {own : String} {res : Res} {ce sl : Nat} {M : Mem} {pc : Nat} {lv : List (Nat × Value)} {st : List Value} {a b : Int32} (hC : Ok C x cc nL rm rt own res) (hdg : decode cc pc = .ok (.irem, 1)) (h0 : ¬ b = 0)
    (kk : J C ce sl M (pc + 1) lv (.int (a - a / b * b) :: st)) : J C ce sl M pc lv (.int b :: .int a :: st) := by
  obtain ⟨p, l, e, R, s, m, args, below, meth, c, H0, A, Q, nL0, G, ad0, n0⟩ := C
  obtain ⟨hx, hb, hml, hnl, hown, hts, hKK, hH0, hA, hlk, hrt, hR, hQ, hxt⟩ := hC
  intro ad H locs ls hW hAa hag hn hvl hvs hS hl
  exact lv_irem hx hb hdg h0 (kk ad H locs ls hW hAa hag hn hvl (vs_c Vok_int (vs_t (vs_t hvs))) hS hl)
theorem J_ineg {C : JC} {x : Bool} {cc : ByteArray} {nL : Nat} {rm : Room} {rt : Option FieldType} {own : String} {res : Res} {ce sl : Nat} {M : Mem} {pc : Nat} {lv : List (Nat × Value)} {st : List Value} {a : Int32} (hC : Ok C x cc nL rm rt own res) (hdg : decode cc pc = .ok (.ineg, 1))
    (kk : J C ce sl M (pc + 1) lv (.int (-a) :: st)) : J C ce sl M pc lv (.int a :: st) := by
  obtain ⟨p, l, e, R, s, m, args, below, meth, c, H0, A, Q, nL0, G, ad0, n0⟩ := C
  obtain ⟨hx, hb, hml, hnl, hown, hts, hKK, hH0, hA, hlk, hrt, hR, hQ, hxt⟩ := hC
  intro ad H locs ls hW hAa hag hn hvl hvs hS hl
  exact lv_ineg hx hb hdg (kk ad H locs ls hW hAa hag hn hvl (vs_c Vok_int (vs_t hvs)) hS hl)
theorem J_i2l {C : JC} {x : Bool} {cc : ByteArray} {nL : Nat} {rm : Room} {rt : Option FieldType} {own : String} {res : Res} {ce sl : Nat} {M : Mem} {pc : Nat} {lv : List (Nat × Value)} {st : List Value} {a : Int32} (hC : Ok C x cc nL rm rt own res) (hdg : decode cc pc = .ok (.i2l, 1))
    (kk : J C ce sl M (pc + 1) lv (.long a.toInt64 :: st)) : J C ce sl M pc lv (.int a :: st) := by
  obtain ⟨p, l, e, R, s, m, args, below, meth, c, H0, A, Q, nL0, G, ad0, n0⟩ := C
  obtain ⟨hx, hb, hml, hnl, hown, hts, hKK, hH0, hA, hlk, hrt, hR, hQ, hxt⟩ := hC
  intro ad H locs ls hW hAa hag hn hvl hvs hS hl
  exact lv_i2l hx hb hdg rfl (kk ad H locs ls hW hAa hag hn hvl (vs_c Vok_long (vs_t hvs)) hS hl)
theorem J_i2d {C : JC} {x : Bool} {cc : ByteArray} {nL : Nat} {rm : Room} {rt : Option FieldType} {own : String} {res : Res} {ce sl : Nat} {M : Mem} {pc : Nat} {lv : List (Nat × Value)} {st : List Value} {a : Int32} (hC : Ok C x cc nL rm rt own res) (hdg : decode cc pc = .ok (.i2d, 1))
    (kk : J C ce sl M (pc + 1) lv (.double (FP.i2d a) :: st)) : J C ce sl M pc lv (.int a :: st) := by
  obtain ⟨p, l, e, R, s, m, args, below, meth, c, H0, A, Q, nL0, G, ad0, n0⟩ := C
  obtain ⟨hx, hb, hml, hnl, hown, hts, hKK, hH0, hA, hlk, hrt, hR, hQ, hxt⟩ := hC
  intro ad H locs ls hW hAa hag hn hvl hvs hS hl
  exact lv_i2d hx hb hdg (kk ad H locs ls hW hAa hag hn hvl (vs_c Vok_double (vs_t hvs)) hS hl)
theorem J_d2l {C : JC} {x : Bool} {cc : ByteArray} {nL : Nat} {rm : Room} {rt : Option FieldType} {own : String} {res : Res} {ce sl : Nat} {M : Mem} {pc : Nat} {lv : List (Nat × Value)} {st : List Value} {a : UInt64} (hC : Ok C x cc nL rm rt own res) (hdg : decode cc pc = .ok (.d2l, 1))
    (kk : J C ce sl M (pc + 1) lv (.long (FP.d2l a) :: st)) : J C ce sl M pc lv (.double a :: st) := by
  obtain ⟨p, l, e, R, s, m, args, below, meth, c, H0, A, Q, nL0, G, ad0, n0⟩ := C
  obtain ⟨hx, hb, hml, hnl, hown, hts, hKK, hH0, hA, hlk, hrt, hR, hQ, hxt⟩ := hC
  intro ad H locs ls hW hAa hag hn hvl hvs hS hl
  exact lv_d2l hx hb hdg (kk ad H locs ls hW hAa hag hn hvl (vs_c Vok_long (vs_t hvs)) hS hl)
theorem J_lshl {C : JC} {x : Bool} {cc : ByteArray} {nL : Nat} {rm : Room} {rt : Option FieldType} {own : String} {res : Res} {ce sl : Nat} {M : Mem} {pc : Nat} {lv : List (Nat × Value)} {st : List Value} {a : Int64} {b : Int32} (hC : Ok C x cc nL rm rt own res) (hdg : decode cc pc = .ok (.lshl, 1))
    (kk : J C ce sl M (pc + 1) lv (.long (a <<< (b.toInt64 &&& 63)) :: st)) : J C ce sl M pc lv (.int b :: .long a :: st) := by
  obtain ⟨p, l, e, R, s, m, args, below, meth, c, H0, A, Q, nL0, G, ad0, n0⟩ := C
  obtain ⟨hx, hb, hml, hnl, hown, hts, hKK, hH0, hA, hlk, hrt, hR, hQ, hxt⟩ := hC
  intro ad H locs ls hW hAa hag hn hvl hvs hS hl
  exact lv_lshl hx hb hdg rfl (kk ad H locs ls hW hAa hag hn hvl (vs_c Vok_long (vs_t (vs_t hvs))) hS hl)
theorem J_lcmp {C : JC} {x : Bool} {cc : ByteArray} {nL : Nat} {rm : Room} {rt : Option FieldType} {own : String} {res : Res} {ce sl : Nat} {M : Mem} {pc : Nat} {lv : List (Nat × Value)} {st : List Value} {a b : Int64} (hC : Ok C x cc nL rm rt own res) (hdg : decode cc pc = .ok (.lcmp, 1))
    (kk : J C ce sl M (pc + 1) lv (.int (lg_cmp a b) :: st)) : J C ce sl M pc lv (.long b :: .long a :: st) := by
  obtain ⟨p, l, e, R, s, m, args, below, meth, c, H0, A, Q, nL0, G, ad0, n0⟩ := C
  obtain ⟨hx, hb, hml, hnl, hown, hts, hKK, hH0, hA, hlk, hrt, hR, hQ, hxt⟩ := hC
  intro ad H locs ls hW hAa hag hn hvl hvs hS hl
  exact W.lcmp hx hb hdg (kk ad H locs ls hW hAa hag hn hvl (vs_c Vok_int (vs_t (vs_t hvs))) hS hl)
theorem J_ddiv {C : JC} {x : Bool} {cc : ByteArray} {nL : Nat} {rm : Room} {rt : Option FieldType} {own : String} {res : Res} {ce sl : Nat} {M : Mem} {pc : Nat} {lv : List (Nat × Value)} {st : List Value} {a b : UInt64} (hC : Ok C x cc nL rm rt own res) (hdg : decode cc pc = .ok (.ddiv, 1)) (h0 : vf_n64 (FP.ddiv a b))
    (kk : J C ce sl M (pc + 1) lv (.double (FP.ddiv a b) :: st)) : J C ce sl M pc lv (.double b :: .double a :: st) := by
  obtain ⟨p, l, e, R, s, m, args, below, meth, c, H0, A, Q, nL0, G, ad0, n0⟩ := C
  obtain ⟨hx, hb, hml, hnl, hown, hts, hKK, hH0, hA, hlk, hrt, hR, hQ, hxt⟩ := hC
  intro ad H locs ls hW hAa hag hn hvl hvs hS hl
  exact lv_ddiv hx hb hdg h0 (kk ad H locs ls hW hAa hag hn hvl (vs_c Vok_double (vs_t (vs_t hvs))) hS hl)
theorem J_dmul {C : JC} {x : Bool} {cc : ByteArray} {nL : Nat} {rm : Room} {rt : Option FieldType} {own : String} {res : Res} {ce sl : Nat} {M : Mem} {pc : Nat} {lv : List (Nat × Value)} {st : List Value} {a b : UInt64} (hC : Ok C x cc nL rm rt own res) (hdg : decode cc pc = .ok (.dmul, 1)) (h0 : vf_n64 (FP.dmul a b))
    (kk : J C ce sl M (pc + 1) lv (.double (FP.dmul a b) :: st)) : J C ce sl M pc lv (.double b :: .double a :: st) := by
  obtain ⟨p, l, e, R, s, m, args, below, meth, c, H0, A, Q, nL0, G, ad0, n0⟩ := C
  obtain ⟨hx, hb, hml, hnl, hown, hts, hKK, hH0, hA, hlk, hrt, hR, hQ, hxt⟩ := hC
  intro ad H locs ls hW hAa hag hn hvl hvs hS hl
  exact lv_dmul hx hb hdg h0 (kk ad H locs ls hW hAa hag hn hvl (vs_c Vok_double (vs_t (vs_t hvs))) hS hl)
theorem J_dsub {C : JC} {x : Bool} {cc : ByteArray} {nL : Nat} {rm : Room} {rt : Option FieldType} {own : String} {res : Res} {ce sl : Nat} {M : Mem} {pc : Nat} {lv : List (Nat × Value)} {st : List Value} {a b : UInt64} (hC : Ok C x cc nL rm rt own res) (hdg : decode cc pc = .ok (.dsub, 1)) (h0 : vf_n64 (FP.dsub a b))
    (kk : J C ce sl M (pc + 1) lv (.double (FP.dsub a b) :: st)) : J C ce sl M pc lv (.double b :: .double a :: st) := by
  obtain ⟨p, l, e, R, s, m, args, below, meth, c, H0, A, Q, nL0, G, ad0, n0⟩ := C
  obtain ⟨hx, hb, hml, hnl, hown, hts, hKK, hH0, hA, hlk, hrt, hR, hQ, hxt⟩ := hC
  intro ad H locs ls hW hAa hag hn hvl hvs hS hl
  exact lv_dsub hx hb hdg h0 (kk ad H locs ls hW hAa hag hn hvl (vs_c Vok_double (vs_t (vs_t hvs))) hS hl)
theorem J_dup {C : JC} {x : Bool} {cc : ByteArray} {nL : Nat} {rm : Room} {rt : Option FieldType} {own : String} {res : Res} {ce sl : Nat} {M : Mem} {pc : Nat} {lv : List (Nat × Value)} {st : List Value} {v : Value} (hC : Ok C x cc nL rm rt own res) (hdg : decode cc pc = .ok (.dup, 1)) (h1 : v.category = 1)
    (kk : J C ce sl M (pc + 1) lv (v :: v :: st)) : J C ce sl M pc lv (v :: st) := by
  obtain ⟨p, l, e, R, s, m, args, below, meth, c, H0, A, Q, nL0, G, ad0, n0⟩ := C
  obtain ⟨hx, hb, hml, hnl, hown, hts, hKK, hH0, hA, hlk, hrt, hR, hQ, hxt⟩ := hC
  intro ad H locs ls hW hAa hag hn hvl hvs hS hl
  exact lv_dup hx hb hdg (by rw [cat_phys]; exact h1) (kk ad H locs ls hW hAa hag hn hvl (vs_c (vs_h hvs) hvs) hS hl)
theorem J_dup2 {C : JC} {x : Bool} {cc : ByteArray} {nL : Nat} {rm : Room} {rt : Option FieldType} {own : String} {res : Res} {ce sl : Nat} {M : Mem} {pc : Nat} {lv : List (Nat × Value)} {st : List Value} {v w : Value} (hC : Ok C x cc nL rm rt own res) (hdg : decode cc pc = .ok (.dup2, 1)) (h1 : v.category = 1) (h2 : w.category = 1)
    (kk : J C ce sl M (pc + 1) lv (v :: w :: v :: w :: st)) : J C ce sl M pc lv (v :: w :: st) := by
  obtain ⟨p, l, e, R, s, m, args, below, meth, c, H0, A, Q, nL0, G, ad0, n0⟩ := C
  obtain ⟨hx, hb, hml, hnl, hown, hts, hKK, hH0, hA, hlk, hrt, hR, hQ, hxt⟩ := hC
  intro ad H locs ls hW hAa hag hn hvl hvs hS hl
  exact lv_dup2_11 hx hb hdg (by rw [cat_phys]; exact h1) (by rw [cat_phys]; exact h2) (kk ad H locs ls hW hAa hag hn hvl (vs_c (vs_h hvs) (vs_c (vs_h (vs_t hvs)) hvs)) hS hl)
theorem J_if_eq {C : JC} {x : Bool} {cc : ByteArray} {nL : Nat} {rm : Room} {rt : Option FieldType} {own : String} {res : Res} {ce sl : Nat} {M : Mem} {pc : Nat} {lv : List (Nat × Value)} {st : List Value} {a : Int32} {off : Int} {tgt : Nat} (hC : Ok C x cc nL rm rt own res) (hdg : decode cc pc = .ok (.ifCond .eq off, 3)) (ht : (pc : Int) + off = (tgt : Int))
    (kt : a = 0 → J C ce sl M tgt lv st) (kf : ¬ (a = 0) → J C ce sl M (pc + 3) lv st) : J C ce sl M pc lv (.int a :: st) := by
  obtain ⟨p, l, e, R, s, m, args, below, meth, c, H0, A, Q, nL0, G, ad0, n0⟩ := C
  obtain ⟨hx, hb, hml, hnl, hown, hts, hKK, hH0, hA, hlk, hrt, hR, hQ, hxt⟩ := hC
  intro ad H locs ls hW hAa hag hn hvl hvs hS hl
  exact lv_if_eq hx hb hdg ht (fun h => kt h ad H locs ls hW hAa hag hn hvl (vs_t hvs) hS hl) (fun h => kf h ad H locs ls hW hAa hag hn hvl (vs_t hvs) hS hl)
theorem J_icmp_eq {C : JC} {x : Bool} {cc : ByteArray} {nL : Nat} {rm : Room} {rt : Option FieldType} {own : String} {res : Res} {ce sl : Nat} {M : Mem} {pc : Nat} {lv : List (Nat × Value)} {st : List Value} {a b : Int32} {off : Int} {tgt : Nat} (hC : Ok C x cc nL rm rt own res) (hdg : decode cc pc = .ok (.if_icmp .eq off, 3)) (ht : (pc : Int) + off = (tgt : Int))
    (kt : a = b → J C ce sl M tgt lv st) (kf : ¬ (a = b) → J C ce sl M (pc + 3) lv st) : J C ce sl M pc lv (.int b :: .int a :: st) := by
  obtain ⟨p, l, e, R, s, m, args, below, meth, c, H0, A, Q, nL0, G, ad0, n0⟩ := C
  obtain ⟨hx, hb, hml, hnl, hown, hts, hKK, hH0, hA, hlk, hrt, hR, hQ, hxt⟩ := hC
  intro ad H locs ls hW hAa hag hn hvl hvs hS hl
  exact lv_icmp_eq hx hb hdg ht (fun h => kt h ad H locs ls hW hAa hag hn hvl (vs_t (vs_t hvs)) hS hl) (fun h => kf h ad H locs ls hW hAa hag hn hvl (vs_t (vs_t hvs)) hS hl)
theorem J_if_lt {C : JC} {x : Bool} {cc : ByteArray} {nL : Nat} {rm : Room} {rt : Option FieldType} {own : String} {res : Res} {ce sl : Nat} {M : Mem} {pc : Nat} {lv : List (Nat × Value)} {st : List Value} {a : Int32} {off : Int} {tgt : Nat} (hC : Ok C x cc nL rm rt own res) (hdg : decode cc pc = .ok (.ifCond .lt off, 3)) (ht : (pc : Int) + off = (tgt : Int))
    (kt : a < 0 → J C ce sl M tgt lv st) (kf : ¬ (a < 0) → J C ce sl M (pc + 3) lv st) : J C ce sl M pc lv (.int a :: st) := by
  obtain ⟨p, l, e, R, s, m, args, below, meth, c, H0, A, Q, nL0, G, ad0, n0⟩ := C
  obtain ⟨hx, hb, hml, hnl, hown, hts, hKK, hH0, hA, hlk, hrt, hR, hQ, hxt⟩ := hC
  intro ad H locs ls hW hAa hag hn hvl hvs hS hl
  exact lv_if_lt hx hb hdg ht (fun h => kt h ad H locs ls hW hAa hag hn hvl (vs_t hvs) hS hl) (fun h => kf h ad H locs ls hW hAa hag hn hvl (vs_t hvs) hS hl)
theorem J_icmp_lt {C : JC} {x : Bool} {cc : ByteArray} {nL : Nat} {rm : Room} {rt : Option FieldType} {own : String} {res : Res} {ce sl : Nat} {M : Mem} {pc : Nat} {lv : List (Nat × Value)} {st : List Value} {a b : Int32} {off : Int} {tgt : Nat} (hC : Ok C x cc nL rm rt own res) (hdg : decode cc pc = .ok (.if_icmp .lt off, 3)) (ht : (pc : Int) + off = (tgt : Int))
    (kt : a < b → J C ce sl M tgt lv st) (kf : ¬ (a < b) → J C ce sl M (pc + 3) lv st) : J C ce sl M pc lv (.int b :: .int a :: st) := by
  obtain ⟨p, l, e, R, s, m, args, below, meth, c, H0, A, Q, nL0, G, ad0, n0⟩ := C
  obtain ⟨hx, hb, hml, hnl, hown, hts, hKK, hH0, hA, hlk, hrt, hR, hQ, hxt⟩ := hC
  intro ad H locs ls hW hAa hag hn hvl hvs hS hl
  exact lv_icmp_lt hx hb hdg ht (fun h => kt h ad H locs ls hW hAa hag hn hvl (vs_t (vs_t hvs)) hS hl) (fun h => kf h ad H locs ls hW hAa hag hn hvl (vs_t (vs_t hvs)) hS hl)
theorem J_if_ge {C : JC} {x : Bool} {cc : ByteArray} {nL : Nat} {rm : Room} {rt : Option FieldType} {own : String} {res : Res} {ce sl : Nat} {M : Mem} {pc : Nat} {lv : List (Nat × Value)} {st : List Value} {a : Int32} {off : Int} {tgt : Nat} (hC : Ok C x cc nL rm rt own res) (hdg : decode cc pc = .ok (.ifCond .ge off, 3)) (ht : (pc : Int) + off = (tgt : Int))
    (kt : 0 ≤ a → J C ce sl M tgt lv st) (kf : ¬ (0 ≤ a) → J C ce sl M (pc + 3) lv st) : J C ce sl M pc lv (.int a :: st) := by
  obtain ⟨p, l, e, R, s, m, args, below, meth, c, H0, A, Q, nL0, G, ad0, n0⟩ := C
  obtain ⟨hx, hb, hml, hnl, hown, hts, hKK, hH0, hA, hlk, hrt, hR, hQ, hxt⟩ := hC
  intro ad H locs ls hW hAa hag hn hvl hvs hS hl
  exact lv_if_ge hx hb hdg ht (fun h => kt h ad H locs ls hW hAa hag hn hvl (vs_t hvs) hS hl) (fun h => kf h ad H locs ls hW hAa hag hn hvl (vs_t hvs) hS hl)
theorem J_icmp_ge {C : JC} {x : Bool} {cc : ByteArray} {nL : Nat} {rm : Room} {rt : Option FieldType} {own : String} {res : Res} {ce sl : Nat} {M : Mem} {pc : Nat} {lv : List (Nat × Value)} {st : List Value} {a b : Int32} {off : Int} {tgt : Nat} (hC : Ok C x cc nL rm rt own res) (hdg : decode cc pc = .ok (.if_icmp .ge off, 3)) (ht : (pc : Int) + off = (tgt : Int))
    (kt : b ≤ a → J C ce sl M tgt lv st) (kf : ¬ (b ≤ a) → J C ce sl M (pc + 3) lv st) : J C ce sl M pc lv (.int b :: .int a :: st) := by
  obtain ⟨p, l, e, R, s, m, args, below, meth, c, H0, A, Q, nL0, G, ad0, n0⟩ := C
  obtain ⟨hx, hb, hml, hnl, hown, hts, hKK, hH0, hA, hlk, hrt, hR, hQ, hxt⟩ := hC
  intro ad H locs ls hW hAa hag hn hvl hvs hS hl
  exact lv_icmp_ge hx hb hdg ht (fun h => kt h ad H locs ls hW hAa hag hn hvl (vs_t (vs_t hvs)) hS hl) (fun h => kf h ad H locs ls hW hAa hag hn hvl (vs_t (vs_t hvs)) hS hl)
theorem J_if_gt {C : JC} {x : Bool} {cc : ByteArray} {nL : Nat} {rm : Room} {rt : Option FieldType} {own : String} {res : Res} {ce sl : Nat} {M : Mem} {pc : Nat} {lv : List (Nat × Value)} {st : List Value} {a : Int32} {off : Int} {tgt : Nat} (hC : Ok C x cc nL rm rt own res) (hdg : decode cc pc = .ok (.ifCond .gt off, 3)) (ht : (pc : Int) + off = (tgt : Int))
    (kt : 0 < a → J C ce sl M tgt lv st) (kf : ¬ (0 < a) → J C ce sl M (pc + 3) lv st) : J C ce sl M pc lv (.int a :: st) := by
  obtain ⟨p, l, e, R, s, m, args, below, meth, c, H0, A, Q, nL0, G, ad0, n0⟩ := C
  obtain ⟨hx, hb, hml, hnl, hown, hts, hKK, hH0, hA, hlk, hrt, hR, hQ, hxt⟩ := hC
  intro ad H locs ls hW hAa hag hn hvl hvs hS hl
  exact lv_if_gt hx hb hdg ht (fun h => kt h ad H locs ls hW hAa hag hn hvl (vs_t hvs) hS hl) (fun h => kf h ad H locs ls hW hAa hag hn hvl (vs_t hvs) hS hl)
theorem J_icmp_gt {C : JC} {x : Bool} {cc : ByteArray} {nL : Nat} {rm : Room} {rt : Option FieldType} {own : String} {res : Res} {ce sl : Nat} {M : Mem} {pc : Nat} {lv : List (Nat × Value)} {st : List Value} {a b : Int32} {off : Int} {tgt : Nat} (hC : Ok C x cc nL rm rt own res) (hdg : decode cc pc = .ok (.if_icmp .gt off, 3)) (ht : (pc : Int) + off = (tgt : Int))
    (kt : b < a → J C ce sl M tgt lv st) (kf : ¬ (b < a) → J C ce sl M (pc + 3) lv st) : J C ce sl M pc lv (.int b :: .int a :: st) := by
  obtain ⟨p, l, e, R, s, m, args, below, meth, c, H0, A, Q, nL0, G, ad0, n0⟩ := C
  obtain ⟨hx, hb, hml, hnl, hown, hts, hKK, hH0, hA, hlk, hrt, hR, hQ, hxt⟩ := hC
  intro ad H locs ls hW hAa hag hn hvl hvs hS hl
  exact lv_icmp_gt hx hb hdg ht (fun h => kt h ad H locs ls hW hAa hag hn hvl (vs_t (vs_t hvs)) hS hl) (fun h => kf h ad H locs ls hW hAa hag hn hvl (vs_t (vs_t hvs)) hS hl)
theorem J_if_le {C : JC} {x : Bool} {cc : ByteArray} {nL : Nat} {rm : Room} {rt : Option FieldType} {own : String} {res : Res} {ce sl : Nat} {M : Mem} {pc : Nat} {lv : List (Nat × Value)} {st : List Value} {a : Int32} {off : Int} {tgt : Nat} (hC : Ok C x cc nL rm rt own res) (hdg : decode cc pc = .ok (.ifCond .le off, 3)) (ht : (pc : Int) + off = (tgt : Int))
    (kt : a ≤ 0 → J C ce sl M tgt lv st) (kf : ¬ (a ≤ 0) → J C ce sl M (pc + 3) lv st) : J C ce sl M pc lv (.int a :: st) := by
  obtain ⟨p, l, e, R, s, m, args, below, meth, c, H0, A, Q, nL0, G, ad0, n0⟩ := C
  obtain ⟨hx, hb, hml, hnl, hown, hts, hKK, hH0, hA, hlk, hrt, hR, hQ, hxt⟩ := hC
  intro ad H locs ls hW hAa hag hn hvl hvs hS hl
  exact lv_if_le hx hb hdg ht (fun h => kt h ad H locs ls hW hAa hag hn hvl (vs_t hvs) hS hl) (fun h => kf h ad H locs ls hW hAa hag hn hvl (vs_t hvs) hS hl)
theorem J_icmp_le {C : JC} {x : Bool} {cc : ByteArray} {nL : Nat} {rm : Room} {rt : Option FieldType} {own : String} {res : Res} {ce sl : Nat} {M : Mem} {pc : Nat} {lv : List (Nat × Value)} {st : List Value} {a b : Int32} {off : Int} {tgt : Nat} (hC : Ok C x cc nL rm rt own res) (hdg : decode cc pc = .ok (.if_icmp .le off, 3)) (ht : (pc : Int) + off = (tgt : Int))
    (kt : a ≤ b → J C ce sl M tgt lv st) (kf : ¬ (a ≤ b) → J C ce sl M (pc + 3) lv st) : J C ce sl M pc lv (.int b :: .int a :: st) := by
  obtain ⟨p, l, e, R, s, m, args, below, meth, c, H0, A, Q, nL0, G, ad0, n0⟩ := C
  obtain ⟨hx, hb, hml, hnl, hown, hts, hKK, hH0, hA, hlk, hrt, hR, hQ, hxt⟩ := hC
  intro ad H locs ls hW hAa hag hn hvl hvs hS hl
  exact lv_icmp_le hx hb hdg ht (fun h => kt h ad H locs ls hW hAa hag hn hvl (vs_t (vs_t hvs)) hS hl) (fun h => kf h ad H locs ls hW hAa hag hn hvl (vs_t (vs_t hvs)) hS hl)
theorem J_if_ne {C : JC} {x : Bool} {cc : ByteArray} {nL : Nat} {rm : Room} {rt : Option FieldType} {own : String} {res : Res} {ce sl : Nat} {M : Mem} {pc : Nat} {lv : List (Nat × Value)} {st : List Value} {a : Int32} {off : Int} {tgt : Nat} (hC : Ok C x cc nL rm rt own res) (hdg : decode cc pc = .ok (.ifCond .ne off, 3)) (ht : (pc : Int) + off = (tgt : Int))
    (kt : ¬ (a = 0) → J C ce sl M tgt lv st) (kf : a = 0 → J C ce sl M (pc + 3) lv st) : J C ce sl M pc lv (.int a :: st) := by
  obtain ⟨p, l, e, R, s, m, args, below, meth, c, H0, A, Q, nL0, G, ad0, n0⟩ := C
  obtain ⟨hx, hb, hml, hnl, hown, hts, hKK, hH0, hA, hlk, hrt, hR, hQ, hxt⟩ := hC
  intro ad H locs ls hW hAa hag hn hvl hvs hS hl
  exact lv_if_ne hx hb hdg ht (fun h => kt h ad H locs ls hW hAa hag hn hvl (vs_t hvs) hS hl) (fun h => kf h ad H locs ls hW hAa hag hn hvl (vs_t hvs) hS hl)
theorem J_icmp_ne {C : JC} {x : Bool} {cc : ByteArray} {nL : Nat} {rm : Room} {rt : Option FieldType} {own : String} {res : Res} {ce sl : Nat} {M : Mem} {pc : Nat} {lv : List (Nat × Value)} {st : List Value} {a b : Int32} {off : Int} {tgt : Nat} (hC : Ok C x cc nL rm rt own res) (hdg : decode cc pc = .ok (.if_icmp .ne off, 3)) (ht : (pc : Int) + off = (tgt : Int))
    (kt : ¬ (a = b) → J C ce sl M tgt lv st) (kf : a = b → J C ce sl M (pc + 3) lv st) : J C ce sl M pc lv (.int b :: .int a :: st) := by
  obtain ⟨p, l, e, R, s, m, args, below, meth, c, H0, A, Q, nL0, G, ad0, n0⟩ := C
  obtain ⟨hx, hb, hml, hnl, hown, hts, hKK, hH0, hA, hlk, hrt, hR, hQ, hxt⟩ := hC
  intro ad H locs ls hW hAa hag hn hvl hvs hS hl
  exact lv_icmp_ne hx hb hdg ht (fun h => kt h ad H locs ls hW hAa hag hn hvl (vs_t (vs_t hvs)) hS hl) (fun h => kf h ad H locs ls hW hAa hag hn hvl (vs_t (vs_t hvs)) hS hl)
theorem J_goto {C : JC} {x : Bool} {cc : ByteArray} {nL : Nat} {rm : Room} {rt : Option FieldType} {own : String} {res : Res} {ce sl : Nat} {M : Mem} {pc : Nat} {lv : List (Nat × Value)} {st : List Value} {off : Int} {tgt : Nat} (hC : Ok C x cc nL rm rt own res) (hdg : decode cc pc = .ok (.goto off, 3)) (ht : (pc : Int) + off = (tgt : Int)) (kk : J C ce sl M tgt lv st) : J C ce sl M pc lv st := by
  obtain ⟨p, l, e, R, s, m, args, below, meth, c, H0, A, Q, nL0, G, ad0, n0⟩ := C
  obtain ⟨hx, hb, hml, hnl, hown, hts, hKK, hH0, hA, hlk, hrt, hR, hQ, hxt⟩ := hC
  intro ad H locs ls hW hAa hag hn hvl hvs hS hl
  exact lv_goto hx hb hdg ht (kk ad H locs ls hW hAa hag hn hvl hvs hS hl)
/-- fewer locals, in another order -/
theorem J_sub {C : JC} {ce sl : Nat} {M : Mem} {pc : Nat} {lv lv' : List (Nat × Value)} {st : List Value} (ks : List Nat) (h : lv_pick lv ks = lv') (kk : J C ce sl M pc lv' st) : J C ce sl M pc lv st := by
  obtain ⟨p, l, e, R, s, m, args, below, meth, c, H0, A, Q, nL0, G, ad0, n0⟩ := C
  intro ad H locs ls hW hAa hag hn hvl hvs hS hl
  refine kk ad H locs ls hW hAa hag hn (fun q hq => ?_) hvs hS (lv_sub hl ks ?_)
  · subst h
    obtain ⟨i, -, hi⟩ := List.mem_filterMap.mp hq
    exact hvl q (List.mem_of_getElem? hi)
  · subst h
    simp only [lv_pick, List.map_filterMap, List.getElem?_map]
theorem J_tableIn {C : JC} {x : Bool} {cc : ByteArray} {nL : Nat} {rm : Room} {rt : Option FieldType} {own : String} {res : Res} {ce sl : Nat} {M : Mem} {pc : Nat} {lv : List (Nat × Value)} {st : List Value} {dflt lo hi off : Int} {offs : Array Int} {len tgt : Nat} {a : Int32} (hC : Ok C x cc nL rm rt own res) (hdg : decode cc pc = .ok (.tableswitch dflt lo hi offs, len)) (h1 : ¬ a.toInt < lo) (h2 : ¬ hi < a.toInt) (ho : offs[(a.toInt - lo).toNat]? = some off) (ht : (pc : Int) + off = (tgt : Int)) (kk : J C ce sl M tgt lv st) : J C ce sl M pc lv (.int a :: st) := by
  obtain ⟨p, l, e, R, s, m, args, below, meth, c, H0, A, Q, nL0, G, ad0, n0⟩ := C
  obtain ⟨hx, hb, hml, hnl, hown, hts, hKK, hH0, hA, hlk, hrt, hR, hQ, hxt⟩ := hC
  intro ad H locs ls hW hAa hag hn hvl hvs hS hl
  exact lv_tableIn hx hb hdg h1 h2 ho ht (kk ad H locs ls hW hAa hag hn hvl (vs_t hvs) hS hl)
theorem J_tableOut {C : JC} {x : Bool} {cc : ByteArray} {nL : Nat} {rm : Room} {rt : Option FieldType} {own : String} {res : Res} {ce sl : Nat} {M : Mem} {pc : Nat} {lv : List (Nat × Value)} {st : List Value} {dflt lo hi : Int} {offs : Array Int} {len tgt : Nat} {a : Int32} (hC : Ok C x cc nL rm rt own res) (hdg : decode cc pc = .ok (.tableswitch dflt lo hi offs, len)) (h : a.toInt < lo ∨ hi < a.toInt) (ht : (pc : Int) + dflt = (tgt : Int)) (kk : J C ce sl M tgt lv st) : J C ce sl M pc lv (.int a :: st) := by
  obtain ⟨p, l, e, R, s, m, args, below, meth, c, H0, A, Q, nL0, G, ad0, n0⟩ := C
  obtain ⟨hx, hb, hml, hnl, hown, hts, hKK, hH0, hA, hlk, hrt, hR, hQ, hxt⟩ := hC
  intro ad H locs ls hW hAa hag hn hvl hvs hS hl
  exact lv_tableOut hx hb hdg h ht (kk ad H locs ls hW hAa hag hn hvl (vs_t hvs) hS hl)
theorem J_iret {C : JC} {x : Bool} {cc : ByteArray} {nL : Nat} {rm : Room} {own : String} {res : Res} {ce sl : Nat} {M : Mem} {pc : Nat} {lv : List (Nat × Value)} {v : Int32} (hC : Ok C x cc nL rm (some .int) own res) (hdg : decode cc pc = .ok (.ireturn, 1)) (h : (M, Sum.inr (some (Value.int v))) = res) (h1 : ce ≤ rm.cells) (h2 : sl ≤ rm.slots) : J C ce sl M pc lv [.int v] := by
  obtain ⟨p, l, e, R, s, m, args, below, meth, c, H0, A, Q, nL0, G, ad0, n0⟩ := C
  obtain ⟨hx, hb, hml, hnl, hown, hts, hKK, hH0, hA, hlk, hrt, hR, hQ, hxt⟩ := hC
  intro ad H locs ls hW hAa hag hn hvl hvs hS hl
  subst h
  refine W.widen h1 h2 ?_
  have key : ∀ t : State, t.heap = H → s.WarmedH t.vm → Qret G ad0 n0 A (M, Sum.inr (some (Value.int v))) args s (.returned (some (.int v))) t := fun t ht hWm => ⟨⟨ad, _, rfl, rfl, hag, hn, by rw [ht]; exact hW, hAa, fun w hw => by cases hw; exact Vok_int⟩, (hH0 ▸ hS).F ht⟩
  have k2 : W p l e R s m args below meth c H locs rm.cells rm.slots (MQ below (Qret G ad0 n0 A (M, Sum.inr (some (Value.int v)))) args s rm.cells rm.slots A) (F0 m pc ls [.int v]) := W.iret hx hb hrt key hS.2.2 hdg hlk
  subst hQ
  cases x with
  | false => exact k2
  | true => exact vx_ret k2
theorem J_lret {C : JC} {x : Bool} {cc : ByteArray} {nL : Nat} {rm : Room} {own : String} {res : Res} {ce sl : Nat} {M : Mem} {pc : Nat} {lv : List (Nat × Value)} {v : Int64} (hC : Ok C x cc nL rm (some .long) own res) (hdg : decode cc pc = .ok (.lreturn, 1)) (h : (M, Sum.inr (some (Value.long v))) = res) (h1 : ce ≤ rm.cells) (h2 : sl ≤ rm.slots) : J C ce sl M pc lv [.long v] := by
  obtain ⟨p, l, e, R, s, m, args, below, meth, c, H0, A, Q, nL0, G, ad0, n0⟩ := C
  obtain ⟨hx, hb, hml, hnl, hown, hts, hKK, hH0, hA, hlk, hrt, hR, hQ, hxt⟩ := hC
  intro ad H locs ls hW hAa hag hn hvl hvs hS hl
  subst h
  refine W.widen h1 h2 ?_
  have key : ∀ t : State, t.heap = H → s.WarmedH t.vm → Qret G ad0 n0 A (M, Sum.inr (some (Value.long v))) args s (.returned (some (.long v))) t := fun t ht hWm => ⟨⟨ad, _, rfl, rfl, hag, hn, by rw [ht]; exact hW, hAa, fun w hw => by cases hw; exact Vok_long⟩, (hH0 ▸ hS).F ht⟩
  have k2 : W p l e R s m args below meth c H locs rm.cells rm.slots (MQ below (Qret G ad0 n0 A (M, Sum.inr (some (Value.long v)))) args s rm.cells rm.slots A) (F0 m pc ls [.long v]) := W.lret hx hb hrt key hS.2.2 hdg hlk
  subst hQ
  cases x with
  | false => exact k2
  | true => exact vx_ret k2
theorem J_dret {C : JC} {x : Bool} {cc : ByteArray} {nL : Nat} {rm : Room} {own : String} {res : Res} {ce sl : Nat} {M : Mem} {pc : Nat} {lv : List (Nat × Value)} {v : UInt64} (hC : Ok C x cc nL rm (some .double) own res) (hdg : decode cc pc = .ok (.dreturn, 1)) (h : (M, Sum.inr (some (Value.double v))) = res) (h1 : ce ≤ rm.cells) (h2 : sl ≤ rm.slots) : J C ce sl M pc lv [.double v] := by
  obtain ⟨p, l, e, R, s, m, args, below, meth, c, H0, A, Q, nL0, G, ad0, n0⟩ := C
  obtain ⟨hx, hb, hml, hnl, hown, hts, hKK, hH0, hA, hlk, hrt, hR, hQ, hxt⟩ := hC
  intro ad H locs ls hW hAa hag hn hvl hvs hS hl
  subst h
  refine W.widen h1 h2 ?_
  have key : ∀ t : State, t.heap = H → s.WarmedH t.vm → Qret G ad0 n0 A (M, Sum.inr (some (Value.double v))) args s (.returned (some (.double v))) t := fun t ht hWm => ⟨⟨ad, _, rfl, rfl, hag, hn, by rw [ht]; exact hW, hAa, fun w hw => by cases hw; exact Vok_double⟩, (hH0 ▸ hS).F ht⟩
  have k2 : W p l e R s m args below meth c H locs rm.cells rm.slots (MQ below (Qret G ad0 n0 A (M, Sum.inr (some (Value.double v)))) args s rm.cells rm.slots A) (F0 m pc ls [.double v]) := W.dret hx hb hrt key hS.2.2 hdg hlk
  subst hQ
  cases x with
  | false => exact k2
  | true => exact vx_ret k2
theorem J_zret {C : JC} {x : Bool} {cc : ByteArray} {nL : Nat} {rm : Room} {own : String} {res : Res} {ce sl : Nat} {M : Mem} {pc : Nat} {lv : List (Nat × Value)} {v : Int32} (hC : Ok C x cc nL rm (some .boolean) own res) (hdg : decode cc pc = .ok (.ireturn, 1)) (hz : narrow .boolean (.int v) = .int v) (h : (M, Sum.inr (some (Value.int v))) = res) (h1 : ce ≤ rm.cells) (h2 : sl ≤ rm.slots) : J C ce sl M pc lv [.int v] := by
  obtain ⟨p, l, e, R, s, m, args, below, meth, c, H0, A, Q, nL0, G, ad0, n0⟩ := C
  obtain ⟨hx, hb, hml, hnl, hown, hts, hKK, hH0, hA, hlk, hrt, hR, hQ, hxt⟩ := hC
  intro ad H locs ls hW hAa hag hn hvl hvs hS hl
  subst h
  refine W.widen h1 h2 ?_
  have key : ∀ t : State, t.heap = H → s.WarmedH t.vm → Qret G ad0 n0 A (M, Sum.inr (some (Value.int v))) args s (.returned (some (.int v))) t := fun t ht hWm => ⟨⟨ad, _, rfl, rfl, hag, hn, by rw [ht]; exact hW, hAa, fun w hw => by cases hw; exact Vok_int⟩, (hH0 ▸ hS).F ht⟩
  have k2 : W p l e R s m args below meth c H locs rm.cells rm.slots (MQ below (Qret G ad0 n0 A (M, Sum.inr (some (Value.int v)))) args s rm.cells rm.slots A) (F0 m pc ls [.int v]) := W.zret hx hb hrt hz key hS.2.2 hdg hlk
  subst hQ
  cases x with
  | false => exact k2
  | true => exact vx_ret k2
theorem J_vret {C : JC} {x : Bool} {cc : ByteArray} {nL : Nat} {rm : Room} {own : String} {res : Res} {ce sl : Nat} {M : Mem} {pc : Nat} {lv : List (Nat × Value)} (hC : Ok C x cc nL rm none own res) (hdg : decode cc pc = .ok (.return_, 1)) (h : (M, Sum.inr none) = res) (h1 : ce ≤ rm.cells) (h2 : sl ≤ rm.slots) : J C ce sl M pc lv [] := by
  obtain ⟨p, l, e, R, s, m, args, below, meth, c, H0, A, Q, nL0, G, ad0, n0⟩ := C
  obtain ⟨hx, hb, hml, hnl, hown, hts, hKK, hH0, hA, hlk, hrt, hR, hQ, hxt⟩ := hC
  intro ad H locs ls hW hAa hag hn hvl hvs hS hl
  subst h
  refine W.widen h1 h2 ?_
  have key : ∀ t : State, t.heap = H → s.WarmedH t.vm → Qret G ad0 n0 A (M, Sum.inr none) args s (.returned none) t := fun t ht hWm => ⟨⟨ad, none, rfl, rfl, hag, hn, by rw [ht]; exact hW, hAa, fun w hw => by cases hw⟩, (hH0 ▸ hS).F ht⟩
  have k2 : W p l e R s m args below meth c H locs rm.cells rm.slots (MQ below (Qret G ad0 n0 A (M, Sum.inr none)) args s rm.cells rm.slots A) (F0 m pc ls []) := W.vret hx hb hrt key hS.2.2 hdg hlk
  subst hQ
  cases x with
  | false => exact k2
  | true => exact vx_ret k2
end
section
/-! ===== pure reads and writes ===== -/
def gI (ci k : Nat) (M : Mem) (a : Option Nat) : Option Int32 := a.bind fun i => if i < M.1 ∧ kd i = ci then some (mI M i k) else none
def gJ (ci k : Nat) (M : Mem) (a : Option Nat) : Option Int64 := a.bind fun i => if i < M.1 ∧ kd i = ci then some (mJ M i k) else none
def gR (ci k : Nat) (M : Mem) (a : Option Nat) : Option (Option Nat) := a.bind fun i => if i < M.1 ∧ kd i = ci then some (mR M i k) else none
def pI (ci k : Nat) (M : Mem) (a : Option Nat) (v : Int32) : Option Mem := a.bind fun i => if i < M.1 ∧ kd i = ci then some (sI M i k v) else none
def pJ (ci k : Nat) (M : Mem) (a : Option Nat) (v : Int64) : Option Mem := a.bind fun i => if i < M.1 ∧ kd i = ci then some (sJ M i k v) else none
def pR (ci k : Nat) (M : Mem) (a : Option Nat) (v : Option Nat) : Option Mem := a.bind fun i => if i < M.1 ∧ kd i = ci then some (sR M i k v) else none
def inR (x : Int32) (n : Nat) : Prop := ¬ x < 0 ∧ x.toNatClampNeg < n
def inRb (x : Int32) (n : Nat) : Bool := decide (¬ x < 0) && decide (x.toNatClampNeg < n)
theorem inRb_vp {x : Int32} {n : Nat} (h : inRb x n = true) : vp_in x n := by
  simp only [inRb, Bool.and_eq_true, decide_eq_true_eq] at h
  exact fun q => q.elim h.1 (fun r => absurd h.2 (Nat.not_lt.mpr r))
def aI (M : Mem) (a : Option Nat) (x : Int32) : Option Int32 := a.bind fun i => if i < M.1 ∧ kd i = 4 ∧ inRb x (ln i) = true then some (mI M i x.toNatClampNeg) else none
def aJ (M : Mem) (a : Option Nat) (x : Int32) : Option Int64 := a.bind fun i => if i < M.1 ∧ kd i = 5 ∧ inRb x (ln i) = true then some (mJ M i x.toNatClampNeg) else none
def aZ (M : Mem) (a : Option Nat) (x : Int32) : Option Int32 := a.bind fun i => if i < M.1 ∧ kd i = 6 ∧ inRb x (ln i) = true then some (mI M i x.toNatClampNeg) else none
def aD (M : Mem) (a : Option Nat) (x : Int32) : Option UInt64 := a.bind fun i => if i < M.1 ∧ kd i = 10 ∧ inRb x (ln i) = true then some (mD M i x.toNatClampNeg) else none
def aR (kk : Nat) (M : Mem) (a : Option Nat) (x : Int32) : Option (Option Nat) := a.bind fun i => if i < M.1 ∧ kd i = kk ∧ inRb x (ln i) = true then some (mR M i x.toNatClampNeg) else none
def wI (M : Mem) (a : Option Nat) (x : Int32) (v : Int32) : Option Mem := a.bind fun i => if i < M.1 ∧ kd i = 4 ∧ inRb x (ln i) = true then some (sI M i x.toNatClampNeg v) else none
def wJ (M : Mem) (a : Option Nat) (x : Int32) (v : Int64) : Option Mem := a.bind fun i => if i < M.1 ∧ kd i = 5 ∧ inRb x (ln i) = true then some (sJ M i x.toNatClampNeg v) else none
def wZ (M : Mem) (a : Option Nat) (x : Int32) (v : Int32) : Option Mem := a.bind fun i => if i < M.1 ∧ kd i = 6 ∧ inRb x (ln i) = true ∧ v = 1 then some (sI M i x.toNatClampNeg v) else none
def wD (M : Mem) (a : Option Nat) (x : Int32) (v : UInt64) : Option Mem := a.bind fun i => if i < M.1 ∧ kd i = 10 ∧ inRb x (ln i) = true then some (sD M i x.toNatClampNeg v) else none
def wR (kk kv : Nat) (M : Mem) (a : Option Nat) (x : Int32) (v : Option Nat) : Option Mem := a.bind fun i => v.bind fun j => if i < M.1 ∧ kd i = kk ∧ inRb x (ln i) = true ∧ j < M.1 ∧ kd j = kv then some (sR M i x.toNatClampNeg (some j)) else none
def aL (M : Mem) (a : Option Nat) : Option Int32 := a.bind fun i => if i < M.1 ∧ 4 ≤ kd i ∧ kd i ≤ 10 then some (Int32.ofNat (ln i)) else none
def sRow (M : Mem) (a : Nat) (f : Nat → Int32) : Mem := (M.1, (fun b j => if b = a then f j else mI M b j), mJ M, mR M, mD M)
def cpI (M : Mem) (a : Option Nat) (sp : Int32) (b : Option Nat) (dp n : Int32) : Option Mem := a.bind fun i => b.bind fun j =>
  if (i < M.1 ∧ kd i = 4 ∧ j < M.1 ∧ kd j = 4) ∧ (¬ sp < 0 ∧ ¬ dp < 0 ∧ ¬ n < 0) ∧ sp.toNatClampNeg + n.toNatClampNeg ≤ ln i ∧ dp.toNatClampNeg + n.toNatClampNeg ≤ ln j then some (sRow M j (va_cpy (mI M i) (mI M j) sp.toNatClampNeg dp.toNatClampNeg n.toNatClampNeg)) else none
theorem bnd {α β : Type} {o : Option α} {f : α → Option β} {r : β} (h : o.bind f = some r) : ∃ v, o = some v ∧ f v = some r := Option.bind_eq_some_iff.mp h
theorem pool_D {G : Geo} {ad : Nat → Nat} {M : Mem} {H : Heap} {A : Nat → Prop} (h : Wd G ad M H) (hA : ∀ i, i < M.1 → A (ad i)) : va_D A (pool G ad M) := by
  have key : ∀ (k : Nat) (q : Nat × va_E), (pool G ad M)[k]? = some q → k < M.1 ∧ q.1 = ad k := by
    intro k q hq
    by_cases hk : k < M.1
    · rw [pool_at hk] at hq
      cases hq
      exact ⟨hk, rfl⟩
    · simp [pool, hk] at hq
  refine ⟨fun i j x y hi hj e => ?_, fun k q hk => ?_⟩
  · obtain ⟨i1, i2⟩ := key i x hi
    obtain ⟨j1, j2⟩ := key j y hj
    exact h.2.1 i j i1 j1 (by rw [← i2, ← j2]; exact e)
  · obtain ⟨k1, k2⟩ := key k q hk
    rw [k2]
    exact hA k k1
theorem ent_sRow_ne {G : Geo} {ad : Nat → Nat} {M : Mem} {a : Nat} {f : Nat → Int32} {j : Nat} (h : j ≠ a) : ent G ad (sRow M a f) j = ent G ad M j := by
  have e2 : mI (sRow M a f) j = mI M j := funext fun q => by show (if j = a then _ else _) = _; rw [if_neg h]
  simp only [ent, e2, show mR (sRow M a f) = mR M from rfl, show mJ (sRow M a f) = mJ M from rfl, show mD (sRow M a f) = mD M from rfl]
theorem wf_sR {M : Mem} {i k : Nat} {v : Option Nat} (h : wfM M) (hv : Vok M.1 (rf v)) : wfM (sR M i k v) := fun a q j ha e => by
  have e : up2 (mR M) i k v a q = some j := e
  unfold up2 at e
  split at e
  · subst e; exact hv j rfl
  · exact h a q j ha e
theorem up2_self {α : Type} (f : Nat → Nat → α) (a k : Nat) (v : α) (j : Nat) : up2 f a k v a j = if j = k then v else f a j := by simp [up2]
def isInit (C : JC) : Prop := match C with
  | (p, l, e, R, s, m, args, below, meth, c, H0, A, Q, nL0, G, ad0, n0) => meth.name = "<init>"
theorem w_acn : Cond.native arraycopyName ∈ BIG := by decide +kernel
theorem w_acs : Cond.static arraycopyName ∈ BIG := by decide +kernel
theorem w_aci : Cond.initialized "java/lang/System" ∈ BIG := by decide +kernel
theorem inB0 : ∀ w ∈ wsX00, w ∈ BIG := by decide +kernel
theorem inB1 : ∀ w ∈ wsX10, w ∈ BIG := by decide +kernel
theorem inB2 : ∀ w ∈ wsX20, w ∈ BIG := by decide +kernel
theorem inB3 : ∀ w ∈ wsX30, w ∈ BIG := by decide +kernel
theorem ent_0 {G : Geo} {ad : Nat → Nat} {M : Mem} {i : Nat} (h : kd i = 0) : ent G ad M i = .inr (0, [re ad (mR M i 0), re ad (mR M i 1), re ad (mR M i 2), .int (mI M i 3), .int (mI M i 4), .int (mI M i 5)]) := by simp [ent, h]
theorem ent_1 {G : Geo} {ad : Nat → Nat} {M : Mem} {i : Nat} (h : kd i = 1) : ent G ad M i = .inr (1, [re ad (mR M i 0), re ad (mR M i 1), .int (mI M i 2), .int (mI M i 3), .int (mI M i 4)]) := by simp [ent, h]
theorem ent_2 {G : Geo} {ad : Nat → Nat} {M : Mem} {i : Nat} (h : kd i = 2) : ent G ad M i = .inr (2, [re ad (mR M i 0), re ad (mR M i 1), .int (mI M i 2), re ad (mR M i 3), re ad (mR M i 4), re ad (mR M i 5), .int (mI M i 6), re ad (mR M i 7), re ad (mR M i 8)]) := by simp [ent, h]
theorem ent_3 {G : Geo} {ad : Nat → Nat} {M : Mem} {i : Nat} (h : kd i = 3) : ent G ad M i = .inr (3, [.int (mI M i 0), re ad (mR M i 1), re ad (mR M i 2), .int (mI M i 3), re ad (mR M i 4), re ad (mR M i 5), re ad (mR M i 6), .int (mI M i 7), re ad (mR M i 8), re ad (mR M i 9), .int (mI M i 10), re ad (mR M i 11), .long (mJ M i 12)]) := by simp [ent, h]
theorem ent_4 {G : Geo} {ad : Nat → Nat} {M : Mem} {i : Nat} (h : kd i = 4) : ent G ad M i = .inl (G.2 0, ln i, .inl (mI M i)) := by simp [ent, h]
theorem ent_5 {G : Geo} {ad : Nat → Nat} {M : Mem} {i : Nat} (h : kd i = 5) : ent G ad M i = .inl (G.2 1, ln i, .inr (.inl (mJ M i))) := by simp [ent, h]
theorem ent_6 {G : Geo} {ad : Nat → Nat} {M : Mem} {i : Nat} (h : kd i = 6) : ent G ad M i = .inl (G.2 2, ln i, .inl (mI M i)) := by simp [ent, h]
theorem ent_7 {G : Geo} {ad : Nat → Nat} {M : Mem} {i : Nat} (h : kd i = 7) : ent G ad M i = .inl (G.2 3, ln i, .inr (.inr (.inr (.inr (fun k => (mR M i k).map ad))))) := by simp [ent, h]
theorem ent_8 {G : Geo} {ad : Nat → Nat} {M : Mem} {i : Nat} (h : kd i = 8) : ent G ad M i = .inl (G.2 4, ln i, .inr (.inr (.inr (.inr (fun k => (mR M i k).map ad))))) := by simp [ent, h]
theorem ent_9 {G : Geo} {ad : Nat → Nat} {M : Mem} {i : Nat} (h : kd i = 9) : ent G ad M i = .inl (G.2 5, ln i, .inr (.inr (.inr (.inr (fun k => (mR M i k).map ad))))) := by simp [ent, h]
theorem ent_10 {G : Geo} {ad : Nat → Nat} {M : Mem} {i : Nat} (h : kd i = 10) : ent G ad M i = .inl (G.2 6, ln i, .inr (.inr (.inr (.inl (mD M i))))) := by simp [ent, h]
theorem J_g0_0 {C : JC} {x : Bool} {cc : ByteArray} {nL : Nat} {rm : Room} {rt : Option FieldType} {own : String} {res : Res} {ce sl : Nat} {M : Mem} {pc : Nat} {lv : List (Nat × Value)} {st : List Value} {β : Type} {r0 : β} {f : Option Nat → Option β} {index : Nat} {a : Option Nat} (hC : Ok C x cc nL rm rt own res) (hw : Cond.fieldLink own index RX0 (TX0 0).2.1 (TX0 0).2.2.1 ∈ BIG) (hdg : decode cc pc = .ok (.getfield index, 3)) (h : (gR 0 0 M a).bind f = some r0)
    (kk : ∀ v, gR 0 0 M a = some v → f v = some r0 → J C ce sl M (pc + 3) lv (rf v :: st)) : J C ce sl M pc lv (rf a :: st) := by
  obtain ⟨v, hv, hf⟩ := bnd h
  have kk := kk v hv hf
  obtain ⟨i, rfl, hv2⟩ := bnd hv
  split at hv2
  case isFalse => cases hv2
  case isTrue hi =>
  cases hv2
  obtain ⟨p, l, e, R, s, m, args, below, meth, c, H0, A, Q, nL0, G, ad0, n0⟩ := C
  obtain ⟨hx, hb, hml, hnl, hown, hts, hKK, hH0, hA, hlk, hrt, hR, hQ, hxt⟩ := hC
  intro ad H locs ls hW hAa hag hn hvl hvs hS hl
  have he := pool_at (G := G) (ad := ad) hi.1
  rw [ent_0 hi.2] at he
  have k2 := kk ad H locs ls hW hAa hag hn hvl (vs_c (Vok_rf (fun j e => hW.2.2 _ _ j hi.1 e)) (vs_t hvs)) hS hl
  rw [List.map_cons, phys_rf] at k2
  exact va_get (D := G.1) (ci := 0) (C := RX0) (T := TX0) (N := 6) hx hb hts inB0 hown hKK.1.1 hW.1 i he rfl 0 (by decide) (hts _ hw) (fun _ h9 => h9) rfl hdg k2
theorem J_p0_0 {C : JC} {x : Bool} {cc : ByteArray} {nL : Nat} {rm : Room} {rt : Option FieldType} {own : String} {res : Res} {ce sl : Nat} {M : Mem} {pc : Nat} {lv : List (Nat × Value)} {st : List Value} {β : Type} {r0 : β} {f : Mem → Option β} {index : Nat} {a : Option Nat} {v : Option Nat} (hC : Ok C x cc nL rm rt own res) (hin : isInit C) (hdc : (TX0 0).1 = own) (hw : Cond.fieldLink own index RX0 (TX0 0).2.1 (TX0 0).2.2.1 ∈ BIG) (hdg : decode cc pc = .ok (.putfield index, 3)) (h : (pR 0 0 M a v).bind f = some r0)
    (kk : ∀ M', pR 0 0 M a v = some M' → f M' = some r0 → J C ce sl M' (pc + 3) lv st) : J C ce sl M pc lv (rf v :: rf a :: st) := by
  obtain ⟨M', hv, hf⟩ := bnd h
  have kk := kk M' hv hf
  obtain ⟨i, rfl, hv2⟩ := bnd hv
  split at hv2
  case isFalse => cases hv2
  case isTrue hi =>
  cases hv2
  obtain ⟨p, l, e, R, s, m, args, below, meth, c, H0, A, Q, nL0, G, ad0, n0⟩ := C
  obtain ⟨hx, hb, hml, hnl, hown, hts, hKK, hH0, hA, hlk, hrt, hR, hQ, hxt⟩ := hC
  intro ad H locs ls hW hAa hag hn hvl hvs hS hl
  have he := pool_at (G := G) (ad := ad) hi.1
  rw [ent_0 hi.2] at he
  have hD := pool_D hW hAa
  have e2 : (pool G ad M).set i (ad i, .inr (0, [re ad v, re ad (mR M i 1), re ad (mR M i 2), .int (mI M i 3), .int (mI M i 4), .int (mI M i 5)])) = pool G ad (sR M i 0 v) := pool_set rfl hi.1 (by rw [ent_0 hi.2]; simp [sR, mI, mJ, mR, up2]) (fun j hj => ent_sR_ne hj)
  have e3 : phys ad (rf v) = re ad v := phys_rf ad v
  rw [List.map_cons, e3]
  skip
  exact va_putF (D := G.1) (ci := 0) (C := RX0) (T := TX0) (N := 6) (ty := tyX0 0) (v := re ad v) hx hb hts inB0 tyX0 tyX0_ok nmX0 hown hKK.1.1 hW.1 hD hS i he rfl 0 (by decide) (hts _ hw) (fun _ h9 => h9) rfl hin hdc (by decide +kernel) (by cases v <;> rfl) (by cases v <;> rfl) (Nat.le_of_ble_eq_true rfl) hdg (fun H1 locs1 hP1 hD1 hS1 => kk ad H1 locs1 ls ⟨by rw [← e2]; exact hP1, hW.2.1, wf_sR hW.2.2 (vs_h hvs)⟩ hAa hag hn hvl (vs_t (vs_t hvs)) hS1 hl)
theorem J_g0_1 {C : JC} {x : Bool} {cc : ByteArray} {nL : Nat} {rm : Room} {rt : Option FieldType} {own : String} {res : Res} {ce sl : Nat} {M : Mem} {pc : Nat} {lv : List (Nat × Value)} {st : List Value} {β : Type} {r0 : β} {f : Option Nat → Option β} {index : Nat} {a : Option Nat} (hC : Ok C x cc nL rm rt own res) (hw : Cond.fieldLink own index RX0 (TX0 1).2.1 (TX0 1).2.2.1 ∈ BIG) (hdg : decode cc pc = .ok (.getfield index, 3)) (h : (gR 0 1 M a).bind f = some r0)
    (kk : ∀ v, gR 0 1 M a = some v → f v = some r0 → J C ce sl M (pc + 3) lv (rf v :: st)) : J C ce sl M pc lv (rf a :: st) := by
  obtain ⟨v, hv, hf⟩ := bnd h
  have kk := kk v hv hf
  obtain ⟨i, rfl, hv2⟩ := bnd hv
  split at hv2
  case isFalse => cases hv2
  case isTrue hi =>
  cases hv2
  obtain ⟨p, l, e, R, s, m, args, below, meth, c, H0, A, Q, nL0, G, ad0, n0⟩ := C
  obtain ⟨hx, hb, hml, hnl, hown, hts, hKK, hH0, hA, hlk, hrt, hR, hQ, hxt⟩ := hC
  intro ad H locs ls hW hAa hag hn hvl hvs hS hl
  have he := pool_at (G := G) (ad := ad) hi.1
  rw [ent_0 hi.2] at he
  have k2 := kk ad H locs ls hW hAa hag hn hvl (vs_c (Vok_rf (fun j e => hW.2.2 _ _ j hi.1 e)) (vs_t hvs)) hS hl
  rw [List.map_cons, phys_rf] at k2
  exact va_get (D := G.1) (ci := 0) (C := RX0) (T := TX0) (N := 6) hx hb hts inB0 hown hKK.1.1 hW.1 i he rfl 1 (by decide) (hts _ hw) (fun _ h9 => h9) rfl hdg k2
theorem J_p0_1 {C : JC} {x : Bool} {cc : ByteArray} {nL : Nat} {rm : Room} {rt : Option FieldType} {own : String} {res : Res} {ce sl : Nat} {M : Mem} {pc : Nat} {lv : List (Nat × Value)} {st : List Value} {β : Type} {r0 : β} {f : Mem → Option β} {index : Nat} {a : Option Nat} {v : Option Nat} (hC : Ok C x cc nL rm rt own res) (hin : isInit C) (hdc : (TX0 1).1 = own) (hw : Cond.fieldLink own index RX0 (TX0 1).2.1 (TX0 1).2.2.1 ∈ BIG) (hdg : decode cc pc = .ok (.putfield index, 3)) (h : (pR 0 1 M a v).bind f = some r0)
    (kk : ∀ M', pR 0 1 M a v = some M' → f M' = some r0 → J C ce sl M' (pc + 3) lv st) : J C ce sl M pc lv (rf v :: rf a :: st) := by
  obtain ⟨M', hv, hf⟩ := bnd h
  have kk := kk M' hv hf
  obtain ⟨i, rfl, hv2⟩ := bnd hv
  split at hv2
  case isFalse => cases hv2
  case isTrue hi =>
  cases hv2
  obtain ⟨p, l, e, R, s, m, args, below, meth, c, H0, A, Q, nL0, G, ad0, n0⟩ := C
  obtain ⟨hx, hb, hml, hnl, hown, hts, hKK, hH0, hA, hlk, hrt, hR, hQ, hxt⟩ := hC
  intro ad H locs ls hW hAa hag hn hvl hvs hS hl
  have he := pool_at (G := G) (ad := ad) hi.1
  rw [ent_0 hi.2] at he
  have hD := pool_D hW hAa
  have e2 : (pool G ad M).set i (ad i, .inr (0, [re ad (mR M i 0), re ad v, re ad (mR M i 2), .int (mI M i 3), .int (mI M i 4), .int (mI M i 5)])) = pool G ad (sR M i 1 v) := pool_set rfl hi.1 (by rw [ent_0 hi.2]; simp [sR, mI, mJ, mR, up2]) (fun j hj => ent_sR_ne hj)
  have e3 : phys ad (rf v) = re ad v := phys_rf ad v
  rw [List.map_cons, e3]
  skip
  exact va_putF (D := G.1) (ci := 0) (C := RX0) (T := TX0) (N := 6) (ty := tyX0 1) (v := re ad v) hx hb hts inB0 tyX0 tyX0_ok nmX0 hown hKK.1.1 hW.1 hD hS i he rfl 1 (by decide) (hts _ hw) (fun _ h9 => h9) rfl hin hdc (by decide +kernel) (by cases v <;> rfl) (by cases v <;> rfl) (Nat.le_of_ble_eq_true rfl) hdg (fun H1 locs1 hP1 hD1 hS1 => kk ad H1 locs1 ls ⟨by rw [← e2]; exact hP1, hW.2.1, wf_sR hW.2.2 (vs_h hvs)⟩ hAa hag hn hvl (vs_t (vs_t hvs)) hS1 hl)
theorem J_g0_2 {C : JC} {x : Bool} {cc : ByteArray} {nL : Nat} {rm : Room} {rt : Option FieldType} {own : String} {res : Res} {ce sl : Nat} {M : Mem} {pc : Nat} {lv : List (Nat × Value)} {st : List Value} {β : Type} {r0 : β} {f : Option Nat → Option β} {index : Nat} {a : Option Nat} (hC : Ok C x cc nL rm rt own res) (hw : Cond.fieldLink own index RX0 (TX0 2).2.1 (TX0 2).2.2.1 ∈ BIG) (hdg : decode cc pc = .ok (.getfield index, 3)) (h : (gR 0 2 M a).bind f = some r0)
    (kk : ∀ v, gR 0 2 M a = some v → f v = some r0 → J C ce sl M (pc + 3) lv (rf v :: st)) : J C ce sl M pc lv (rf a :: st) := by
  obtain ⟨v, hv, hf⟩ := bnd h
  have kk := kk v hv hf
  obtain ⟨i, rfl, hv2⟩ := bnd hv
  split at hv2
  case isFalse => cases hv2
  case isTrue hi =>
  cases hv2
  obtain ⟨p, l, e, R, s, m, args, below, meth, c, H0, A, Q, nL0, G, ad0, n0⟩ := C
  obtain ⟨hx, hb, hml, hnl, hown, hts, hKK, hH0, hA, hlk, hrt, hR, hQ, hxt⟩ := hC
  intro ad H locs ls hW hAa hag hn hvl hvs hS hl
  have he := pool_at (G := G) (ad := ad) hi.1
  rw [ent_0 hi.2] at he
  have k2 := kk ad H locs ls hW hAa hag hn hvl (vs_c (Vok_rf (fun j e => hW.2.2 _ _ j hi.1 e)) (vs_t hvs)) hS hl
  rw [List.map_cons, phys_rf] at k2
  exact va_get (D := G.1) (ci := 0) (C := RX0) (T := TX0) (N := 6) hx hb hts inB0 hown hKK.1.1 hW.1 i he rfl 2 (by decide) (hts _ hw) (fun _ h9 => h9) rfl hdg k2
theorem J_p0_2 {C : JC} {x : Bool} {cc : ByteArray} {nL : Nat} {rm : Room} {rt : Option FieldType} {own : String} {res : Res} {ce sl : Nat} {M : Mem} {pc : Nat} {lv : List (Nat × Value)} {st : List Value} {β : Type} {r0 : β} {f : Mem → Option β} {index : Nat} {a : Option Nat} {v : Option Nat} (hC : Ok C x cc nL rm rt own res) (hin : isInit C) (hdc : (TX0 2).1 = own) (hw : Cond.fieldLink own index RX0 (TX0 2).2.1 (TX0 2).2.2.1 ∈ BIG) (hdg : decode cc pc = .ok (.putfield index, 3)) (h : (pR 0 2 M a v).bind f = some r0)
    (kk : ∀ M', pR 0 2 M a v = some M' → f M' = some r0 → J C ce sl M' (pc + 3) lv st) : J C ce sl M pc lv (rf v :: rf a :: st) := by
  obtain ⟨M', hv, hf⟩ := bnd h
  have kk := kk M' hv hf
  obtain ⟨i, rfl, hv2⟩ := bnd hv
  split at hv2
  case isFalse => cases hv2
  case isTrue hi =>
  cases hv2
  obtain ⟨p, l, e, R, s, m, args, below, meth, c, H0, A, Q, nL0, G, ad0, n0⟩ := C
  obtain ⟨hx, hb, hml, hnl, hown, hts, hKK, hH0, hA, hlk, hrt, hR, hQ, hxt⟩ := hC
  intro ad H locs ls hW hAa hag hn hvl hvs hS hl
  have he := pool_at (G := G) (ad := ad) hi.1
  rw [ent_0 hi.2] at he
  have hD := pool_D hW hAa
  have e2 : (pool G ad M).set i (ad i, .inr (0, [re ad (mR M i 0), re ad (mR M i 1), re ad v, .int (mI M i 3), .int (mI M i 4), .int (mI M i 5)])) = pool G ad (sR M i 2 v) := pool_set rfl hi.1 (by rw [ent_0 hi.2]; simp [sR, mI, mJ, mR, up2]) (fun j hj => ent_sR_ne hj)
  have e3 : phys ad (rf v) = re ad v := phys_rf ad v
  rw [List.map_cons, e3]
  skip
  exact va_putF (D := G.1) (ci := 0) (C := RX0) (T := TX0) (N := 6) (ty := tyX0 2) (v := re ad v) hx hb hts inB0 tyX0 tyX0_ok nmX0 hown hKK.1.1 hW.1 hD hS i he rfl 2 (by decide) (hts _ hw) (fun _ h9 => h9) rfl hin hdc (by decide +kernel) (by cases v <;> rfl) (by cases v <;> rfl) (Nat.le_of_ble_eq_true rfl) hdg (fun H1 locs1 hP1 hD1 hS1 => kk ad H1 locs1 ls ⟨by rw [← e2]; exact hP1, hW.2.1, wf_sR hW.2.2 (vs_h hvs)⟩ hAa hag hn hvl (vs_t (vs_t hvs)) hS1 hl)
theorem J_g0_3 {C : JC} {x : Bool} {cc : ByteArray} {nL : Nat} {rm : Room} {rt : Option FieldType} {own : String} {res : Res} {ce sl : Nat} {M : Mem} {pc : Nat} {lv : List (Nat × Value)} {st : List Value} {β : Type} {r0 : β} {f : Int32 → Option β} {index : Nat} {a : Option Nat} (hC : Ok C x cc nL rm rt own res) (hw : Cond.fieldLink own index RX0 (TX0 3).2.1 (TX0 3).2.2.1 ∈ BIG) (hdg : decode cc pc = .ok (.getfield index, 3)) (h : (gI 0 3 M a).bind f = some r0)
    (kk : ∀ v, gI 0 3 M a = some v → f v = some r0 → J C ce sl M (pc + 3) lv (.int v :: st)) : J C ce sl M pc lv (rf a :: st) := by
  obtain ⟨v, hv, hf⟩ := bnd h
  have kk := kk v hv hf
  obtain ⟨i, rfl, hv2⟩ := bnd hv
  split at hv2
  case isFalse => cases hv2
  case isTrue hi =>
  cases hv2
  obtain ⟨p, l, e, R, s, m, args, below, meth, c, H0, A, Q, nL0, G, ad0, n0⟩ := C
  obtain ⟨hx, hb, hml, hnl, hown, hts, hKK, hH0, hA, hlk, hrt, hR, hQ, hxt⟩ := hC
  intro ad H locs ls hW hAa hag hn hvl hvs hS hl
  have he := pool_at (G := G) (ad := ad) hi.1
  rw [ent_0 hi.2] at he
  have k2 := kk ad H locs ls hW hAa hag hn hvl (vs_c Vok_int (vs_t hvs)) hS hl
  skip
  exact va_get (D := G.1) (ci := 0) (C := RX0) (T := TX0) (N := 6) hx hb hts inB0 hown hKK.1.1 hW.1 i he rfl 3 (by decide) (hts _ hw) (fun _ h9 => h9) rfl hdg k2
theorem J_p0_3 {C : JC} {x : Bool} {cc : ByteArray} {nL : Nat} {rm : Room} {rt : Option FieldType} {own : String} {res : Res} {ce sl : Nat} {M : Mem} {pc : Nat} {lv : List (Nat × Value)} {st : List Value} {β : Type} {r0 : β} {f : Mem → Option β} {index : Nat} {a : Option Nat} {v : Int32} (hC : Ok C x cc nL rm rt own res) (hw : Cond.fieldLink own index RX0 (TX0 3).2.1 (TX0 3).2.2.1 ∈ BIG) (hdg : decode cc pc = .ok (.putfield index, 3)) (h : (pI 0 3 M a v).bind f = some r0)
    (kk : ∀ M', pI 0 3 M a v = some M' → f M' = some r0 → J C ce sl M' (pc + 3) lv st) : J C ce sl M pc lv (.int v :: rf a :: st) := by
  obtain ⟨M', hv, hf⟩ := bnd h
  have kk := kk M' hv hf
  obtain ⟨i, rfl, hv2⟩ := bnd hv
  split at hv2
  case isFalse => cases hv2
  case isTrue hi =>
  cases hv2
  obtain ⟨p, l, e, R, s, m, args, below, meth, c, H0, A, Q, nL0, G, ad0, n0⟩ := C
  obtain ⟨hx, hb, hml, hnl, hown, hts, hKK, hH0, hA, hlk, hrt, hR, hQ, hxt⟩ := hC
  intro ad H locs ls hW hAa hag hn hvl hvs hS hl
  have he := pool_at (G := G) (ad := ad) hi.1
  rw [ent_0 hi.2] at he
  have hD := pool_D hW hAa
  have e2 : (pool G ad M).set i (ad i, .inr (0, [re ad (mR M i 0), re ad (mR M i 1), re ad (mR M i 2), .int v, .int (mI M i 4), .int (mI M i 5)])) = pool G ad (sI M i 3 v) := pool_set rfl hi.1 (by rw [ent_0 hi.2]; simp [sI, mI, mJ, mR, up2]) (fun j hj => ent_sI_ne hj)
  skip
  skip
  skip
  exact va_put (D := G.1) (ci := 0) (C := RX0) (T := TX0) (N := 6) (ty := tyX0 3) (v := .int v) hx hb hts inB0 tyX0 tyX0_ok nmX0 hown hKK.1.1 hW.1 hD hS i he rfl 3 (by decide) (hts _ hw) (fun _ h9 => h9) rfl (by decide +kernel) rfl rfl (Nat.le_of_ble_eq_true rfl) hdg (fun H1 locs1 hP1 hD1 hS1 => kk ad H1 locs1 ls ⟨by rw [← e2]; exact hP1, hW.2.1, hW.2.2⟩ hAa hag hn hvl (vs_t (vs_t hvs)) hS1 hl)
theorem J_g0_4 {C : JC} {x : Bool} {cc : ByteArray} {nL : Nat} {rm : Room} {rt : Option FieldType} {own : String} {res : Res} {ce sl : Nat} {M : Mem} {pc : Nat} {lv : List (Nat × Value)} {st : List Value} {β : Type} {r0 : β} {f : Int32 → Option β} {index : Nat} {a : Option Nat} (hC : Ok C x cc nL rm rt own res) (hw : Cond.fieldLink own index RX0 (TX0 4).2.1 (TX0 4).2.2.1 ∈ BIG) (hdg : decode cc pc = .ok (.getfield index, 3)) (h : (gI 0 4 M a).bind f = some r0)
    (kk : ∀ v, gI 0 4 M a = some v → f v = some r0 → J C ce sl M (pc + 3) lv (.int v :: st)) : J C ce sl M pc lv (rf a :: st) := by
  obtain ⟨v, hv, hf⟩ := bnd h
  have kk := kk v hv hf
  obtain ⟨i, rfl, hv2⟩ := bnd hv
  split at hv2
  case isFalse => cases hv2
  case isTrue hi =>
  cases hv2
  obtain ⟨p, l, e, R, s, m, args, below, meth, c, H0, A, Q, nL0, G, ad0, n0⟩ := C
  obtain ⟨hx, hb, hml, hnl, hown, hts, hKK, hH0, hA, hlk, hrt, hR, hQ, hxt⟩ := hC
  intro ad H locs ls hW hAa hag hn hvl hvs hS hl
  have he := pool_at (G := G) (ad := ad) hi.1
  rw [ent_0 hi.2] at he
  have k2 := kk ad H locs ls hW hAa hag hn hvl (vs_c Vok_int (vs_t hvs)) hS hl
  skip
  exact va_get (D := G.1) (ci := 0) (C := RX0) (T := TX0) (N := 6) hx hb hts inB0 hown hKK.1.1 hW.1 i he rfl 4 (by decide) (hts _ hw) (fun _ h9 => h9) rfl hdg k2
theorem J_p0_4 {C : JC} {x : Bool} {cc : ByteArray} {nL : Nat} {rm : Room} {rt : Option FieldType} {own : String} {res : Res} {ce sl : Nat} {M : Mem} {pc : Nat} {lv : List (Nat × Value)} {st : List Value} {β : Type} {r0 : β} {f : Mem → Option β} {index : Nat} {a : Option Nat} {v : Int32} (hC : Ok C x cc nL rm rt own res) (hw : Cond.fieldLink own index RX0 (TX0 4).2.1 (TX0 4).2.2.1 ∈ BIG) (hdg : decode cc pc = .ok (.putfield index, 3)) (h : (pI 0 4 M a v).bind f = some r0)
    (kk : ∀ M', pI 0 4 M a v = some M' → f M' = some r0 → J C ce sl M' (pc + 3) lv st) : J C ce sl M pc lv (.int v :: rf a :: st) := by
  obtain ⟨M', hv, hf⟩ := bnd h
  have kk := kk M' hv hf
  obtain ⟨i, rfl, hv2⟩ := bnd hv
  split at hv2
  case isFalse => cases hv2
  case isTrue hi =>
  cases hv2
  obtain ⟨p, l, e, R, s, m, args, below, meth, c, H0, A, Q, nL0, G, ad0, n0⟩ := C
  obtain ⟨hx, hb, hml, hnl, hown, hts, hKK, hH0, hA, hlk, hrt, hR, hQ, hxt⟩ := hC
  intro ad H locs ls hW hAa hag hn hvl hvs hS hl
  have he := pool_at (G := G) (ad := ad) hi.1
  rw [ent_0 hi.2] at he
  have hD := pool_D hW hAa
  have e2 : (pool G ad M).set i (ad i, .inr (0, [re ad (mR M i 0), re ad (mR M i 1), re ad (mR M i 2), .int (mI M i 3), .int v, .int (mI M i 5)])) = pool G ad (sI M i 4 v) := pool_set rfl hi.1 (by rw [ent_0 hi.2]; simp [sI, mI, mJ, mR, up2]) (fun j hj => ent_sI_ne hj)
  skip
  skip
  skip
  exact va_put (D := G.1) (ci := 0) (C := RX0) (T := TX0) (N := 6) (ty := tyX0 4) (v := .int v) hx hb hts inB0 tyX0 tyX0_ok nmX0 hown hKK.1.1 hW.1 hD hS i he rfl 4 (by decide) (hts _ hw) (fun _ h9 => h9) rfl (by decide +kernel) rfl rfl (Nat.le_of_ble_eq_true rfl) hdg (fun H1 locs1 hP1 hD1 hS1 => kk ad H1 locs1 ls ⟨by rw [← e2]; exact hP1, hW.2.1, hW.2.2⟩ hAa hag hn hvl (vs_t (vs_t hvs)) hS1 hl)
theorem J_g0_5 {C : JC} {x : Bool} {cc : ByteArray} {nL : Nat} {rm : Room} {rt : Option FieldType} {own : String} {res : Res} {ce sl : Nat} {M : Mem} {pc : Nat} {lv : List (Nat × Value)} {st : List Value} {β : Type} {r0 : β} {f : Int32 → Option β} {index : Nat} {a : Option Nat} (hC : Ok C x cc nL rm rt own res) (hw : Cond.fieldLink own index RX0 (TX0 5).2.1 (TX0 5).2.2.1 ∈ BIG) (hdg : decode cc pc = .ok (.getfield index, 3)) (h : (gI 0 5 M a).bind f = some r0)
    (kk : ∀ v, gI 0 5 M a = some v → f v = some r0 → J C ce sl M (pc + 3) lv (.int v :: st)) : J C ce sl M pc lv (rf a :: st) := by
  obtain ⟨v, hv, hf⟩ := bnd h
  have kk := kk v hv hf
  obtain ⟨i, rfl, hv2⟩ := bnd hv
  split at hv2
  case isFalse => cases hv2
  case isTrue hi =>
  cases hv2
  obtain ⟨p, l, e, R, s, m, args, below, meth, c, H0, A, Q, nL0, G, ad0, n0⟩ := C
  obtain ⟨hx, hb, hml, hnl, hown, hts, hKK, hH0, hA, hlk, hrt, hR, hQ, hxt⟩ := hC
  intro ad H locs ls hW hAa hag hn hvl hvs hS hl
  have he := pool_at (G := G) (ad := ad) hi.1
  rw [ent_0 hi.2] at he
  have k2 := kk ad H locs ls hW hAa hag hn hvl (vs_c Vok_int (vs_t hvs)) hS hl
  skip
  exact va_get (D := G.1) (ci := 0) (C := RX0) (T := TX0) (N := 6) hx hb hts inB0 hown hKK.1.1 hW.1 i he rfl 5 (by decide) (hts _ hw) (fun _ h9 => h9) rfl hdg k2
theorem J_p0_5 {C : JC} {x : Bool} {cc : ByteArray} {nL : Nat} {rm : Room} {rt : Option FieldType} {own : String} {res : Res} {ce sl : Nat} {M : Mem} {pc : Nat} {lv : List (Nat × Value)} {st : List Value} {β : Type} {r0 : β} {f : Mem → Option β} {index : Nat} {a : Option Nat} {v : Int32} (hC : Ok C x cc nL rm rt own res) (hw : Cond.fieldLink own index RX0 (TX0 5).2.1 (TX0 5).2.2.1 ∈ BIG) (hdg : decode cc pc = .ok (.putfield index, 3)) (h : (pI 0 5 M a v).bind f = some r0)
    (kk : ∀ M', pI 0 5 M a v = some M' → f M' = some r0 → J C ce sl M' (pc + 3) lv st) : J C ce sl M pc lv (.int v :: rf a :: st) := by
  obtain ⟨M', hv, hf⟩ := bnd h
  have kk := kk M' hv hf
  obtain ⟨i, rfl, hv2⟩ := bnd hv
  split at hv2
  case isFalse => cases hv2
  case isTrue hi =>
  cases hv2
  obtain ⟨p, l, e, R, s, m, args, below, meth, c, H0, A, Q, nL0, G, ad0, n0⟩ := C
  obtain ⟨hx, hb, hml, hnl, hown, hts, hKK, hH0, hA, hlk, hrt, hR, hQ, hxt⟩ := hC
  intro ad H locs ls hW hAa hag hn hvl hvs hS hl
  have he := pool_at (G := G) (ad := ad) hi.1
  rw [ent_0 hi.2] at he
  have hD := pool_D hW hAa
  have e2 : (pool G ad M).set i (ad i, .inr (0, [re ad (mR M i 0), re ad (mR M i 1), re ad (mR M i 2), .int (mI M i 3), .int (mI M i 4), .int v])) = pool G ad (sI M i 5 v) := pool_set rfl hi.1 (by rw [ent_0 hi.2]; simp [sI, mI, mJ, mR, up2]) (fun j hj => ent_sI_ne hj)
  skip
  skip
  skip
  exact va_put (D := G.1) (ci := 0) (C := RX0) (T := TX0) (N := 6) (ty := tyX0 5) (v := .int v) hx hb hts inB0 tyX0 tyX0_ok nmX0 hown hKK.1.1 hW.1 hD hS i he rfl 5 (by decide) (hts _ hw) (fun _ h9 => h9) rfl (by decide +kernel) rfl rfl (Nat.le_of_ble_eq_true rfl) hdg (fun H1 locs1 hP1 hD1 hS1 => kk ad H1 locs1 ls ⟨by rw [← e2]; exact hP1, hW.2.1, hW.2.2⟩ hAa hag hn hvl (vs_t (vs_t hvs)) hS1 hl)
theorem J_g1_0 {C : JC} {x : Bool} {cc : ByteArray} {nL : Nat} {rm : Room} {rt : Option FieldType} {own : String} {res : Res} {ce sl : Nat} {M : Mem} {pc : Nat} {lv : List (Nat × Value)} {st : List Value} {β : Type} {r0 : β} {f : Option Nat → Option β} {index : Nat} {a : Option Nat} (hC : Ok C x cc nL rm rt own res) (hw : Cond.fieldLink own index RX1 (TX1 0).2.1 (TX1 0).2.2.1 ∈ BIG) (hdg : decode cc pc = .ok (.getfield index, 3)) (h : (gR 1 0 M a).bind f = some r0)
    (kk : ∀ v, gR 1 0 M a = some v → f v = some r0 → J C ce sl M (pc + 3) lv (rf v :: st)) : J C ce sl M pc lv (rf a :: st) := by
  obtain ⟨v, hv, hf⟩ := bnd h
  have kk := kk v hv hf
  obtain ⟨i, rfl, hv2⟩ := bnd hv
  split at hv2
  case isFalse => cases hv2
  case isTrue hi =>
  cases hv2
  obtain ⟨p, l, e, R, s, m, args, below, meth, c, H0, A, Q, nL0, G, ad0, n0⟩ := C
  obtain ⟨hx, hb, hml, hnl, hown, hts, hKK, hH0, hA, hlk, hrt, hR, hQ, hxt⟩ := hC
  intro ad H locs ls hW hAa hag hn hvl hvs hS hl
  have he := pool_at (G := G) (ad := ad) hi.1
  rw [ent_1 hi.2] at he
  have k2 := kk ad H locs ls hW hAa hag hn hvl (vs_c (Vok_rf (fun j e => hW.2.2 _ _ j hi.1 e)) (vs_t hvs)) hS hl
  rw [List.map_cons, phys_rf] at k2
  exact va_get (D := G.1) (ci := 1) (C := RX1) (T := TX1) (N := 5) hx hb hts inB1 hown hKK.1.1 hW.1 i he rfl 0 (by decide) (hts _ hw) (fun _ h9 => h9) rfl hdg k2
theorem J_p1_0 {C : JC} {x : Bool} {cc : ByteArray} {nL : Nat} {rm : Room} {rt : Option FieldType} {own : String} {res : Res} {ce sl : Nat} {M : Mem} {pc : Nat} {lv : List (Nat × Value)} {st : List Value} {β : Type} {r0 : β} {f : Mem → Option β} {index : Nat} {a : Option Nat} {v : Option Nat} (hC : Ok C x cc nL rm rt own res) (hin : isInit C) (hdc : (TX1 0).1 = own) (hw : Cond.fieldLink own index RX1 (TX1 0).2.1 (TX1 0).2.2.1 ∈ BIG) (hdg : decode cc pc = .ok (.putfield index, 3)) (h : (pR 1 0 M a v).bind f = some r0)
    (kk : ∀ M', pR 1 0 M a v = some M' → f M' = some r0 → J C ce sl M' (pc + 3) lv st) : J C ce sl M pc lv (rf v :: rf a :: st) := by
  obtain ⟨M', hv, hf⟩ := bnd h
  have kk := kk M' hv hf
  obtain ⟨i, rfl, hv2⟩ := bnd hv
  split at hv2
  case isFalse => cases hv2
  case isTrue hi =>
  cases hv2
  obtain ⟨p, l, e, R, s, m, args, below, meth, c, H0, A, Q, nL0, G, ad0, n0⟩ := C
  obtain ⟨hx, hb, hml, hnl, hown, hts, hKK, hH0, hA, hlk, hrt, hR, hQ, hxt⟩ := hC
  intro ad H locs ls hW hAa hag hn hvl hvs hS hl
  have he := pool_at (G := G) (ad := ad) hi.1
  rw [ent_1 hi.2] at he
  have hD := pool_D hW hAa
  have e2 : (pool G ad M).set i (ad i, .inr (1, [re ad v, re ad (mR M i 1), .int (mI M i 2), .int (mI M i 3), .int (mI M i 4)])) = pool G ad (sR M i 0 v) := pool_set rfl hi.1 (by rw [ent_1 hi.2]; simp [sR, mI, mJ, mR, up2]) (fun j hj => ent_sR_ne hj)
  have e3 : phys ad (rf v) = re ad v := phys_rf ad v
  rw [List.map_cons, e3]
  skip
  exact va_putF (D := G.1) (ci := 1) (C := RX1) (T := TX1) (N := 5) (ty := tyX1 0) (v := re ad v) hx hb hts inB1 tyX1 tyX1_ok nmX1 hown hKK.1.1 hW.1 hD hS i he rfl 0 (by decide) (hts _ hw) (fun _ h9 => h9) rfl hin hdc (by decide +kernel) (by cases v <;> rfl) (by cases v <;> rfl) (Nat.le_of_ble_eq_true rfl) hdg (fun H1 locs1 hP1 hD1 hS1 => kk ad H1 locs1 ls ⟨by rw [← e2]; exact hP1, hW.2.1, wf_sR hW.2.2 (vs_h hvs)⟩ hAa hag hn hvl (vs_t (vs_t hvs)) hS1 hl)
theorem J_g1_1 {C : JC} {x : Bool} {cc : ByteArray} {nL : Nat} {rm : Room} {rt : Option FieldType} {own : String} {res : Res} {ce sl : Nat} {M : Mem} {pc : Nat} {lv : List (Nat × Value)} {st : List Value} {β : Type} {r0 : β} {f : Option Nat → Option β} {index : Nat} {a : Option Nat} (hC : Ok C x cc nL rm rt own res) (hw : Cond.fieldLink own index RX1 (TX1 1).2.1 (TX1 1).2.2.1 ∈ BIG) (hdg : decode cc pc = .ok (.getfield index, 3)) (h : (gR 1 1 M a).bind f = some r0)
    (kk : ∀ v, gR 1 1 M a = some v → f v = some r0 → J C ce sl M (pc + 3) lv (rf v :: st)) : J C ce sl M pc lv (rf a :: st) := by
  obtain ⟨v, hv, hf⟩ := bnd h
  have kk := kk v hv hf
  obtain ⟨i, rfl, hv2⟩ := bnd hv
  split at hv2
  case isFalse => cases hv2
  case isTrue hi =>
  cases hv2
  obtain ⟨p, l, e, R, s, m, args, below, meth, c, H0, A, Q, nL0, G, ad0, n0⟩ := C
  obtain ⟨hx, hb, hml, hnl, hown, hts, hKK, hH0, hA, hlk, hrt, hR, hQ, hxt⟩ := hC
  intro ad H locs ls hW hAa hag hn hvl hvs hS hl
  have he := pool_at (G := G) (ad := ad) hi.1
  rw [ent_1 hi.2] at he
  have k2 := kk ad H locs ls hW hAa hag hn hvl (vs_c (Vok_rf (fun j e => hW.2.2 _ _ j hi.1 e)) (vs_t hvs)) hS hl
  rw [List.map_cons, phys_rf] at k2
  exact va_get (D := G.1) (ci := 1) (C := RX1) (T := TX1) (N := 5) hx hb hts inB1 hown hKK.1.1 hW.1 i he rfl 1 (by decide) (hts _ hw) (fun _ h9 => h9) rfl hdg k2
theorem J_p1_1 {C : JC} {x : Bool} {cc : ByteArray} {nL : Nat} {rm : Room} {rt : Option FieldType} {own : String} {res : Res} {ce sl : Nat} {M : Mem} {pc : Nat} {lv : List (Nat × Value)} {st : List Value} {β : Type} {r0 : β} {f : Mem → Option β} {index : Nat} {a : Option Nat} {v : Option Nat} (hC : Ok C x cc nL rm rt own res) (hin : isInit C) (hdc : (TX1 1).1 = own) (hw : Cond.fieldLink own index RX1 (TX1 1).2.1 (TX1 1).2.2.1 ∈ BIG) (hdg : decode cc pc = .ok (.putfield index, 3)) (h : (pR 1 1 M a v).bind f = some r0)
    (kk : ∀ M', pR 1 1 M a v = some M' → f M' = some r0 → J C ce sl M' (pc + 3) lv st) : J C ce sl M pc lv (rf v :: rf a :: st) := by
  obtain ⟨M', hv, hf⟩ := bnd h
  have kk := kk M' hv hf
  obtain ⟨i, rfl, hv2⟩ := bnd hv
  split at hv2
  case isFalse => cases hv2
  case isTrue hi =>
  cases hv2
  obtain ⟨p, l, e, R, s, m, args, below, meth, c, H0, A, Q, nL0, G, ad0, n0⟩ := C
  obtain ⟨hx, hb, hml, hnl, hown, hts, hKK, hH0, hA, hlk, hrt, hR, hQ, hxt⟩ := hC
  intro ad H locs ls hW hAa hag hn hvl hvs hS hl
  have he := pool_at (G := G) (ad := ad) hi.1
  rw [ent_1 hi.2] at he
  have hD := pool_D hW hAa
  have e2 : (pool G ad M).set i (ad i, .inr (1, [re ad (mR M i 0), re ad v, .int (mI M i 2), .int (mI M i 3), .int (mI M i 4)])) = pool G ad (sR M i 1 v) := pool_set rfl hi.1 (by rw [ent_1 hi.2]; simp [sR, mI, mJ, mR, up2]) (fun j hj => ent_sR_ne hj)
  have e3 : phys ad (rf v) = re ad v := phys_rf ad v
  rw [List.map_cons, e3]
  skip
  exact va_putF (D := G.1) (ci := 1) (C := RX1) (T := TX1) (N := 5) (ty := tyX1 1) (v := re ad v) hx hb hts inB1 tyX1 tyX1_ok nmX1 hown hKK.1.1 hW.1 hD hS i he rfl 1 (by decide) (hts _ hw) (fun _ h9 => h9) rfl hin hdc (by decide +kernel) (by cases v <;> rfl) (by cases v <;> rfl) (Nat.le_of_ble_eq_true rfl) hdg (fun H1 locs1 hP1 hD1 hS1 => kk ad H1 locs1 ls ⟨by rw [← e2]; exact hP1, hW.2.1, wf_sR hW.2.2 (vs_h hvs)⟩ hAa hag hn hvl (vs_t (vs_t hvs)) hS1 hl)
theorem J_g1_2 {C : JC} {x : Bool} {cc : ByteArray} {nL : Nat} {rm : Room} {rt : Option FieldType} {own : String} {res : Res} {ce sl : Nat} {M : Mem} {pc : Nat} {lv : List (Nat × Value)} {st : List Value} {β : Type} {r0 : β} {f : Int32 → Option β} {index : Nat} {a : Option Nat} (hC : Ok C x cc nL rm rt own res) (hw : Cond.fieldLink own index RX1 (TX1 2).2.1 (TX1 2).2.2.1 ∈ BIG) (hdg : decode cc pc = .ok (.getfield index, 3)) (h : (gI 1 2 M a).bind f = some r0)
    (kk : ∀ v, gI 1 2 M a = some v → f v = some r0 → J C ce sl M (pc + 3) lv (.int v :: st)) : J C ce sl M pc lv (rf a :: st) := by
  obtain ⟨v, hv, hf⟩ := bnd h
  have kk := kk v hv hf
  obtain ⟨i, rfl, hv2⟩ := bnd hv
  split at hv2
  case isFalse => cases hv2
  case isTrue hi =>
  cases hv2
  obtain ⟨p, l, e, R, s, m, args, below, meth, c, H0, A, Q, nL0, G, ad0, n0⟩ := C
  obtain ⟨hx, hb, hml, hnl, hown, hts, hKK, hH0, hA, hlk, hrt, hR, hQ, hxt⟩ := hC
  intro ad H locs ls hW hAa hag hn hvl hvs hS hl
  have he := pool_at (G := G) (ad := ad) hi.1
  rw [ent_1 hi.2] at he
  have k2 := kk ad H locs ls hW hAa hag hn hvl (vs_c Vok_int (vs_t hvs)) hS hl
  skip
  exact va_get (D := G.1) (ci := 1) (C := RX1) (T := TX1) (N := 5) hx hb hts inB1 hown hKK.1.1 hW.1 i he rfl 2 (by decide) (hts _ hw) (fun _ h9 => h9) rfl hdg k2
theorem J_p1_2 {C : JC} {x : Bool} {cc : ByteArray} {nL : Nat} {rm : Room} {rt : Option FieldType} {own : String} {res : Res} {ce sl : Nat} {M : Mem} {pc : Nat} {lv : List (Nat × Value)} {st : List Value} {β : Type} {r0 : β} {f : Mem → Option β} {index : Nat} {a : Option Nat} {v : Int32} (hC : Ok C x cc nL rm rt own res) (hw : Cond.fieldLink own index RX1 (TX1 2).2.1 (TX1 2).2.2.1 ∈ BIG) (hdg : decode cc pc = .ok (.putfield index, 3)) (h : (pI 1 2 M a v).bind f = some r0)
    (kk : ∀ M', pI 1 2 M a v = some M' → f M' = some r0 → J C ce sl M' (pc + 3) lv st) : J C ce sl M pc lv (.int v :: rf a :: st) := by
  obtain ⟨M', hv, hf⟩ := bnd h
  have kk := kk M' hv hf
  obtain ⟨i, rfl, hv2⟩ := bnd hv
  split at hv2
  case isFalse => cases hv2
  case isTrue hi =>
  cases hv2
  obtain ⟨p, l, e, R, s, m, args, below, meth, c, H0, A, Q, nL0, G, ad0, n0⟩ := C
  obtain ⟨hx, hb, hml, hnl, hown, hts, hKK, hH0, hA, hlk, hrt, hR, hQ, hxt⟩ := hC
  intro ad H locs ls hW hAa hag hn hvl hvs hS hl
  have he := pool_at (G := G) (ad := ad) hi.1
  rw [ent_1 hi.2] at he
  have hD := pool_D hW hAa
  have e2 : (pool G ad M).set i (ad i, .inr (1, [re ad (mR M i 0), re ad (mR M i 1), .int v, .int (mI M i 3), .int (mI M i 4)])) = pool G ad (sI M i 2 v) := pool_set rfl hi.1 (by rw [ent_1 hi.2]; simp [sI, mI, mJ, mR, up2]) (fun j hj => ent_sI_ne hj)
  skip
  skip
  skip
  exact va_put (D := G.1) (ci := 1) (C := RX1) (T := TX1) (N := 5) (ty := tyX1 2) (v := .int v) hx hb hts inB1 tyX1 tyX1_ok nmX1 hown hKK.1.1 hW.1 hD hS i he rfl 2 (by decide) (hts _ hw) (fun _ h9 => h9) rfl (by decide +kernel) rfl rfl (Nat.le_of_ble_eq_true rfl) hdg (fun H1 locs1 hP1 hD1 hS1 => kk ad H1 locs1 ls ⟨by rw [← e2]; exact hP1, hW.2.1, hW.2.2⟩ hAa hag hn hvl (vs_t (vs_t hvs)) hS1 hl)
theorem J_g1_3 {C : JC} {x : Bool} {cc : ByteArray} {nL : Nat} {rm : Room} {rt : Option FieldType} {own : String} {res : Res} {ce sl : Nat} {M : Mem} {pc : Nat} {lv : List (Nat × Value)} {st : List Value} {β : Type} {r0 : β} {f : Int32 → Option β} {index : Nat} {a : Option Nat} (hC : Ok C x cc nL rm rt own res) (hw : Cond.fieldLink own index RX1 (TX1 3).2.1 (TX1 3).2.2.1 ∈ BIG) (hdg : decode cc pc = .ok (.getfield index, 3)) (h : (gI 1 3 M a).bind f = some r0)
    (kk : ∀ v, gI 1 3 M a = some v → f v = some r0 → J C ce sl M (pc + 3) lv (.int v :: st)) : J C ce sl M pc lv (rf a :: st) := by
  obtain ⟨v, hv, hf⟩ := bnd h
  have kk := kk v hv hf
  obtain ⟨i, rfl, hv2⟩ := bnd hv
  split at hv2
  case isFalse => cases hv2
  case isTrue hi =>
  cases hv2
  obtain ⟨p, l, e, R, s, m, args, below, meth, c, H0, A, Q, nL0, G, ad0, n0⟩ := C
  obtain ⟨hx, hb, hml, hnl, hown, hts, hKK, hH0, hA, hlk, hrt, hR, hQ, hxt⟩ := hC
  intro ad H locs ls hW hAa hag hn hvl hvs hS hl
  have he := pool_at (G := G) (ad := ad) hi.1
  rw [ent_1 hi.2] at he
  have k2 := kk ad H locs ls hW hAa hag hn hvl (vs_c Vok_int (vs_t hvs)) hS hl
  skip
  exact va_get (D := G.1) (ci := 1) (C := RX1) (T := TX1) (N := 5) hx hb hts inB1 hown hKK.1.1 hW.1 i he rfl 3 (by decide) (hts _ hw) (fun _ h9 => h9) rfl hdg k2
theorem J_p1_3 {C : JC} {x : Bool} {cc : ByteArray} {nL : Nat} {rm : Room} {rt : Option FieldType} {own : String} {res : Res} {ce sl : Nat} {M : Mem} {pc : Nat} {lv : List (Nat × Value)} {st : List Value} {β : Type} {r0 : β} {f : Mem → Option β} {index : Nat} {a : Option Nat} {v : Int32} (hC : Ok C x cc nL rm rt own res) (hw : Cond.fieldLink own index RX1 (TX1 3).2.1 (TX1 3).2.2.1 ∈ BIG) (hdg : decode cc pc = .ok (.putfield index, 3)) (h : (pI 1 3 M a v).bind f = some r0)
    (kk : ∀ M', pI 1 3 M a v = some M' → f M' = some r0 → J C ce sl M' (pc + 3) lv st) : J C ce sl M pc lv (.int v :: rf a :: st) := by
  obtain ⟨M', hv, hf⟩ := bnd h
  have kk := kk M' hv hf
  obtain ⟨i, rfl, hv2⟩ := bnd hv
  split at hv2
  case isFalse => cases hv2
  case isTrue hi =>
  cases hv2
  obtain ⟨p, l, e, R, s, m, args, below, meth, c, H0, A, Q, nL0, G, ad0, n0⟩ := C
  obtain ⟨hx, hb, hml, hnl, hown, hts, hKK, hH0, hA, hlk, hrt, hR, hQ, hxt⟩ := hC
  intro ad H locs ls hW hAa hag hn hvl hvs hS hl
  have he := pool_at (G := G) (ad := ad) hi.1
  rw [ent_1 hi.2] at he
  have hD := pool_D hW hAa
  have e2 : (pool G ad M).set i (ad i, .inr (1, [re ad (mR M i 0), re ad (mR M i 1), .int (mI M i 2), .int v, .int (mI M i 4)])) = pool G ad (sI M i 3 v) := pool_set rfl hi.1 (by rw [ent_1 hi.2]; simp [sI, mI, mJ, mR, up2]) (fun j hj => ent_sI_ne hj)
  skip
  skip
  skip
  exact va_put (D := G.1) (ci := 1) (C := RX1) (T := TX1) (N := 5) (ty := tyX1 3) (v := .int v) hx hb hts inB1 tyX1 tyX1_ok nmX1 hown hKK.1.1 hW.1 hD hS i he rfl 3 (by decide) (hts _ hw) (fun _ h9 => h9) rfl (by decide +kernel) rfl rfl (Nat.le_of_ble_eq_true rfl) hdg (fun H1 locs1 hP1 hD1 hS1 => kk ad H1 locs1 ls ⟨by rw [← e2]; exact hP1, hW.2.1, hW.2.2⟩ hAa hag hn hvl (vs_t (vs_t hvs)) hS1 hl)
theorem J_g1_4 {C : JC} {x : Bool} {cc : ByteArray} {nL : Nat} {rm : Room} {rt : Option FieldType} {own : String} {res : Res} {ce sl : Nat} {M : Mem} {pc : Nat} {lv : List (Nat × Value)} {st : List Value} {β : Type} {r0 : β} {f : Int32 → Option β} {index : Nat} {a : Option Nat} (hC : Ok C x cc nL rm rt own res) (hw : Cond.fieldLink own index RX1 (TX1 4).2.1 (TX1 4).2.2.1 ∈ BIG) (hdg : decode cc pc = .ok (.getfield index, 3)) (h : (gI 1 4 M a).bind f = some r0)
    (kk : ∀ v, gI 1 4 M a = some v → f v = some r0 → J C ce sl M (pc + 3) lv (.int v :: st)) : J C ce sl M pc lv (rf a :: st) := by
  obtain ⟨v, hv, hf⟩ := bnd h
  have kk := kk v hv hf
  obtain ⟨i, rfl, hv2⟩ := bnd hv
  split at hv2
  case isFalse => cases hv2
  case isTrue hi =>
  cases hv2
  obtain ⟨p, l, e, R, s, m, args, below, meth, c, H0, A, Q, nL0, G, ad0, n0⟩ := C
  obtain ⟨hx, hb, hml, hnl, hown, hts, hKK, hH0, hA, hlk, hrt, hR, hQ, hxt⟩ := hC
  intro ad H locs ls hW hAa hag hn hvl hvs hS hl
  have he := pool_at (G := G) (ad := ad) hi.1
  rw [ent_1 hi.2] at he
  have k2 := kk ad H locs ls hW hAa hag hn hvl (vs_c Vok_int (vs_t hvs)) hS hl
  skip
  exact va_get (D := G.1) (ci := 1) (C := RX1) (T := TX1) (N := 5) hx hb hts inB1 hown hKK.1.1 hW.1 i he rfl 4 (by decide) (hts _ hw) (fun _ h9 => h9) rfl hdg k2
theorem J_p1_4 {C : JC} {x : Bool} {cc : ByteArray} {nL : Nat} {rm : Room} {rt : Option FieldType} {own : String} {res : Res} {ce sl : Nat} {M : Mem} {pc : Nat} {lv : List (Nat × Value)} {st : List Value} {β : Type} {r0 : β} {f : Mem → Option β} {index : Nat} {a : Option Nat} {v : Int32} (hC : Ok C x cc nL rm rt own res) (hw : Cond.fieldLink own index RX1 (TX1 4).2.1 (TX1 4).2.2.1 ∈ BIG) (hdg : decode cc pc = .ok (.putfield index, 3)) (h : (pI 1 4 M a v).bind f = some r0)
    (kk : ∀ M', pI 1 4 M a v = some M' → f M' = some r0 → J C ce sl M' (pc + 3) lv st) : J C ce sl M pc lv (.int v :: rf a :: st) := by
  obtain ⟨M', hv, hf⟩ := bnd h
  have kk := kk M' hv hf
  obtain ⟨i, rfl, hv2⟩ := bnd hv
  split at hv2
  case isFalse => cases hv2
  case isTrue hi =>
  cases hv2
  obtain ⟨p, l, e, R, s, m, args, below, meth, c, H0, A, Q, nL0, G, ad0, n0⟩ := C
  obtain ⟨hx, hb, hml, hnl, hown, hts, hKK, hH0, hA, hlk, hrt, hR, hQ, hxt⟩ := hC
  intro ad H locs ls hW hAa hag hn hvl hvs hS hl
  have he := pool_at (G := G) (ad := ad) hi.1
  rw [ent_1 hi.2] at he
  have hD := pool_D hW hAa
  have e2 : (pool G ad M).set i (ad i, .inr (1, [re ad (mR M i 0), re ad (mR M i 1), .int (mI M i 2), .int (mI M i 3), .int v])) = pool G ad (sI M i 4 v) := pool_set rfl hi.1 (by rw [ent_1 hi.2]; simp [sI, mI, mJ, mR, up2]) (fun j hj => ent_sI_ne hj)
  skip
  skip
  skip
  exact va_put (D := G.1) (ci := 1) (C := RX1) (T := TX1) (N := 5) (ty := tyX1 4) (v := .int v) hx hb hts inB1 tyX1 tyX1_ok nmX1 hown hKK.1.1 hW.1 hD hS i he rfl 4 (by decide) (hts _ hw) (fun _ h9 => h9) rfl (by decide +kernel) rfl rfl (Nat.le_of_ble_eq_true rfl) hdg (fun H1 locs1 hP1 hD1 hS1 => kk ad H1 locs1 ls ⟨by rw [← e2]; exact hP1, hW.2.1, hW.2.2⟩ hAa hag hn hvl (vs_t (vs_t hvs)) hS1 hl)
theorem J_g2_0 {C : JC} {x : Bool} {cc : ByteArray} {nL : Nat} {rm : Room} {rt : Option FieldType} {own : String} {res : Res} {ce sl : Nat} {M : Mem} {pc : Nat} {lv : List (Nat × Value)} {st : List Value} {β : Type} {r0 : β} {f : Option Nat → Option β} {index : Nat} {a : Option Nat} (hC : Ok C x cc nL rm rt own res) (hw : Cond.fieldLink own index RX2 (TX2 0).2.1 (TX2 0).2.2.1 ∈ BIG) (hdg : decode cc pc = .ok (.getfield index, 3)) (h : (gR 2 0 M a).bind f = some r0)
    (kk : ∀ v, gR 2 0 M a = some v → f v = some r0 → J C ce sl M (pc + 3) lv (rf v :: st)) : J C ce sl M pc lv (rf a :: st) := by
  obtain ⟨v, hv, hf⟩ := bnd h
  have kk := kk v hv hf
  obtain ⟨i, rfl, hv2⟩ := bnd hv
  split at hv2
  case isFalse => cases hv2
  case isTrue hi =>
  cases hv2
  obtain ⟨p, l, e, R, s, m, args, below, meth, c, H0, A, Q, nL0, G, ad0, n0⟩ := C
  obtain ⟨hx, hb, hml, hnl, hown, hts, hKK, hH0, hA, hlk, hrt, hR, hQ, hxt⟩ := hC
  intro ad H locs ls hW hAa hag hn hvl hvs hS hl
  have he := pool_at (G := G) (ad := ad) hi.1
  rw [ent_2 hi.2] at he
  have k2 := kk ad H locs ls hW hAa hag hn hvl (vs_c (Vok_rf (fun j e => hW.2.2 _ _ j hi.1 e)) (vs_t hvs)) hS hl
  rw [List.map_cons, phys_rf] at k2
  exact va_get (D := G.1) (ci := 2) (C := RX2) (T := TX2) (N := 9) hx hb hts inB2 hown hKK.1.1 hW.1 i he rfl 0 (by decide) (hts _ hw) (fun _ h9 => h9) rfl hdg k2
theorem J_p2_0 {C : JC} {x : Bool} {cc : ByteArray} {nL : Nat} {rm : Room} {rt : Option FieldType} {own : String} {res : Res} {ce sl : Nat} {M : Mem} {pc : Nat} {lv : List (Nat × Value)} {st : List Value} {β : Type} {r0 : β} {f : Mem → Option β} {index : Nat} {a : Option Nat} {v : Option Nat} (hC : Ok C x cc nL rm rt own res) (hin : isInit C) (hdc : (TX2 0).1 = own) (hw : Cond.fieldLink own index RX2 (TX2 0).2.1 (TX2 0).2.2.1 ∈ BIG) (hdg : decode cc pc = .ok (.putfield index, 3)) (h : (pR 2 0 M a v).bind f = some r0)
    (kk : ∀ M', pR 2 0 M a v = some M' → f M' = some r0 → J C ce sl M' (pc + 3) lv st) : J C ce sl M pc lv (rf v :: rf a :: st) := by
  obtain ⟨M', hv, hf⟩ := bnd h
  have kk := kk M' hv hf
  obtain ⟨i, rfl, hv2⟩ := bnd hv
  split at hv2
  case isFalse => cases hv2
  case isTrue hi =>
  cases hv2
  obtain ⟨p, l, e, R, s, m, args, below, meth, c, H0, A, Q, nL0, G, ad0, n0⟩ := C
  obtain ⟨hx, hb, hml, hnl, hown, hts, hKK, hH0, hA, hlk, hrt, hR, hQ, hxt⟩ := hC
  intro ad H locs ls hW hAa hag hn hvl hvs hS hl
  have he := pool_at (G := G) (ad := ad) hi.1
  rw [ent_2 hi.2] at he
  have hD := pool_D hW hAa
  have e2 : (pool G ad M).set i (ad i, .inr (2, [re ad v, re ad (mR M i 1), .int (mI M i 2), re ad (mR M i 3), re ad (mR M i 4), re ad (mR M i 5), .int (mI M i 6), re ad (mR M i 7), re ad (mR M i 8)])) = pool G ad (sR M i 0 v) := pool_set rfl hi.1 (by rw [ent_2 hi.2]; simp [sR, mI, mJ, mR, up2]) (fun j hj => ent_sR_ne hj)
  have e3 : phys ad (rf v) = re ad v := phys_rf ad v
  rw [List.map_cons, e3]
  skip
  exact va_putF (D := G.1) (ci := 2) (C := RX2) (T := TX2) (N := 9) (ty := tyX2 0) (v := re ad v) hx hb hts inB2 tyX2 tyX2_ok nmX2 hown hKK.1.1 hW.1 hD hS i he rfl 0 (by decide) (hts _ hw) (fun _ h9 => h9) rfl hin hdc (by decide +kernel) (by cases v <;> rfl) (by cases v <;> rfl) (Nat.le_of_ble_eq_true rfl) hdg (fun H1 locs1 hP1 hD1 hS1 => kk ad H1 locs1 ls ⟨by rw [← e2]; exact hP1, hW.2.1, wf_sR hW.2.2 (vs_h hvs)⟩ hAa hag hn hvl (vs_t (vs_t hvs)) hS1 hl)
theorem J_g2_1 {C : JC} {x : Bool} {cc : ByteArray} {nL : Nat} {rm : Room} {rt : Option FieldType} {own : String} {res : Res} {ce sl : Nat} {M : Mem} {pc : Nat} {lv : List (Nat × Value)} {st : List Value} {β : Type} {r0 : β} {f : Option Nat → Option β} {index : Nat} {a : Option Nat} (hC : Ok C x cc nL rm rt own res) (hw : Cond.fieldLink own index RX2 (TX2 1).2.1 (TX2 1).2.2.1 ∈ BIG) (hdg : decode cc pc = .ok (.getfield index, 3)) (h : (gR 2 1 M a).bind f = some r0)
    (kk : ∀ v, gR 2 1 M a = some v → f v = some r0 → J C ce sl M (pc + 3) lv (rf v :: st)) : J C ce sl M pc lv (rf a :: st) := by
  obtain ⟨v, hv, hf⟩ := bnd h
  have kk := kk v hv hf
  obtain ⟨i, rfl, hv2⟩ := bnd hv
  split at hv2
  case isFalse => cases hv2
  case isTrue hi =>
  cases hv2
  obtain ⟨p, l, e, R, s, m, args, below, meth, c, H0, A, Q, nL0, G, ad0, n0⟩ := C
  obtain ⟨hx, hb, hml, hnl, hown, hts, hKK, hH0, hA, hlk, hrt, hR, hQ, hxt⟩ := hC
  intro ad H locs ls hW hAa hag hn hvl hvs hS hl
  have he := pool_at (G := G) (ad := ad) hi.1
  rw [ent_2 hi.2] at he
  have k2 := kk ad H locs ls hW hAa hag hn hvl (vs_c (Vok_rf (fun j e => hW.2.2 _ _ j hi.1 e)) (vs_t hvs)) hS hl
  rw [List.map_cons, phys_rf] at k2
  exact va_get (D := G.1) (ci := 2) (C := RX2) (T := TX2) (N := 9) hx hb hts inB2 hown hKK.1.1 hW.1 i he rfl 1 (by decide) (hts _ hw) (fun _ h9 => h9) rfl hdg k2
theorem J_p2_1 {C : JC} {x : Bool} {cc : ByteArray} {nL : Nat} {rm : Room} {rt : Option FieldType} {own : String} {res : Res} {ce sl : Nat} {M : Mem} {pc : Nat} {lv : List (Nat × Value)} {st : List Value} {β : Type} {r0 : β} {f : Mem → Option β} {index : Nat} {a : Option Nat} {v : Option Nat} (hC : Ok C x cc nL rm rt own res) (hin : isInit C) (hdc : (TX2 1).1 = own) (hw : Cond.fieldLink own index RX2 (TX2 1).2.1 (TX2 1).2.2.1 ∈ BIG) (hdg : decode cc pc = .ok (.putfield index, 3)) (h : (pR 2 1 M a v).bind f = some r0)
    (kk : ∀ M', pR 2 1 M a v = some M' → f M' = some r0 → J C ce sl M' (pc + 3) lv st) : J C ce sl M pc lv (rf v :: rf a :: st) := by
  obtain ⟨M', hv, hf⟩ := bnd h
  have kk := kk M' hv hf
  obtain ⟨i, rfl, hv2⟩ := bnd hv
  split at hv2
  case isFalse => cases hv2
  case isTrue hi =>
  cases hv2
  obtain ⟨p, l, e, R, s, m, args, below, meth, c, H0, A, Q, nL0, G, ad0, n0⟩ := C
  obtain ⟨hx, hb, hml, hnl, hown, hts, hKK, hH0, hA, hlk, hrt, hR, hQ, hxt⟩ := hC
  intro ad H locs ls hW hAa hag hn hvl hvs hS hl
  have he := pool_at (G := G) (ad := ad) hi.1
  rw [ent_2 hi.2] at he
  have hD := pool_D hW hAa
  have e2 : (pool G ad M).set i (ad i, .inr (2, [re ad (mR M i 0), re ad v, .int (mI M i 2), re ad (mR M i 3), re ad (mR M i 4), re ad (mR M i 5), .int (mI M i 6), re ad (mR M i 7), re ad (mR M i 8)])) = pool G ad (sR M i 1 v) := pool_set rfl hi.1 (by rw [ent_2 hi.2]; simp [sR, mI, mJ, mR, up2]) (fun j hj => ent_sR_ne hj)
  have e3 : phys ad (rf v) = re ad v := phys_rf ad v
  rw [List.map_cons, e3]
  skip
  exact va_putF (D := G.1) (ci := 2) (C := RX2) (T := TX2) (N := 9) (ty := tyX2 1) (v := re ad v) hx hb hts inB2 tyX2 tyX2_ok nmX2 hown hKK.1.1 hW.1 hD hS i he rfl 1 (by decide) (hts _ hw) (fun _ h9 => h9) rfl hin hdc (by decide +kernel) (by cases v <;> rfl) (by cases v <;> rfl) (Nat.le_of_ble_eq_true rfl) hdg (fun H1 locs1 hP1 hD1 hS1 => kk ad H1 locs1 ls ⟨by rw [← e2]; exact hP1, hW.2.1, wf_sR hW.2.2 (vs_h hvs)⟩ hAa hag hn hvl (vs_t (vs_t hvs)) hS1 hl)
theorem J_g2_2 {C : JC} {x : Bool} {cc : ByteArray} {nL : Nat} {rm : Room} {rt : Option FieldType} {own : String} {res : Res} {ce sl : Nat} {M : Mem} {pc : Nat} {lv : List (Nat × Value)} {st : List Value} {β : Type} {r0 : β} {f : Int32 → Option β} {index : Nat} {a : Option Nat} (hC : Ok C x cc nL rm rt own res) (hw : Cond.fieldLink own index RX2 (TX2 2).2.1 (TX2 2).2.2.1 ∈ BIG) (hdg : decode cc pc = .ok (.getfield index, 3)) (h : (gI 2 2 M a).bind f = some r0)
    (kk : ∀ v, gI 2 2 M a = some v → f v = some r0 → J C ce sl M (pc + 3) lv (.int v :: st)) : J C ce sl M pc lv (rf a :: st) := by
  obtain ⟨v, hv, hf⟩ := bnd h
  have kk := kk v hv hf
  obtain ⟨i, rfl, hv2⟩ := bnd hv
  split at hv2
  case isFalse => cases hv2
  case isTrue hi =>
  cases hv2
  obtain ⟨p, l, e, R, s, m, args, below, meth, c, H0, A, Q, nL0, G, ad0, n0⟩ := C
  obtain ⟨hx, hb, hml, hnl, hown, hts, hKK, hH0, hA, hlk, hrt, hR, hQ, hxt⟩ := hC
  intro ad H locs ls hW hAa hag hn hvl hvs hS hl
  have he := pool_at (G := G) (ad := ad) hi.1
  rw [ent_2 hi.2] at he
  have k2 := kk ad H locs ls hW hAa hag hn hvl (vs_c Vok_int (vs_t hvs)) hS hl
  skip
  exact va_get (D := G.1) (ci := 2) (C := RX2) (T := TX2) (N := 9) hx hb hts inB2 hown hKK.1.1 hW.1 i he rfl 2 (by decide) (hts _ hw) (fun _ h9 => h9) rfl hdg k2
theorem J_p2_2 {C : JC} {x : Bool} {cc : ByteArray} {nL : Nat} {rm : Room} {rt : Option FieldType} {own : String} {res : Res} {ce sl : Nat} {M : Mem} {pc : Nat} {lv : List (Nat × Value)} {st : List Value} {β : Type} {r0 : β} {f : Mem → Option β} {index : Nat} {a : Option Nat} {v : Int32} (hC : Ok C x cc nL rm rt own res) (hw : Cond.fieldLink own index RX2 (TX2 2).2.1 (TX2 2).2.2.1 ∈ BIG) (hdg : decode cc pc = .ok (.putfield index, 3)) (h : (pI 2 2 M a v).bind f = some r0)
    (kk : ∀ M', pI 2 2 M a v = some M' → f M' = some r0 → J C ce sl M' (pc + 3) lv st) : J C ce sl M pc lv (.int v :: rf a :: st) := by
  obtain ⟨M', hv, hf⟩ := bnd h
  have kk := kk M' hv hf
  obtain ⟨i, rfl, hv2⟩ := bnd hv
  split at hv2
  case isFalse => cases hv2
  case isTrue hi =>
  cases hv2
  obtain ⟨p, l, e, R, s, m, args, below, meth, c, H0, A, Q, nL0, G, ad0, n0⟩ := C
  obtain ⟨hx, hb, hml, hnl, hown, hts, hKK, hH0, hA, hlk, hrt, hR, hQ, hxt⟩ := hC
  intro ad H locs ls hW hAa hag hn hvl hvs hS hl
  have he := pool_at (G := G) (ad := ad) hi.1
  rw [ent_2 hi.2] at he
  have hD := pool_D hW hAa
  have e2 : (pool G ad M).set i (ad i, .inr (2, [re ad (mR M i 0), re ad (mR M i 1), .int v, re ad (mR M i 3), re ad (mR M i 4), re ad (mR M i 5), .int (mI M i 6), re ad (mR M i 7), re ad (mR M i 8)])) = pool G ad (sI M i 2 v) := pool_set rfl hi.1 (by rw [ent_2 hi.2]; simp [sI, mI, mJ, mR, up2]) (fun j hj => ent_sI_ne hj)
  skip
  skip
  skip
  exact va_put (D := G.1) (ci := 2) (C := RX2) (T := TX2) (N := 9) (ty := tyX2 2) (v := .int v) hx hb hts inB2 tyX2 tyX2_ok nmX2 hown hKK.1.1 hW.1 hD hS i he rfl 2 (by decide) (hts _ hw) (fun _ h9 => h9) rfl (by decide +kernel) rfl rfl (Nat.le_of_ble_eq_true rfl) hdg (fun H1 locs1 hP1 hD1 hS1 => kk ad H1 locs1 ls ⟨by rw [← e2]; exact hP1, hW.2.1, hW.2.2⟩ hAa hag hn hvl (vs_t (vs_t hvs)) hS1 hl)
theorem J_g2_3 {C : JC} {x : Bool} {cc : ByteArray} {nL : Nat} {rm : Room} {rt : Option FieldType} {own : String} {res : Res} {ce sl : Nat} {M : Mem} {pc : Nat} {lv : List (Nat × Value)} {st : List Value} {β : Type} {r0 : β} {f : Option Nat → Option β} {index : Nat} {a : Option Nat} (hC : Ok C x cc nL rm rt own res) (hw : Cond.fieldLink own index RX2 (TX2 3).2.1 (TX2 3).2.2.1 ∈ BIG) (hdg : decode cc pc = .ok (.getfield index, 3)) (h : (gR 2 3 M a).bind f = some r0)
    (kk : ∀ v, gR 2 3 M a = some v → f v = some r0 → J C ce sl M (pc + 3) lv (rf v :: st)) : J C ce sl M pc lv (rf a :: st) := by
  obtain ⟨v, hv, hf⟩ := bnd h
  have kk := kk v hv hf
  obtain ⟨i, rfl, hv2⟩ := bnd hv
  split at hv2
  case isFalse => cases hv2
  case isTrue hi =>
  cases hv2
  obtain ⟨p, l, e, R, s, m, args, below, meth, c, H0, A, Q, nL0, G, ad0, n0⟩ := C
  obtain ⟨hx, hb, hml, hnl, hown, hts, hKK, hH0, hA, hlk, hrt, hR, hQ, hxt⟩ := hC
  intro ad H locs ls hW hAa hag hn hvl hvs hS hl
  have he := pool_at (G := G) (ad := ad) hi.1
  rw [ent_2 hi.2] at he
  have k2 := kk ad H locs ls hW hAa hag hn hvl (vs_c (Vok_rf (fun j e => hW.2.2 _ _ j hi.1 e)) (vs_t hvs)) hS hl
  rw [List.map_cons, phys_rf] at k2
  exact va_get (D := G.1) (ci := 2) (C := RX2) (T := TX2) (N := 9) hx hb hts inB2 hown hKK.1.1 hW.1 i he rfl 3 (by decide) (hts _ hw) (fun _ h9 => h9) rfl hdg k2
theorem J_p2_3 {C : JC} {x : Bool} {cc : ByteArray} {nL : Nat} {rm : Room} {rt : Option FieldType} {own : String} {res : Res} {ce sl : Nat} {M : Mem} {pc : Nat} {lv : List (Nat × Value)} {st : List Value} {β : Type} {r0 : β} {f : Mem → Option β} {index : Nat} {a : Option Nat} {v : Option Nat} (hC : Ok C x cc nL rm rt own res) (hin : isInit C) (hdc : (TX2 3).1 = own) (hw : Cond.fieldLink own index RX2 (TX2 3).2.1 (TX2 3).2.2.1 ∈ BIG) (hdg : decode cc pc = .ok (.putfield index, 3)) (h : (pR 2 3 M a v).bind f = some r0)
    (kk : ∀ M', pR 2 3 M a v = some M' → f M' = some r0 → J C ce sl M' (pc + 3) lv st) : J C ce sl M pc lv (rf v :: rf a :: st) := by
  obtain ⟨M', hv, hf⟩ := bnd h
  have kk := kk M' hv hf
  obtain ⟨i, rfl, hv2⟩ := bnd hv
  split at hv2
  case isFalse => cases hv2
  case isTrue hi =>
  cases hv2
  obtain ⟨p, l, e, R, s, m, args, below, meth, c, H0, A, Q, nL0, G, ad0, n0⟩ := C
  obtain ⟨hx, hb, hml, hnl, hown, hts, hKK, hH0, hA, hlk, hrt, hR, hQ, hxt⟩ := hC
  intro ad H locs ls hW hAa hag hn hvl hvs hS hl
  have he := pool_at (G := G) (ad := ad) hi.1
  rw [ent_2 hi.2] at he
  have hD := pool_D hW hAa
  have e2 : (pool G ad M).set i (ad i, .inr (2, [re ad (mR M i 0), re ad (mR M i 1), .int (mI M i 2), re ad v, re ad (mR M i 4), re ad (mR M i 5), .int (mI M i 6), re ad (mR M i 7), re ad (mR M i 8)])) = pool G ad (sR M i 3 v) := pool_set rfl hi.1 (by rw [ent_2 hi.2]; simp [sR, mI, mJ, mR, up2]) (fun j hj => ent_sR_ne hj)
  have e3 : phys ad (rf v) = re ad v := phys_rf ad v
  rw [List.map_cons, e3]
  skip
  exact va_putF (D := G.1) (ci := 2) (C := RX2) (T := TX2) (N := 9) (ty := tyX2 3) (v := re ad v) hx hb hts inB2 tyX2 tyX2_ok nmX2 hown hKK.1.1 hW.1 hD hS i he rfl 3 (by decide) (hts _ hw) (fun _ h9 => h9) rfl hin hdc (by decide +kernel) (by cases v <;> rfl) (by cases v <;> rfl) (Nat.le_of_ble_eq_true rfl) hdg (fun H1 locs1 hP1 hD1 hS1 => kk ad H1 locs1 ls ⟨by rw [← e2]; exact hP1, hW.2.1, wf_sR hW.2.2 (vs_h hvs)⟩ hAa hag hn hvl (vs_t (vs_t hvs)) hS1 hl)
theorem J_g2_4 {C : JC} {x : Bool} {cc : ByteArray} {nL : Nat} {rm : Room} {rt : Option FieldType} {own : String} {res : Res} {ce sl : Nat} {M : Mem} {pc : Nat} {lv : List (Nat × Value)} {st : List Value} {β : Type} {r0 : β} {f : Option Nat → Option β} {index : Nat} {a : Option Nat} (hC : Ok C x cc nL rm rt own res) (hw : Cond.fieldLink own index RX2 (TX2 4).2.1 (TX2 4).2.2.1 ∈ BIG) (hdg : decode cc pc = .ok (.getfield index, 3)) (h : (gR 2 4 M a).bind f = some r0)
    (kk : ∀ v, gR 2 4 M a = some v → f v = some r0 → J C ce sl M (pc + 3) lv (rf v :: st)) : J C ce sl M pc lv (rf a :: st) := by
  obtain ⟨v, hv, hf⟩ := bnd h
  have kk := kk v hv hf
  obtain ⟨i, rfl, hv2⟩ := bnd hv
  split at hv2
  case isFalse => cases hv2
  case isTrue hi =>
  cases hv2
  obtain ⟨p, l, e, R, s, m, args, below, meth, c, H0, A, Q, nL0, G, ad0, n0⟩ := C
  obtain ⟨hx, hb, hml, hnl, hown, hts, hKK, hH0, hA, hlk, hrt, hR, hQ, hxt⟩ := hC
  intro ad H locs ls hW hAa hag hn hvl hvs hS hl
  have he := pool_at (G := G) (ad := ad) hi.1
  rw [ent_2 hi.2] at he
  have k2 := kk ad H locs ls hW hAa hag hn hvl (vs_c (Vok_rf (fun j e => hW.2.2 _ _ j hi.1 e)) (vs_t hvs)) hS hl
  rw [List.map_cons, phys_rf] at k2
  exact va_get (D := G.1) (ci := 2) (C := RX2) (T := TX2) (N := 9) hx hb hts inB2 hown hKK.1.1 hW.1 i he rfl 4 (by decide) (hts _ hw) (fun _ h9 => h9) rfl hdg k2
theorem J_p2_4 {C : JC} {x : Bool} {cc : ByteArray} {nL : Nat} {rm : Room} {rt : Option FieldType} {own : String} {res : Res} {ce sl : Nat} {M : Mem} {pc : Nat} {lv : List (Nat × Value)} {st : List Value} {β : Type} {r0 : β} {f : Mem → Option β} {index : Nat} {a : Option Nat} {v : Option Nat} (hC : Ok C x cc nL rm rt own res) (hin : isInit C) (hdc : (TX2 4).1 = own) (hw : Cond.fieldLink own index RX2 (TX2 4).2.1 (TX2 4).2.2.1 ∈ BIG) (hdg : decode cc pc = .ok (.putfield index, 3)) (h : (pR 2 4 M a v).bind f = some r0)
    (kk : ∀ M', pR 2 4 M a v = some M' → f M' = some r0 → J C ce sl M' (pc + 3) lv st) : J C ce sl M pc lv (rf v :: rf a :: st) := by
  obtain ⟨M', hv, hf⟩ := bnd h
  have kk := kk M' hv hf
  obtain ⟨i, rfl, hv2⟩ := bnd hv
  split at hv2
  case isFalse => cases hv2
  case isTrue hi =>
  cases hv2
  obtain ⟨p, l, e, R, s, m, args, below, meth, c, H0, A, Q, nL0, G, ad0, n0⟩ := C
  obtain ⟨hx, hb, hml, hnl, hown, hts, hKK, hH0, hA, hlk, hrt, hR, hQ, hxt⟩ := hC
  intro ad H locs ls hW hAa hag hn hvl hvs hS hl
  have he := pool_at (G := G) (ad := ad) hi.1
  rw [ent_2 hi.2] at he
  have hD := pool_D hW hAa
  have e2 : (pool G ad M).set i (ad i, .inr (2, [re ad (mR M i 0), re ad (mR M i 1), .int (mI M i 2), re ad (mR M i 3), re ad v, re ad (mR M i 5), .int (mI M i 6), re ad (mR M i 7), re ad (mR M i 8)])) = pool G ad (sR M i 4 v) := pool_set rfl hi.1 (by rw [ent_2 hi.2]; simp [sR, mI, mJ, mR, up2]) (fun j hj => ent_sR_ne hj)
  have e3 : phys ad (rf v) = re ad v := phys_rf ad v
  rw [List.map_cons, e3]
  skip
  exact va_putF (D := G.1) (ci := 2) (C := RX2) (T := TX2) (N := 9) (ty := tyX2 4) (v := re ad v) hx hb hts inB2 tyX2 tyX2_ok nmX2 hown hKK.1.1 hW.1 hD hS i he rfl 4 (by decide) (hts _ hw) (fun _ h9 => h9) rfl hin hdc (by decide +kernel) (by cases v <;> rfl) (by cases v <;> rfl) (Nat.le_of_ble_eq_true rfl) hdg (fun H1 locs1 hP1 hD1 hS1 => kk ad H1 locs1 ls ⟨by rw [← e2]; exact hP1, hW.2.1, wf_sR hW.2.2 (vs_h hvs)⟩ hAa hag hn hvl (vs_t (vs_t hvs)) hS1 hl)
theorem J_g2_5 {C : JC} {x : Bool} {cc : ByteArray} {nL : Nat} {rm : Room} {rt : Option FieldType} {own : String} {res : Res} {ce sl : Nat} {M : Mem} {pc : Nat} {lv : List (Nat × Value)} {st : List Value} {β : Type} {r0 : β} {f : Option Nat → Option β} {index : Nat} {a : Option Nat} (hC : Ok C x cc nL rm rt own res) (hw : Cond.fieldLink own index RX2 (TX2 5).2.1 (TX2 5).2.2.1 ∈ BIG) (hdg : decode cc pc = .ok (.getfield index, 3)) (h : (gR 2 5 M a).bind f = some r0)
    (kk : ∀ v, gR 2 5 M a = some v → f v = some r0 → J C ce sl M (pc + 3) lv (rf v :: st)) : J C ce sl M pc lv (rf a :: st) := by
  obtain ⟨v, hv, hf⟩ := bnd h
  have kk := kk v hv hf
  obtain ⟨i, rfl, hv2⟩ := bnd hv
  split at hv2
  case isFalse => cases hv2
  case isTrue hi =>
  cases hv2
  obtain ⟨p, l, e, R, s, m, args, below, meth, c, H0, A, Q, nL0, G, ad0, n0⟩ := C
  obtain ⟨hx, hb, hml, hnl, hown, hts, hKK, hH0, hA, hlk, hrt, hR, hQ, hxt⟩ := hC
  intro ad H locs ls hW hAa hag hn hvl hvs hS hl
  have he := pool_at (G := G) (ad := ad) hi.1
  rw [ent_2 hi.2] at he
  have k2 := kk ad H locs ls hW hAa hag hn hvl (vs_c (Vok_rf (fun j e => hW.2.2 _ _ j hi.1 e)) (vs_t hvs)) hS hl
  rw [List.map_cons, phys_rf] at k2
  exact va_get (D := G.1) (ci := 2) (C := RX2) (T := TX2) (N := 9) hx hb hts inB2 hown hKK.1.1 hW.1 i he rfl 5 (by decide) (hts _ hw) (fun _ h9 => h9) rfl hdg k2
theorem J_p2_5 {C : JC} {x : Bool} {cc : ByteArray} {nL : Nat} {rm : Room} {rt : Option FieldType} {own : String} {res : Res} {ce sl : Nat} {M : Mem} {pc : Nat} {lv : List (Nat × Value)} {st : List Value} {β : Type} {r0 : β} {f : Mem → Option β} {index : Nat} {a : Option Nat} {v : Option Nat} (hC : Ok C x cc nL rm rt own res) (hin : isInit C) (hdc : (TX2 5).1 = own) (hw : Cond.fieldLink own index RX2 (TX2 5).2.1 (TX2 5).2.2.1 ∈ BIG) (hdg : decode cc pc = .ok (.putfield index, 3)) (h : (pR 2 5 M a v).bind f = some r0)
    (kk : ∀ M', pR 2 5 M a v = some M' → f M' = some r0 → J C ce sl M' (pc + 3) lv st) : J C ce sl M pc lv (rf v :: rf a :: st) := by
  obtain ⟨M', hv, hf⟩ := bnd h
  have kk := kk M' hv hf
  obtain ⟨i, rfl, hv2⟩ := bnd hv
  split at hv2
  case isFalse => cases hv2
  case isTrue hi =>
  cases hv2
  obtain ⟨p, l, e, R, s, m, args, below, meth, c, H0, A, Q, nL0, G, ad0, n0⟩ := C
  obtain ⟨hx, hb, hml, hnl, hown, hts, hKK, hH0, hA, hlk, hrt, hR, hQ, hxt⟩ := hC
  intro ad H locs ls hW hAa hag hn hvl hvs hS hl
  have he := pool_at (G := G) (ad := ad) hi.1
  rw [ent_2 hi.2] at he
  have hD := pool_D hW hAa
  have e2 : (pool G ad M).set i (ad i, .inr (2, [re ad (mR M i 0), re ad (mR M i 1), .int (mI M i 2), re ad (mR M i 3), re ad (mR M i 4), re ad v, .int (mI M i 6), re ad (mR M i 7), re ad (mR M i 8)])) = pool G ad (sR M i 5 v) := pool_set rfl hi.1 (by rw [ent_2 hi.2]; simp [sR, mI, mJ, mR, up2]) (fun j hj => ent_sR_ne hj)
  have e3 : phys ad (rf v) = re ad v := phys_rf ad v
  rw [List.map_cons, e3]
  skip
  exact va_putF (D := G.1) (ci := 2) (C := RX2) (T := TX2) (N := 9) (ty := tyX2 5) (v := re ad v) hx hb hts inB2 tyX2 tyX2_ok nmX2 hown hKK.1.1 hW.1 hD hS i he rfl 5 (by decide) (hts _ hw) (fun _ h9 => h9) rfl hin hdc (by decide +kernel) (by cases v <;> rfl) (by cases v <;> rfl) (Nat.le_of_ble_eq_true rfl) hdg (fun H1 locs1 hP1 hD1 hS1 => kk ad H1 locs1 ls ⟨by rw [← e2]; exact hP1, hW.2.1, wf_sR hW.2.2 (vs_h hvs)⟩ hAa hag hn hvl (vs_t (vs_t hvs)) hS1 hl)
theorem J_g2_6 {C : JC} {x : Bool} {cc : ByteArray} {nL : Nat} {rm : Room} {rt : Option FieldType} {own : String} {res : Res} {ce sl : Nat} {M : Mem} {pc : Nat} {lv : List (Nat × Value)} {st : List Value} {β : Type} {r0 : β} {f : Int32 → Option β} {index : Nat} {a : Option Nat} (hC : Ok C x cc nL rm rt own res) (hw : Cond.fieldLink own index RX2 (TX2 6).2.1 (TX2 6).2.2.1 ∈ BIG) (hdg : decode cc pc = .ok (.getfield index, 3)) (h : (gI 2 6 M a).bind f = some r0)
    (kk : ∀ v, gI 2 6 M a = some v → f v = some r0 → J C ce sl M (pc + 3) lv (.int v :: st)) : J C ce sl M pc lv (rf a :: st) := by
  obtain ⟨v, hv, hf⟩ := bnd h
  have kk := kk v hv hf
  obtain ⟨i, rfl, hv2⟩ := bnd hv
  split at hv2
  case isFalse => cases hv2
  case isTrue hi =>
  cases hv2
  obtain ⟨p, l, e, R, s, m, args, below, meth, c, H0, A, Q, nL0, G, ad0, n0⟩ := C
  obtain ⟨hx, hb, hml, hnl, hown, hts, hKK, hH0, hA, hlk, hrt, hR, hQ, hxt⟩ := hC
  intro ad H locs ls hW hAa hag hn hvl hvs hS hl
  have he := pool_at (G := G) (ad := ad) hi.1
  rw [ent_2 hi.2] at he
  have k2 := kk ad H locs ls hW hAa hag hn hvl (vs_c Vok_int (vs_t hvs)) hS hl
  skip
  exact va_get (D := G.1) (ci := 2) (C := RX2) (T := TX2) (N := 9) hx hb hts inB2 hown hKK.1.1 hW.1 i he rfl 6 (by decide) (hts _ hw) (fun _ h9 => h9) rfl hdg k2
theorem J_p2_6 {C : JC} {x : Bool} {cc : ByteArray} {nL : Nat} {rm : Room} {rt : Option FieldType} {own : String} {res : Res} {ce sl : Nat} {M : Mem} {pc : Nat} {lv : List (Nat × Value)} {st : List Value} {β : Type} {r0 : β} {f : Mem → Option β} {index : Nat} {a : Option Nat} {v : Int32} (hC : Ok C x cc nL rm rt own res) (hw : Cond.fieldLink own index RX2 (TX2 6).2.1 (TX2 6).2.2.1 ∈ BIG) (hdg : decode cc pc = .ok (.putfield index, 3)) (h : (pI 2 6 M a v).bind f = some r0)
    (kk : ∀ M', pI 2 6 M a v = some M' → f M' = some r0 → J C ce sl M' (pc + 3) lv st) : J C ce sl M pc lv (.int v :: rf a :: st) := by
  obtain ⟨M', hv, hf⟩ := bnd h
  have kk := kk M' hv hf
  obtain ⟨i, rfl, hv2⟩ := bnd hv
  split at hv2
  case isFalse => cases hv2
  case isTrue hi =>
  cases hv2
  obtain ⟨p, l, e, R, s, m, args, below, meth, c, H0, A, Q, nL0, G, ad0, n0⟩ := C
  obtain ⟨hx, hb, hml, hnl, hown, hts, hKK, hH0, hA, hlk, hrt, hR, hQ, hxt⟩ := hC
  intro ad H locs ls hW hAa hag hn hvl hvs hS hl
  have he := pool_at (G := G) (ad := ad) hi.1
  rw [ent_2 hi.2] at he
  have hD := pool_D hW hAa
  have e2 : (pool G ad M).set i (ad i, .inr (2, [re ad (mR M i 0), re ad (mR M i 1), .int (mI M i 2), re ad (mR M i 3), re ad (mR M i 4), re ad (mR M i 5), .int v, re ad (mR M i 7), re ad (mR M i 8)])) = pool G ad (sI M i 6 v) := pool_set rfl hi.1 (by rw [ent_2 hi.2]; simp [sI, mI, mJ, mR, up2]) (fun j hj => ent_sI_ne hj)
  skip
  skip
  skip
  exact va_put (D := G.1) (ci := 2) (C := RX2) (T := TX2) (N := 9) (ty := tyX2 6) (v := .int v) hx hb hts inB2 tyX2 tyX2_ok nmX2 hown hKK.1.1 hW.1 hD hS i he rfl 6 (by decide) (hts _ hw) (fun _ h9 => h9) rfl (by decide +kernel) rfl rfl (Nat.le_of_ble_eq_true rfl) hdg (fun H1 locs1 hP1 hD1 hS1 => kk ad H1 locs1 ls ⟨by rw [← e2]; exact hP1, hW.2.1, hW.2.2⟩ hAa hag hn hvl (vs_t (vs_t hvs)) hS1 hl)
theorem J_g2_7 {C : JC} {x : Bool} {cc : ByteArray} {nL : Nat} {rm : Room} {rt : Option FieldType} {own : String} {res : Res} {ce sl : Nat} {M : Mem} {pc : Nat} {lv : List (Nat × Value)} {st : List Value} {β : Type} {r0 : β} {f : Option Nat → Option β} {index : Nat} {a : Option Nat} (hC : Ok C x cc nL rm rt own res) (hw : Cond.fieldLink own index RX2 (TX2 7).2.1 (TX2 7).2.2.1 ∈ BIG) (hdg : decode cc pc = .ok (.getfield index, 3)) (h : (gR 2 7 M a).bind f = some r0)
    (kk : ∀ v, gR 2 7 M a = some v → f v = some r0 → J C ce sl M (pc + 3) lv (rf v :: st)) : J C ce sl M pc lv (rf a :: st) := by
  obtain ⟨v, hv, hf⟩ := bnd h
  have kk := kk v hv hf
  obtain ⟨i, rfl, hv2⟩ := bnd hv
  split at hv2
  case isFalse => cases hv2
  case isTrue hi =>
  cases hv2
  obtain ⟨p, l, e, R, s, m, args, below, meth, c, H0, A, Q, nL0, G, ad0, n0⟩ := C
  obtain ⟨hx, hb, hml, hnl, hown, hts, hKK, hH0, hA, hlk, hrt, hR, hQ, hxt⟩ := hC
  intro ad H locs ls hW hAa hag hn hvl hvs hS hl
  have he := pool_at (G := G) (ad := ad) hi.1
  rw [ent_2 hi.2] at he
  have k2 := kk ad H locs ls hW hAa hag hn hvl (vs_c (Vok_rf (fun j e => hW.2.2 _ _ j hi.1 e)) (vs_t hvs)) hS hl
  rw [List.map_cons, phys_rf] at k2
  exact va_get (D := G.1) (ci := 2) (C := RX2) (T := TX2) (N := 9) hx hb hts inB2 hown hKK.1.1 hW.1 i he rfl 7 (by decide) (hts _ hw) (fun _ h9 => h9) rfl hdg k2
theorem J_p2_7 {C : JC} {x : Bool} {cc : ByteArray} {nL : Nat} {rm : Room} {rt : Option FieldType} {own : String} {res : Res} {ce sl : Nat} {M : Mem} {pc : Nat} {lv : List (Nat × Value)} {st : List Value} {β : Type} {r0 : β} {f : Mem → Option β} {index : Nat} {a : Option Nat} {v : Option Nat} (hC : Ok C x cc nL rm rt own res) (hin : isInit C) (hdc : (TX2 7).1 = own) (hw : Cond.fieldLink own index RX2 (TX2 7).2.1 (TX2 7).2.2.1 ∈ BIG) (hdg : decode cc pc = .ok (.putfield index, 3)) (h : (pR 2 7 M a v).bind f = some r0)
    (kk : ∀ M', pR 2 7 M a v = some M' → f M' = some r0 → J C ce sl M' (pc + 3) lv st) : J C ce sl M pc lv (rf v :: rf a :: st) := by
  obtain ⟨M', hv, hf⟩ := bnd h
  have kk := kk M' hv hf
  obtain ⟨i, rfl, hv2⟩ := bnd hv
  split at hv2
  case isFalse => cases hv2
  case isTrue hi =>
  cases hv2
  obtain ⟨p, l, e, R, s, m, args, below, meth, c, H0, A, Q, nL0, G, ad0, n0⟩ := C
  obtain ⟨hx, hb, hml, hnl, hown, hts, hKK, hH0, hA, hlk, hrt, hR, hQ, hxt⟩ := hC
  intro ad H locs ls hW hAa hag hn hvl hvs hS hl
  have he := pool_at (G := G) (ad := ad) hi.1
  rw [ent_2 hi.2] at he
  have hD := pool_D hW hAa
  have e2 : (pool G ad M).set i (ad i, .inr (2, [re ad (mR M i 0), re ad (mR M i 1), .int (mI M i 2), re ad (mR M i 3), re ad (mR M i 4), re ad (mR M i 5), .int (mI M i 6), re ad v, re ad (mR M i 8)])) = pool G ad (sR M i 7 v) := pool_set rfl hi.1 (by rw [ent_2 hi.2]; simp [sR, mI, mJ, mR, up2]) (fun j hj => ent_sR_ne hj)
  have e3 : phys ad (rf v) = re ad v := phys_rf ad v
  rw [List.map_cons, e3]
  skip
  exact va_putF (D := G.1) (ci := 2) (C := RX2) (T := TX2) (N := 9) (ty := tyX2 7) (v := re ad v) hx hb hts inB2 tyX2 tyX2_ok nmX2 hown hKK.1.1 hW.1 hD hS i he rfl 7 (by decide) (hts _ hw) (fun _ h9 => h9) rfl hin hdc (by decide +kernel) (by cases v <;> rfl) (by cases v <;> rfl) (Nat.le_of_ble_eq_true rfl) hdg (fun H1 locs1 hP1 hD1 hS1 => kk ad H1 locs1 ls ⟨by rw [← e2]; exact hP1, hW.2.1, wf_sR hW.2.2 (vs_h hvs)⟩ hAa hag hn hvl (vs_t (vs_t hvs)) hS1 hl)
theorem J_g2_8 {C : JC} {x : Bool} {cc : ByteArray} {nL : Nat} {rm : Room} {rt : Option FieldType} {own : String} {res : Res} {ce sl : Nat} {M : Mem} {pc : Nat} {lv : List (Nat × Value)} {st : List Value} {β : Type} {r0 : β} {f : Option Nat → Option β} {index : Nat} {a : Option Nat} (hC : Ok C x cc nL rm rt own res) (hw : Cond.fieldLink own index RX2 (TX2 8).2.1 (TX2 8).2.2.1 ∈ BIG) (hdg : decode cc pc = .ok (.getfield index, 3)) (h : (gR 2 8 M a).bind f = some r0)
    (kk : ∀ v, gR 2 8 M a = some v → f v = some r0 → J C ce sl M (pc + 3) lv (rf v :: st)) : J C ce sl M pc lv (rf a :: st) := by
  obtain ⟨v, hv, hf⟩ := bnd h
  have kk := kk v hv hf
  obtain ⟨i, rfl, hv2⟩ := bnd hv
  split at hv2
  case isFalse => cases hv2
  case isTrue hi =>
  cases hv2
  obtain ⟨p, l, e, R, s, m, args, below, meth, c, H0, A, Q, nL0, G, ad0, n0⟩ := C
  obtain ⟨hx, hb, hml, hnl, hown, hts, hKK, hH0, hA, hlk, hrt, hR, hQ, hxt⟩ := hC
  intro ad H locs ls hW hAa hag hn hvl hvs hS hl
  have he := pool_at (G := G) (ad := ad) hi.1
  rw [ent_2 hi.2] at he
  have k2 := kk ad H locs ls hW hAa hag hn hvl (vs_c (Vok_rf (fun j e => hW.2.2 _ _ j hi.1 e)) (vs_t hvs)) hS hl
  rw [List.map_cons, phys_rf] at k2
  exact va_get (D := G.1) (ci := 2) (C := RX2) (T := TX2) (N := 9) hx hb hts inB2 hown hKK.1.1 hW.1 i he rfl 8 (by decide) (hts _ hw) (fun _ h9 => h9) rfl hdg k2
theorem J_p2_8 {C : JC} {x : Bool} {cc : ByteArray} {nL : Nat} {rm : Room} {rt : Option FieldType} {own : String} {res : Res} {ce sl : Nat} {M : Mem} {pc : Nat} {lv : List (Nat × Value)} {st : List Value} {β : Type} {r0 : β} {f : Mem → Option β} {index : Nat} {a : Option Nat} {v : Option Nat} (hC : Ok C x cc nL rm rt own res) (hin : isInit C) (hdc : (TX2 8).1 = own) (hw : Cond.fieldLink own index RX2 (TX2 8).2.1 (TX2 8).2.2.1 ∈ BIG) (hdg : decode cc pc = .ok (.putfield index, 3)) (h : (pR 2 8 M a v).bind f = some r0)
    (kk : ∀ M', pR 2 8 M a v = some M' → f M' = some r0 → J C ce sl M' (pc + 3) lv st) : J C ce sl M pc lv (rf v :: rf a :: st) := by
  obtain ⟨M', hv, hf⟩ := bnd h
  have kk := kk M' hv hf
  obtain ⟨i, rfl, hv2⟩ := bnd hv
  split at hv2
  case isFalse => cases hv2
  case isTrue hi =>
  cases hv2
  obtain ⟨p, l, e, R, s, m, args, below, meth, c, H0, A, Q, nL0, G, ad0, n0⟩ := C
  obtain ⟨hx, hb, hml, hnl, hown, hts, hKK, hH0, hA, hlk, hrt, hR, hQ, hxt⟩ := hC
  intro ad H locs ls hW hAa hag hn hvl hvs hS hl
  have he := pool_at (G := G) (ad := ad) hi.1
  rw [ent_2 hi.2] at he
  have hD := pool_D hW hAa
  have e2 : (pool G ad M).set i (ad i, .inr (2, [re ad (mR M i 0), re ad (mR M i 1), .int (mI M i 2), re ad (mR M i 3), re ad (mR M i 4), re ad (mR M i 5), .int (mI M i 6), re ad (mR M i 7), re ad v])) = pool G ad (sR M i 8 v) := pool_set rfl hi.1 (by rw [ent_2 hi.2]; simp [sR, mI, mJ, mR, up2]) (fun j hj => ent_sR_ne hj)
  have e3 : phys ad (rf v) = re ad v := phys_rf ad v
  rw [List.map_cons, e3]
  skip
  exact va_putF (D := G.1) (ci := 2) (C := RX2) (T := TX2) (N := 9) (ty := tyX2 8) (v := re ad v) hx hb hts inB2 tyX2 tyX2_ok nmX2 hown hKK.1.1 hW.1 hD hS i he rfl 8 (by decide) (hts _ hw) (fun _ h9 => h9) rfl hin hdc (by decide +kernel) (by cases v <;> rfl) (by cases v <;> rfl) (Nat.le_of_ble_eq_true rfl) hdg (fun H1 locs1 hP1 hD1 hS1 => kk ad H1 locs1 ls ⟨by rw [← e2]; exact hP1, hW.2.1, wf_sR hW.2.2 (vs_h hvs)⟩ hAa hag hn hvl (vs_t (vs_t hvs)) hS1 hl)
theorem J_g3_0 {C : JC} {x : Bool} {cc : ByteArray} {nL : Nat} {rm : Room} {rt : Option FieldType} {own : String} {res : Res} {ce sl : Nat} {M : Mem} {pc : Nat} {lv : List (Nat × Value)} {st : List Value} {β : Type} {r0 : β} {f : Int32 → Option β} {index : Nat} {a : Option Nat} (hC : Ok C x cc nL rm rt own res) (hw : Cond.fieldLink own index RX3 (TX3 0).2.1 (TX3 0).2.2.1 ∈ BIG) (hdg : decode cc pc = .ok (.getfield index, 3)) (h : (gI 3 0 M a).bind f = some r0)
    (kk : ∀ v, gI 3 0 M a = some v → f v = some r0 → J C ce sl M (pc + 3) lv (.int v :: st)) : J C ce sl M pc lv (rf a :: st) := by
  obtain ⟨v, hv, hf⟩ := bnd h
  have kk := kk v hv hf
  obtain ⟨i, rfl, hv2⟩ := bnd hv
  split at hv2
  case isFalse => cases hv2
  case isTrue hi =>
  cases hv2
  obtain ⟨p, l, e, R, s, m, args, below, meth, c, H0, A, Q, nL0, G, ad0, n0⟩ := C
  obtain ⟨hx, hb, hml, hnl, hown, hts, hKK, hH0, hA, hlk, hrt, hR, hQ, hxt⟩ := hC
  intro ad H locs ls hW hAa hag hn hvl hvs hS hl
  have he := pool_at (G := G) (ad := ad) hi.1
  rw [ent_3 hi.2] at he
  have k2 := kk ad H locs ls hW hAa hag hn hvl (vs_c Vok_int (vs_t hvs)) hS hl
  skip
  exact va_get (D := G.1) (ci := 3) (C := RX3) (T := TX3) (N := 13) hx hb hts inB3 hown hKK.1.1 hW.1 i he rfl 0 (by decide) (hts _ hw) (fun _ h9 => h9) rfl hdg k2
theorem J_p3_0 {C : JC} {x : Bool} {cc : ByteArray} {nL : Nat} {rm : Room} {rt : Option FieldType} {own : String} {res : Res} {ce sl : Nat} {M : Mem} {pc : Nat} {lv : List (Nat × Value)} {st : List Value} {β : Type} {r0 : β} {f : Mem → Option β} {index : Nat} {a : Option Nat} {v : Int32} (hC : Ok C x cc nL rm rt own res) (hw : Cond.fieldLink own index RX3 (TX3 0).2.1 (TX3 0).2.2.1 ∈ BIG) (hdg : decode cc pc = .ok (.putfield index, 3)) (h : (pI 3 0 M a v).bind f = some r0)
    (kk : ∀ M', pI 3 0 M a v = some M' → f M' = some r0 → J C ce sl M' (pc + 3) lv st) : J C ce sl M pc lv (.int v :: rf a :: st) := by
  obtain ⟨M', hv, hf⟩ := bnd h
  have kk := kk M' hv hf
  obtain ⟨i, rfl, hv2⟩ := bnd hv
  split at hv2
  case isFalse => cases hv2
  case isTrue hi =>
  cases hv2
  obtain ⟨p, l, e, R, s, m, args, below, meth, c, H0, A, Q, nL0, G, ad0, n0⟩ := C
  obtain ⟨hx, hb, hml, hnl, hown, hts, hKK, hH0, hA, hlk, hrt, hR, hQ, hxt⟩ := hC
  intro ad H locs ls hW hAa hag hn hvl hvs hS hl
  have he := pool_at (G := G) (ad := ad) hi.1
  rw [ent_3 hi.2] at he
  have hD := pool_D hW hAa
  have e2 : (pool G ad M).set i (ad i, .inr (3, [.int v, re ad (mR M i 1), re ad (mR M i 2), .int (mI M i 3), re ad (mR M i 4), re ad (mR M i 5), re ad (mR M i 6), .int (mI M i 7), re ad (mR M i 8), re ad (mR M i 9), .int (mI M i 10), re ad (mR M i 11), .long (mJ M i 12)])) = pool G ad (sI M i 0 v) := pool_set rfl hi.1 (by rw [ent_3 hi.2]; simp [sI, mI, mJ, mR, up2]) (fun j hj => ent_sI_ne hj)
  skip
  skip
  skip
  exact va_put (D := G.1) (ci := 3) (C := RX3) (T := TX3) (N := 13) (ty := tyX3 0) (v := .int v) hx hb hts inB3 tyX3 tyX3_ok nmX3 hown hKK.1.1 hW.1 hD hS i he rfl 0 (by decide) (hts _ hw) (fun _ h9 => h9) rfl (by decide +kernel) rfl rfl (Nat.le_of_ble_eq_true rfl) hdg (fun H1 locs1 hP1 hD1 hS1 => kk ad H1 locs1 ls ⟨by rw [← e2]; exact hP1, hW.2.1, hW.2.2⟩ hAa hag hn hvl (vs_t (vs_t hvs)) hS1 hl)
theorem J_g3_1 {C : JC} {x : Bool} {cc : ByteArray} {nL : Nat} {rm : Room} {rt : Option FieldType} {own : String} {res : Res} {ce sl : Nat} {M : Mem} {pc : Nat} {lv : List (Nat × Value)} {st : List Value} {β : Type} {r0 : β} {f : Option Nat → Option β} {index : Nat} {a : Option Nat} (hC : Ok C x cc nL rm rt own res) (hw : Cond.fieldLink own index RX3 (TX3 1).2.1 (TX3 1).2.2.1 ∈ BIG) (hdg : decode cc pc = .ok (.getfield index, 3)) (h : (gR 3 1 M a).bind f = some r0)
    (kk : ∀ v, gR 3 1 M a = some v → f v = some r0 → J C ce sl M (pc + 3) lv (rf v :: st)) : J C ce sl M pc lv (rf a :: st) := by
  obtain ⟨v, hv, hf⟩ := bnd h
  have kk := kk v hv hf
  obtain ⟨i, rfl, hv2⟩ := bnd hv
  split at hv2
  case isFalse => cases hv2
  case isTrue hi =>
  cases hv2
  obtain ⟨p, l, e, R, s, m, args, below, meth, c, H0, A, Q, nL0, G, ad0, n0⟩ := C
  obtain ⟨hx, hb, hml, hnl, hown, hts, hKK, hH0, hA, hlk, hrt, hR, hQ, hxt⟩ := hC
  intro ad H locs ls hW hAa hag hn hvl hvs hS hl
  have he := pool_at (G := G) (ad := ad) hi.1
  rw [ent_3 hi.2] at he
  have k2 := kk ad H locs ls hW hAa hag hn hvl (vs_c (Vok_rf (fun j e => hW.2.2 _ _ j hi.1 e)) (vs_t hvs)) hS hl
  rw [List.map_cons, phys_rf] at k2
  exact va_get (D := G.1) (ci := 3) (C := RX3) (T := TX3) (N := 13) hx hb hts inB3 hown hKK.1.1 hW.1 i he rfl 1 (by decide) (hts _ hw) (fun _ h9 => h9) rfl hdg k2
theorem J_p3_1 {C : JC} {x : Bool} {cc : ByteArray} {nL : Nat} {rm : Room} {rt : Option FieldType} {own : String} {res : Res} {ce sl : Nat} {M : Mem} {pc : Nat} {lv : List (Nat × Value)} {st : List Value} {β : Type} {r0 : β} {f : Mem → Option β} {index : Nat} {a : Option Nat} {v : Option Nat} (hC : Ok C x cc nL rm rt own res) (hin : isInit C) (hdc : (TX3 1).1 = own) (hw : Cond.fieldLink own index RX3 (TX3 1).2.1 (TX3 1).2.2.1 ∈ BIG) (hdg : decode cc pc = .ok (.putfield index, 3)) (h : (pR 3 1 M a v).bind f = some r0)
    (kk : ∀ M', pR 3 1 M a v = some M' → f M' = some r0 → J C ce sl M' (pc + 3) lv st) : J C ce sl M pc lv (rf v :: rf a :: st) := by
  obtain ⟨M', hv, hf⟩ := bnd h
  have kk := kk M' hv hf
  obtain ⟨i, rfl, hv2⟩ := bnd hv
  split at hv2
  case isFalse => cases hv2
  case isTrue hi =>
  cases hv2
  obtain ⟨p, l, e, R, s, m, args, below, meth, c, H0, A, Q, nL0, G, ad0, n0⟩ := C
  obtain ⟨hx, hb, hml, hnl, hown, hts, hKK, hH0, hA, hlk, hrt, hR, hQ, hxt⟩ := hC
  intro ad H locs ls hW hAa hag hn hvl hvs hS hl
  have he := pool_at (G := G) (ad := ad) hi.1
  rw [ent_3 hi.2] at he
  have hD := pool_D hW hAa
  have e2 : (pool G ad M).set i (ad i, .inr (3, [.int (mI M i 0), re ad v, re ad (mR M i 2), .int (mI M i 3), re ad (mR M i 4), re ad (mR M i 5), re ad (mR M i 6), .int (mI M i 7), re ad (mR M i 8), re ad (mR M i 9), .int (mI M i 10), re ad (mR M i 11), .long (mJ M i 12)])) = pool G ad (sR M i 1 v) := pool_set rfl hi.1 (by rw [ent_3 hi.2]; simp [sR, mI, mJ, mR, up2]) (fun j hj => ent_sR_ne hj)
  have e3 : phys ad (rf v) = re ad v := phys_rf ad v
  rw [List.map_cons, e3]
  skip
  exact va_putF (D := G.1) (ci := 3) (C := RX3) (T := TX3) (N := 13) (ty := tyX3 1) (v := re ad v) hx hb hts inB3 tyX3 tyX3_ok nmX3 hown hKK.1.1 hW.1 hD hS i he rfl 1 (by decide) (hts _ hw) (fun _ h9 => h9) rfl hin hdc (by decide +kernel) (by cases v <;> rfl) (by cases v <;> rfl) (Nat.le_of_ble_eq_true rfl) hdg (fun H1 locs1 hP1 hD1 hS1 => kk ad H1 locs1 ls ⟨by rw [← e2]; exact hP1, hW.2.1, wf_sR hW.2.2 (vs_h hvs)⟩ hAa hag hn hvl (vs_t (vs_t hvs)) hS1 hl)
theorem J_g3_2 {C : JC} {x : Bool} {cc : ByteArray} {nL : Nat} {rm : Room} {rt : Option FieldType} {own : String} {res : Res} {ce sl : Nat} {M : Mem} {pc : Nat} {lv : List (Nat × Value)} {st : List Value} {β : Type} {r0 : β} {f : Option Nat → Option β} {index : Nat} {a : Option Nat} (hC : Ok C x cc nL rm rt own res) (hw : Cond.fieldLink own index RX3 (TX3 2).2.1 (TX3 2).2.2.1 ∈ BIG) (hdg : decode cc pc = .ok (.getfield index, 3)) (h : (gR 3 2 M a).bind f = some r0)
    (kk : ∀ v, gR 3 2 M a = some v → f v = some r0 → J C ce sl M (pc + 3) lv (rf v :: st)) : J C ce sl M pc lv (rf a :: st) := by
  obtain ⟨v, hv, hf⟩ := bnd h
  have kk := kk v hv hf
  obtain ⟨i, rfl, hv2⟩ := bnd hv
  split at hv2
  case isFalse => cases hv2
  case isTrue hi =>
  cases hv2
  obtain ⟨p, l, e, R, s, m, args, below, meth, c, H0, A, Q, nL0, G, ad0, n0⟩ := C
  obtain ⟨hx, hb, hml, hnl, hown, hts, hKK, hH0, hA, hlk, hrt, hR, hQ, hxt⟩ := hC
  intro ad H locs ls hW hAa hag hn hvl hvs hS hl
  have he := pool_at (G := G) (ad := ad) hi.1
  rw [ent_3 hi.2] at he
  have k2 := kk ad H locs ls hW hAa hag hn hvl (vs_c (Vok_rf (fun j e => hW.2.2 _ _ j hi.1 e)) (vs_t hvs)) hS hl
  rw [List.map_cons, phys_rf] at k2
  exact va_get (D := G.1) (ci := 3) (C := RX3) (T := TX3) (N := 13) hx hb hts inB3 hown hKK.1.1 hW.1 i he rfl 2 (by decide) (hts _ hw) (fun _ h9 => h9) rfl hdg k2
theorem J_p3_2 {C : JC} {x : Bool} {cc : ByteArray} {nL : Nat} {rm : Room} {rt : Option FieldType} {own : String} {res : Res} {ce sl : Nat} {M : Mem} {pc : Nat} {lv : List (Nat × Value)} {st : List Value} {β : Type} {r0 : β} {f : Mem → Option β} {index : Nat} {a : Option Nat} {v : Option Nat} (hC : Ok C x cc nL rm rt own res) (hin : isInit C) (hdc : (TX3 2).1 = own) (hw : Cond.fieldLink own index RX3 (TX3 2).2.1 (TX3 2).2.2.1 ∈ BIG) (hdg : decode cc pc = .ok (.putfield index, 3)) (h : (pR 3 2 M a v).bind f = some r0)
    (kk : ∀ M', pR 3 2 M a v = some M' → f M' = some r0 → J C ce sl M' (pc + 3) lv st) : J C ce sl M pc lv (rf v :: rf a :: st) := by
  obtain ⟨M', hv, hf⟩ := bnd h
  have kk := kk M' hv hf
  obtain ⟨i, rfl, hv2⟩ := bnd hv
  split at hv2
  case isFalse => cases hv2
  case isTrue hi =>
  cases hv2
  obtain ⟨p, l, e, R, s, m, args, below, meth, c, H0, A, Q, nL0, G, ad0, n0⟩ := C
  obtain ⟨hx, hb, hml, hnl, hown, hts, hKK, hH0, hA, hlk, hrt, hR, hQ, hxt⟩ := hC
  intro ad H locs ls hW hAa hag hn hvl hvs hS hl
  have he := pool_at (G := G) (ad := ad) hi.1
  rw [ent_3 hi.2] at he
  have hD := pool_D hW hAa
  have e2 : (pool G ad M).set i (ad i, .inr (3, [.int (mI M i 0), re ad (mR M i 1), re ad v, .int (mI M i 3), re ad (mR M i 4), re ad (mR M i 5), re ad (mR M i 6), .int (mI M i 7), re ad (mR M i 8), re ad (mR M i 9), .int (mI M i 10), re ad (mR M i 11), .long (mJ M i 12)])) = pool G ad (sR M i 2 v) := pool_set rfl hi.1 (by rw [ent_3 hi.2]; simp [sR, mI, mJ, mR, up2]) (fun j hj => ent_sR_ne hj)
  have e3 : phys ad (rf v) = re ad v := phys_rf ad v
  rw [List.map_cons, e3]
  skip
  exact va_putF (D := G.1) (ci := 3) (C := RX3) (T := TX3) (N := 13) (ty := tyX3 2) (v := re ad v) hx hb hts inB3 tyX3 tyX3_ok nmX3 hown hKK.1.1 hW.1 hD hS i he rfl 2 (by decide) (hts _ hw) (fun _ h9 => h9) rfl hin hdc (by decide +kernel) (by cases v <;> rfl) (by cases v <;> rfl) (Nat.le_of_ble_eq_true rfl) hdg (fun H1 locs1 hP1 hD1 hS1 => kk ad H1 locs1 ls ⟨by rw [← e2]; exact hP1, hW.2.1, wf_sR hW.2.2 (vs_h hvs)⟩ hAa hag hn hvl (vs_t (vs_t hvs)) hS1 hl)
theorem J_g3_3 {C : JC} {x : Bool} {cc : ByteArray} {nL : Nat} {rm : Room} {rt : Option FieldType} {own : String} {res : Res} {ce sl : Nat} {M : Mem} {pc : Nat} {lv : List (Nat × Value)} {st : List Value} {β : Type} {r0 : β} {f : Int32 → Option β} {index : Nat} {a : Option Nat} (hC : Ok C x cc nL rm rt own res) (hw : Cond.fieldLink own index RX3 (TX3 3).2.1 (TX3 3).2.2.1 ∈ BIG) (hdg : decode cc pc = .ok (.getfield index, 3)) (h : (gI 3 3 M a).bind f = some r0)
    (kk : ∀ v, gI 3 3 M a = some v → f v = some r0 → J C ce sl M (pc + 3) lv (.int v :: st)) : J C ce sl M pc lv (rf a :: st) := by
  obtain ⟨v, hv, hf⟩ := bnd h
  have kk := kk v hv hf
  obtain ⟨i, rfl, hv2⟩ := bnd hv
  split at hv2
  case isFalse => cases hv2
  case isTrue hi =>
  cases hv2
  obtain ⟨p, l, e, R, s, m, args, below, meth, c, H0, A, Q, nL0, G, ad0, n0⟩ := C
  obtain ⟨hx, hb, hml, hnl, hown, hts, hKK, hH0, hA, hlk, hrt, hR, hQ, hxt⟩ := hC
  intro ad H locs ls hW hAa hag hn hvl hvs hS hl
  have he := pool_at (G := G) (ad := ad) hi.1
  rw [ent_3 hi.2] at he
  have k2 := kk ad H locs ls hW hAa hag hn hvl (vs_c Vok_int (vs_t hvs)) hS hl
  skip
  exact va_get (D := G.1) (ci := 3) (C := RX3) (T := TX3) (N := 13) hx hb hts inB3 hown hKK.1.1 hW.1 i he rfl 3 (by decide) (hts _ hw) (fun _ h9 => h9) rfl hdg k2
theorem J_p3_3 {C : JC} {x : Bool} {cc : ByteArray} {nL : Nat} {rm : Room} {rt : Option FieldType} {own : String} {res : Res} {ce sl : Nat} {M : Mem} {pc : Nat} {lv : List (Nat × Value)} {st : List Value} {β : Type} {r0 : β} {f : Mem → Option β} {index : Nat} {a : Option Nat} {v : Int32} (hC : Ok C x cc nL rm rt own res) (hw : Cond.fieldLink own index RX3 (TX3 3).2.1 (TX3 3).2.2.1 ∈ BIG) (hdg : decode cc pc = .ok (.putfield index, 3)) (h : (pI 3 3 M a v).bind f = some r0)
    (kk : ∀ M', pI 3 3 M a v = some M' → f M' = some r0 → J C ce sl M' (pc + 3) lv st) : J C ce sl M pc lv (.int v :: rf a :: st) := by
  obtain ⟨M', hv, hf⟩ := bnd h
  have kk := kk M' hv hf
  obtain ⟨i, rfl, hv2⟩ := bnd hv
  split at hv2
  case isFalse => cases hv2
  case isTrue hi =>
  cases hv2
  obtain ⟨p, l, e, R, s, m, args, below, meth, c, H0, A, Q, nL0, G, ad0, n0⟩ := C
  obtain ⟨hx, hb, hml, hnl, hown, hts, hKK, hH0, hA, hlk, hrt, hR, hQ, hxt⟩ := hC
  intro ad H locs ls hW hAa hag hn hvl hvs hS hl
  have he := pool_at (G := G) (ad := ad) hi.1
  rw [ent_3 hi.2] at he
  have hD := pool_D hW hAa
  have e2 : (pool G ad M).set i (ad i, .inr (3, [.int (mI M i 0), re ad (mR M i 1), re ad (mR M i 2), .int v, re ad (mR M i 4), re ad (mR M i 5), re ad (mR M i 6), .int (mI M i 7), re ad (mR M i 8), re ad (mR M i 9), .int (mI M i 10), re ad (mR M i 11), .long (mJ M i 12)])) = pool G ad (sI M i 3 v) := pool_set rfl hi.1 (by rw [ent_3 hi.2]; simp [sI, mI, mJ, mR, up2]) (fun j hj => ent_sI_ne hj)
  skip
  skip
  skip
  exact va_put (D := G.1) (ci := 3) (C := RX3) (T := TX3) (N := 13) (ty := tyX3 3) (v := .int v) hx hb hts inB3 tyX3 tyX3_ok nmX3 hown hKK.1.1 hW.1 hD hS i he rfl 3 (by decide) (hts _ hw) (fun _ h9 => h9) rfl (by decide +kernel) rfl rfl (Nat.le_of_ble_eq_true rfl) hdg (fun H1 locs1 hP1 hD1 hS1 => kk ad H1 locs1 ls ⟨by rw [← e2]; exact hP1, hW.2.1, hW.2.2⟩ hAa hag hn hvl (vs_t (vs_t hvs)) hS1 hl)
theorem J_g3_4 {C : JC} {x : Bool} {cc : ByteArray} {nL : Nat} {rm : Room} {rt : Option FieldType} {own : String} {res : Res} {ce sl : Nat} {M : Mem} {pc : Nat} {lv : List (Nat × Value)} {st : List Value} {β : Type} {r0 : β} {f : Option Nat → Option β} {index : Nat} {a : Option Nat} (hC : Ok C x cc nL rm rt own res) (hw : Cond.fieldLink own index RX3 (TX3 4).2.1 (TX3 4).2.2.1 ∈ BIG) (hdg : decode cc pc = .ok (.getfield index, 3)) (h : (gR 3 4 M a).bind f = some r0)
    (kk : ∀ v, gR 3 4 M a = some v → f v = some r0 → J C ce sl M (pc + 3) lv (rf v :: st)) : J C ce sl M pc lv (rf a :: st) := by
  obtain ⟨v, hv, hf⟩ := bnd h
  have kk := kk v hv hf
  obtain ⟨i, rfl, hv2⟩ := bnd hv
  split at hv2
  case isFalse => cases hv2
  case isTrue hi =>
  cases hv2
  obtain ⟨p, l, e, R, s, m, args, below, meth, c, H0, A, Q, nL0, G, ad0, n0⟩ := C
  obtain ⟨hx, hb, hml, hnl, hown, hts, hKK, hH0, hA, hlk, hrt, hR, hQ, hxt⟩ := hC
  intro ad H locs ls hW hAa hag hn hvl hvs hS hl
  have he := pool_at (G := G) (ad := ad) hi.1
  rw [ent_3 hi.2] at he
  have k2 := kk ad H locs ls hW hAa hag hn hvl (vs_c (Vok_rf (fun j e => hW.2.2 _ _ j hi.1 e)) (vs_t hvs)) hS hl
  rw [List.map_cons, phys_rf] at k2
  exact va_get (D := G.1) (ci := 3) (C := RX3) (T := TX3) (N := 13) hx hb hts inB3 hown hKK.1.1 hW.1 i he rfl 4 (by decide) (hts _ hw) (fun _ h9 => h9) rfl hdg k2
theorem J_p3_4 {C : JC} {x : Bool} {cc : ByteArray} {nL : Nat} {rm : Room} {rt : Option FieldType} {own : String} {res : Res} {ce sl : Nat} {M : Mem} {pc : Nat} {lv : List (Nat × Value)} {st : List Value} {β : Type} {r0 : β} {f : Mem → Option β} {index : Nat} {a : Option Nat} {v : Option Nat} (hC : Ok C x cc nL rm rt own res) (hin : isInit C) (hdc : (TX3 4).1 = own) (hw : Cond.fieldLink own index RX3 (TX3 4).2.1 (TX3 4).2.2.1 ∈ BIG) (hdg : decode cc pc = .ok (.putfield index, 3)) (h : (pR 3 4 M a v).bind f = some r0)
    (kk : ∀ M', pR 3 4 M a v = some M' → f M' = some r0 → J C ce sl M' (pc + 3) lv st) : J C ce sl M pc lv (rf v :: rf a :: st) := by
  obtain ⟨M', hv, hf⟩ := bnd h
  have kk := kk M' hv hf
  obtain ⟨i, rfl, hv2⟩ := bnd hv
  split at hv2
  case isFalse => cases hv2
  case isTrue hi =>
  cases hv2
  obtain ⟨p, l, e, R, s, m, args, below, meth, c, H0, A, Q, nL0, G, ad0, n0⟩ := C
  obtain ⟨hx, hb, hml, hnl, hown, hts, hKK, hH0, hA, hlk, hrt, hR, hQ, hxt⟩ := hC
  intro ad H locs ls hW hAa hag hn hvl hvs hS hl
  have he := pool_at (G := G) (ad := ad) hi.1
  rw [ent_3 hi.2] at he
  have hD := pool_D hW hAa
  have e2 : (pool G ad M).set i (ad i, .inr (3, [.int (mI M i 0), re ad (mR M i 1), re ad (mR M i 2), .int (mI M i 3), re ad v, re ad (mR M i 5), re ad (mR M i 6), .int (mI M i 7), re ad (mR M i 8), re ad (mR M i 9), .int (mI M i 10), re ad (mR M i 11), .long (mJ M i 12)])) = pool G ad (sR M i 4 v) := pool_set rfl hi.1 (by rw [ent_3 hi.2]; simp [sR, mI, mJ, mR, up2]) (fun j hj => ent_sR_ne hj)
  have e3 : phys ad (rf v) = re ad v := phys_rf ad v
  rw [List.map_cons, e3]
  skip
  exact va_putF (D := G.1) (ci := 3) (C := RX3) (T := TX3) (N := 13) (ty := tyX3 4) (v := re ad v) hx hb hts inB3 tyX3 tyX3_ok nmX3 hown hKK.1.1 hW.1 hD hS i he rfl 4 (by decide) (hts _ hw) (fun _ h9 => h9) rfl hin hdc (by decide +kernel) (by cases v <;> rfl) (by cases v <;> rfl) (Nat.le_of_ble_eq_true rfl) hdg (fun H1 locs1 hP1 hD1 hS1 => kk ad H1 locs1 ls ⟨by rw [← e2]; exact hP1, hW.2.1, wf_sR hW.2.2 (vs_h hvs)⟩ hAa hag hn hvl (vs_t (vs_t hvs)) hS1 hl)
theorem J_g3_5 {C : JC} {x : Bool} {cc : ByteArray} {nL : Nat} {rm : Room} {rt : Option FieldType} {own : String} {res : Res} {ce sl : Nat} {M : Mem} {pc : Nat} {lv : List (Nat × Value)} {st : List Value} {β : Type} {r0 : β} {f : Option Nat → Option β} {index : Nat} {a : Option Nat} (hC : Ok C x cc nL rm rt own res) (hw : Cond.fieldLink own index RX3 (TX3 5).2.1 (TX3 5).2.2.1 ∈ BIG) (hdg : decode cc pc = .ok (.getfield index, 3)) (h : (gR 3 5 M a).bind f = some r0)
    (kk : ∀ v, gR 3 5 M a = some v → f v = some r0 → J C ce sl M (pc + 3) lv (rf v :: st)) : J C ce sl M pc lv (rf a :: st) := by
  obtain ⟨v, hv, hf⟩ := bnd h
  have kk := kk v hv hf
  obtain ⟨i, rfl, hv2⟩ := bnd hv
  split at hv2
  case isFalse => cases hv2
  case isTrue hi =>
  cases hv2
  obtain ⟨p, l, e, R, s, m, args, below, meth, c, H0, A, Q, nL0, G, ad0, n0⟩ := C
  obtain ⟨hx, hb, hml, hnl, hown, hts, hKK, hH0, hA, hlk, hrt, hR, hQ, hxt⟩ := hC
  intro ad H locs ls hW hAa hag hn hvl hvs hS hl
  have he := pool_at (G := G) (ad := ad) hi.1
  rw [ent_3 hi.2] at he
  have k2 := kk ad H locs ls hW hAa hag hn hvl (vs_c (Vok_rf (fun j e => hW.2.2 _ _ j hi.1 e)) (vs_t hvs)) hS hl
  rw [List.map_cons, phys_rf] at k2
  exact va_get (D := G.1) (ci := 3) (C := RX3) (T := TX3) (N := 13) hx hb hts inB3 hown hKK.1.1 hW.1 i he rfl 5 (by decide) (hts _ hw) (fun _ h9 => h9) rfl hdg k2
theorem J_p3_5 {C : JC} {x : Bool} {cc : ByteArray} {nL : Nat} {rm : Room} {rt : Option FieldType} {own : String} {res : Res} {ce sl : Nat} {M : Mem} {pc : Nat} {lv : List (Nat × Value)} {st : List Value} {β : Type} {r0 : β} {f : Mem → Option β} {index : Nat} {a : Option Nat} {v : Option Nat} (hC : Ok C x cc nL rm rt own res) (hin : isInit C) (hdc : (TX3 5).1 = own) (hw : Cond.fieldLink own index RX3 (TX3 5).2.1 (TX3 5).2.2.1 ∈ BIG) (hdg : decode cc pc = .ok (.putfield index, 3)) (h : (pR 3 5 M a v).bind f = some r0)
    (kk : ∀ M', pR 3 5 M a v = some M' → f M' = some r0 → J C ce sl M' (pc + 3) lv st) : J C ce sl M pc lv (rf v :: rf a :: st) := by
  obtain ⟨M', hv, hf⟩ := bnd h
  have kk := kk M' hv hf
  obtain ⟨i, rfl, hv2⟩ := bnd hv
  split at hv2
  case isFalse => cases hv2
  case isTrue hi =>
  cases hv2
  obtain ⟨p, l, e, R, s, m, args, below, meth, c, H0, A, Q, nL0, G, ad0, n0⟩ := C
  obtain ⟨hx, hb, hml, hnl, hown, hts, hKK, hH0, hA, hlk, hrt, hR, hQ, hxt⟩ := hC
  intro ad H locs ls hW hAa hag hn hvl hvs hS hl
  have he := pool_at (G := G) (ad := ad) hi.1
  rw [ent_3 hi.2] at he
  have hD := pool_D hW hAa
  have e2 : (pool G ad M).set i (ad i, .inr (3, [.int (mI M i 0), re ad (mR M i 1), re ad (mR M i 2), .int (mI M i 3), re ad (mR M i 4), re ad v, re ad (mR M i 6), .int (mI M i 7), re ad (mR M i 8), re ad (mR M i 9), .int (mI M i 10), re ad (mR M i 11), .long (mJ M i 12)])) = pool G ad (sR M i 5 v) := pool_set rfl hi.1 (by rw [ent_3 hi.2]; simp [sR, mI, mJ, mR, up2]) (fun j hj => ent_sR_ne hj)
  have e3 : phys ad (rf v) = re ad v := phys_rf ad v
  rw [List.map_cons, e3]
  skip
  exact va_putF (D := G.1) (ci := 3) (C := RX3) (T := TX3) (N := 13) (ty := tyX3 5) (v := re ad v) hx hb hts inB3 tyX3 tyX3_ok nmX3 hown hKK.1.1 hW.1 hD hS i he rfl 5 (by decide) (hts _ hw) (fun _ h9 => h9) rfl hin hdc (by decide +kernel) (by cases v <;> rfl) (by cases v <;> rfl) (Nat.le_of_ble_eq_true rfl) hdg (fun H1 locs1 hP1 hD1 hS1 => kk ad H1 locs1 ls ⟨by rw [← e2]; exact hP1, hW.2.1, wf_sR hW.2.2 (vs_h hvs)⟩ hAa hag hn hvl (vs_t (vs_t hvs)) hS1 hl)
theorem J_g3_6 {C : JC} {x : Bool} {cc : ByteArray} {nL : Nat} {rm : Room} {rt : Option FieldType} {own : String} {res : Res} {ce sl : Nat} {M : Mem} {pc : Nat} {lv : List (Nat × Value)} {st : List Value} {β : Type} {r0 : β} {f : Option Nat → Option β} {index : Nat} {a : Option Nat} (hC : Ok C x cc nL rm rt own res) (hw : Cond.fieldLink own index RX3 (TX3 6).2.1 (TX3 6).2.2.1 ∈ BIG) (hdg : decode cc pc = .ok (.getfield index, 3)) (h : (gR 3 6 M a).bind f = some r0)
    (kk : ∀ v, gR 3 6 M a = some v → f v = some r0 → J C ce sl M (pc + 3) lv (rf v :: st)) : J C ce sl M pc lv (rf a :: st) := by
  obtain ⟨v, hv, hf⟩ := bnd h
  have kk := kk v hv hf
  obtain ⟨i, rfl, hv2⟩ := bnd hv
  split at hv2
  case isFalse => cases hv2
  case isTrue hi =>
  cases hv2
  obtain ⟨p, l, e, R, s, m, args, below, meth, c, H0, A, Q, nL0, G, ad0, n0⟩ := C
  obtain ⟨hx, hb, hml, hnl, hown, hts, hKK, hH0, hA, hlk, hrt, hR, hQ, hxt⟩ := hC
  intro ad H locs ls hW hAa hag hn hvl hvs hS hl
  have he := pool_at (G := G) (ad := ad) hi.1
  rw [ent_3 hi.2] at he
  have k2 := kk ad H locs ls hW hAa hag hn hvl (vs_c (Vok_rf (fun j e => hW.2.2 _ _ j hi.1 e)) (vs_t hvs)) hS hl
  rw [List.map_cons, phys_rf] at k2
  exact va_get (D := G.1) (ci := 3) (C := RX3) (T := TX3) (N := 13) hx hb hts inB3 hown hKK.1.1 hW.1 i he rfl 6 (by decide) (hts _ hw) (fun _ h9 => h9) rfl hdg k2
theorem J_p3_6 {C : JC} {x : Bool} {cc : ByteArray} {nL : Nat} {rm : Room} {rt : Option FieldType} {own : String} {res : Res} {ce sl : Nat} {M : Mem} {pc : Nat} {lv : List (Nat × Value)} {st : List Value} {β : Type} {r0 : β} {f : Mem → Option β} {index : Nat} {a : Option Nat} {v : Option Nat} (hC : Ok C x cc nL rm rt own res) (hin : isInit C) (hdc : (TX3 6).1 = own) (hw : Cond.fieldLink own index RX3 (TX3 6).2.1 (TX3 6).2.2.1 ∈ BIG) (hdg : decode cc pc = .ok (.putfield index, 3)) (h : (pR 3 6 M a v).bind f = some r0)
    (kk : ∀ M', pR 3 6 M a v = some M' → f M' = some r0 → J C ce sl M' (pc + 3) lv st) : J C ce sl M pc lv (rf v :: rf a :: st) := by
  obtain ⟨M', hv, hf⟩ := bnd h
  have kk := kk M' hv hf
  obtain ⟨i, rfl, hv2⟩ := bnd hv
  split at hv2
  case isFalse => cases hv2
  case isTrue hi =>
  cases hv2
  obtain ⟨p, l, e, R, s, m, args, below, meth, c, H0, A, Q, nL0, G, ad0, n0⟩ := C
  obtain ⟨hx, hb, hml, hnl, hown, hts, hKK, hH0, hA, hlk, hrt, hR, hQ, hxt⟩ := hC
  intro ad H locs ls hW hAa hag hn hvl hvs hS hl
  have he := pool_at (G := G) (ad := ad) hi.1
  rw [ent_3 hi.2] at he
  have hD := pool_D hW hAa
  have e2 : (pool G ad M).set i (ad i, .inr (3, [.int (mI M i 0), re ad (mR M i 1), re ad (mR M i 2), .int (mI M i 3), re ad (mR M i 4), re ad (mR M i 5), re ad v, .int (mI M i 7), re ad (mR M i 8), re ad (mR M i 9), .int (mI M i 10), re ad (mR M i 11), .long (mJ M i 12)])) = pool G ad (sR M i 6 v) := pool_set rfl hi.1 (by rw [ent_3 hi.2]; simp [sR, mI, mJ, mR, up2]) (fun j hj => ent_sR_ne hj)
  have e3 : phys ad (rf v) = re ad v := phys_rf ad v
  rw [List.map_cons, e3]
  skip
  exact va_putF (D := G.1) (ci := 3) (C := RX3) (T := TX3) (N := 13) (ty := tyX3 6) (v := re ad v) hx hb hts inB3 tyX3 tyX3_ok nmX3 hown hKK.1.1 hW.1 hD hS i he rfl 6 (by decide) (hts _ hw) (fun _ h9 => h9) rfl hin hdc (by decide +kernel) (by cases v <;> rfl) (by cases v <;> rfl) (Nat.le_of_ble_eq_true rfl) hdg (fun H1 locs1 hP1 hD1 hS1 => kk ad H1 locs1 ls ⟨by rw [← e2]; exact hP1, hW.2.1, wf_sR hW.2.2 (vs_h hvs)⟩ hAa hag hn hvl (vs_t (vs_t hvs)) hS1 hl)
theorem J_g3_7 {C : JC} {x : Bool} {cc : ByteArray} {nL : Nat} {rm : Room} {rt : Option FieldType} {own : String} {res : Res} {ce sl : Nat} {M : Mem} {pc : Nat} {lv : List (Nat × Value)} {st : List Value} {β : Type} {r0 : β} {f : Int32 → Option β} {index : Nat} {a : Option Nat} (hC : Ok C x cc nL rm rt own res) (hw : Cond.fieldLink own index RX3 (TX3 7).2.1 (TX3 7).2.2.1 ∈ BIG) (hdg : decode cc pc = .ok (.getfield index, 3)) (h : (gI 3 7 M a).bind f = some r0)
    (kk : ∀ v, gI 3 7 M a = some v → f v = some r0 → J C ce sl M (pc + 3) lv (.int v :: st)) : J C ce sl M pc lv (rf a :: st) := by
  obtain ⟨v, hv, hf⟩ := bnd h
  have kk := kk v hv hf
  obtain ⟨i, rfl, hv2⟩ := bnd hv
  split at hv2
  case isFalse => cases hv2
  case isTrue hi =>
  cases hv2
  obtain ⟨p, l, e, R, s, m, args, below, meth, c, H0, A, Q, nL0, G, ad0, n0⟩ := C
  obtain ⟨hx, hb, hml, hnl, hown, hts, hKK, hH0, hA, hlk, hrt, hR, hQ, hxt⟩ := hC
  intro ad H locs ls hW hAa hag hn hvl hvs hS hl
  have he := pool_at (G := G) (ad := ad) hi.1
  rw [ent_3 hi.2] at he
  have k2 := kk ad H locs ls hW hAa hag hn hvl (vs_c Vok_int (vs_t hvs)) hS hl
  skip
  exact va_get (D := G.1) (ci := 3) (C := RX3) (T := TX3) (N := 13) hx hb hts inB3 hown hKK.1.1 hW.1 i he rfl 7 (by decide) (hts _ hw) (fun _ h9 => h9) rfl hdg k2
theorem J_p3_7 {C : JC} {x : Bool} {cc : ByteArray} {nL : Nat} {rm : Room} {rt : Option FieldType} {own : String} {res : Res} {ce sl : Nat} {M : Mem} {pc : Nat} {lv : List (Nat × Value)} {st : List Value} {β : Type} {r0 : β} {f : Mem → Option β} {index : Nat} {a : Option Nat} {v : Int32} (hC : Ok C x cc nL rm rt own res) (hw : Cond.fieldLink own index RX3 (TX3 7).2.1 (TX3 7).2.2.1 ∈ BIG) (hdg : decode cc pc = .ok (.putfield index, 3)) (h : (pI 3 7 M a v).bind f = some r0)
    (kk : ∀ M', pI 3 7 M a v = some M' → f M' = some r0 → J C ce sl M' (pc + 3) lv st) : J C ce sl M pc lv (.int v :: rf a :: st) := by
  obtain ⟨M', hv, hf⟩ := bnd h
  have kk := kk M' hv hf
  obtain ⟨i, rfl, hv2⟩ := bnd hv
  split at hv2
  case isFalse => cases hv2
  case isTrue hi =>
  cases hv2
  obtain ⟨p, l, e, R, s, m, args, below, meth, c, H0, A, Q, nL0, G, ad0, n0⟩ := C
  obtain ⟨hx, hb, hml, hnl, hown, hts, hKK, hH0, hA, hlk, hrt, hR, hQ, hxt⟩ := hC
  intro ad H locs ls hW hAa hag hn hvl hvs hS hl
  have he := pool_at (G := G) (ad := ad) hi.1
  rw [ent_3 hi.2] at he
  have hD := pool_D hW hAa
  have e2 : (pool G ad M).set i (ad i, .inr (3, [.int (mI M i 0), re ad (mR M i 1), re ad (mR M i 2), .int (mI M i 3), re ad (mR M i 4), re ad (mR M i 5), re ad (mR M i 6), .int v, re ad (mR M i 8), re ad (mR M i 9), .int (mI M i 10), re ad (mR M i 11), .long (mJ M i 12)])) = pool G ad (sI M i 7 v) := pool_set rfl hi.1 (by rw [ent_3 hi.2]; simp [sI, mI, mJ, mR, up2]) (fun j hj => ent_sI_ne hj)
  skip
  skip
  skip
  exact va_put (D := G.1) (ci := 3) (C := RX3) (T := TX3) (N := 13) (ty := tyX3 7) (v := .int v) hx hb hts inB3 tyX3 tyX3_ok nmX3 hown hKK.1.1 hW.1 hD hS i he rfl 7 (by decide) (hts _ hw) (fun _ h9 => h9) rfl (by decide +kernel) rfl rfl (Nat.le_of_ble_eq_true rfl) hdg (fun H1 locs1 hP1 hD1 hS1 => kk ad H1 locs1 ls ⟨by rw [← e2]; exact hP1, hW.2.1, hW.2.2⟩ hAa hag hn hvl (vs_t (vs_t hvs)) hS1 hl)
theorem J_g3_8 {C : JC} {x : Bool} {cc : ByteArray} {nL : Nat} {rm : Room} {rt : Option FieldType} {own : String} {res : Res} {ce sl : Nat} {M : Mem} {pc : Nat} {lv : List (Nat × Value)} {st : List Value} {β : Type} {r0 : β} {f : Option Nat → Option β} {index : Nat} {a : Option Nat} (hC : Ok C x cc nL rm rt own res) (hw : Cond.fieldLink own index RX3 (TX3 8).2.1 (TX3 8).2.2.1 ∈ BIG) (hdg : decode cc pc = .ok (.getfield index, 3)) (h : (gR 3 8 M a).bind f = some r0)
    (kk : ∀ v, gR 3 8 M a = some v → f v = some r0 → J C ce sl M (pc + 3) lv (rf v :: st)) : J C ce sl M pc lv (rf a :: st) := by
  obtain ⟨v, hv, hf⟩ := bnd h
  have kk := kk v hv hf
  obtain ⟨i, rfl, hv2⟩ := bnd hv
  split at hv2
  case isFalse => cases hv2
  case isTrue hi =>
  cases hv2
  obtain ⟨p, l, e, R, s, m, args, below, meth, c, H0, A, Q, nL0, G, ad0, n0⟩ := C
  obtain ⟨hx, hb, hml, hnl, hown, hts, hKK, hH0, hA, hlk, hrt, hR, hQ, hxt⟩ := hC
  intro ad H locs ls hW hAa hag hn hvl hvs hS hl
  have he := pool_at (G := G) (ad := ad) hi.1
  rw [ent_3 hi.2] at he
  have k2 := kk ad H locs ls hW hAa hag hn hvl (vs_c (Vok_rf (fun j e => hW.2.2 _ _ j hi.1 e)) (vs_t hvs)) hS hl
  rw [List.map_cons, phys_rf] at k2
  exact va_get (D := G.1) (ci := 3) (C := RX3) (T := TX3) (N := 13) hx hb hts inB3 hown hKK.1.1 hW.1 i he rfl 8 (by decide) (hts _ hw) (fun _ h9 => h9) rfl hdg k2
theorem J_p3_8 {C : JC} {x : Bool} {cc : ByteArray} {nL : Nat} {rm : Room} {rt : Option FieldType} {own : String} {res : Res} {ce sl : Nat} {M : Mem} {pc : Nat} {lv : List (Nat × Value)} {st : List Value} {β : Type} {r0 : β} {f : Mem → Option β} {index : Nat} {a : Option Nat} {v : Option Nat} (hC : Ok C x cc nL rm rt own res) (hin : isInit C) (hdc : (TX3 8).1 = own) (hw : Cond.fieldLink own index RX3 (TX3 8).2.1 (TX3 8).2.2.1 ∈ BIG) (hdg : decode cc pc = .ok (.putfield index, 3)) (h : (pR 3 8 M a v).bind f = some r0)
    (kk : ∀ M', pR 3 8 M a v = some M' → f M' = some r0 → J C ce sl M' (pc + 3) lv st) : J C ce sl M pc lv (rf v :: rf a :: st) := by
  obtain ⟨M', hv, hf⟩ := bnd h
  have kk := kk M' hv hf
  obtain ⟨i, rfl, hv2⟩ := bnd hv
  split at hv2
  case isFalse => cases hv2
  case isTrue hi =>
  cases hv2
  obtain ⟨p, l, e, R, s, m, args, below, meth, c, H0, A, Q, nL0, G, ad0, n0⟩ := C
  obtain ⟨hx, hb, hml, hnl, hown, hts, hKK, hH0, hA, hlk, hrt, hR, hQ, hxt⟩ := hC
  intro ad H locs ls hW hAa hag hn hvl hvs hS hl
  have he := pool_at (G := G) (ad := ad) hi.1
  rw [ent_3 hi.2] at he
  have hD := pool_D hW hAa
  have e2 : (pool G ad M).set i (ad i, .inr (3, [.int (mI M i 0), re ad (mR M i 1), re ad (mR M i 2), .int (mI M i 3), re ad (mR M i 4), re ad (mR M i 5), re ad (mR M i 6), .int (mI M i 7), re ad v, re ad (mR M i 9), .int (mI M i 10), re ad (mR M i 11), .long (mJ M i 12)])) = pool G ad (sR M i 8 v) := pool_set rfl hi.1 (by rw [ent_3 hi.2]; simp [sR, mI, mJ, mR, up2]) (fun j hj => ent_sR_ne hj)
  have e3 : phys ad (rf v) = re ad v := phys_rf ad v
  rw [List.map_cons, e3]
  skip
  exact va_putF (D := G.1) (ci := 3) (C := RX3) (T := TX3) (N := 13) (ty := tyX3 8) (v := re ad v) hx hb hts inB3 tyX3 tyX3_ok nmX3 hown hKK.1.1 hW.1 hD hS i he rfl 8 (by decide) (hts _ hw) (fun _ h9 => h9) rfl hin hdc (by decide +kernel) (by cases v <;> rfl) (by cases v <;> rfl) (Nat.le_of_ble_eq_true rfl) hdg (fun H1 locs1 hP1 hD1 hS1 => kk ad H1 locs1 ls ⟨by rw [← e2]; exact hP1, hW.2.1, wf_sR hW.2.2 (vs_h hvs)⟩ hAa hag hn hvl (vs_t (vs_t hvs)) hS1 hl)
theorem J_g3_9 {C : JC} {x : Bool} {cc : ByteArray} {nL : Nat} {rm : Room} {rt : Option FieldType} {own : String} {res : Res} {ce sl : Nat} {M : Mem} {pc : Nat} {lv : List (Nat × Value)} {st : List Value} {β : Type} {r0 : β} {f : Option Nat → Option β} {index : Nat} {a : Option Nat} (hC : Ok C x cc nL rm rt own res) (hw : Cond.fieldLink own index RX3 (TX3 9).2.1 (TX3 9).2.2.1 ∈ BIG) (hdg : decode cc pc = .ok (.getfield index, 3)) (h : (gR 3 9 M a).bind f = some r0)
    (kk : ∀ v, gR 3 9 M a = some v → f v = some r0 → J C ce sl M (pc + 3) lv (rf v :: st)) : J C ce sl M pc lv (rf a :: st) := by
  obtain ⟨v, hv, hf⟩ := bnd h
  have kk := kk v hv hf
  obtain ⟨i, rfl, hv2⟩ := bnd hv
  split at hv2
  case isFalse => cases hv2
  case isTrue hi =>
  cases hv2
  obtain ⟨p, l, e, R, s, m, args, below, meth, c, H0, A, Q, nL0, G, ad0, n0⟩ := C
  obtain ⟨hx, hb, hml, hnl, hown, hts, hKK, hH0, hA, hlk, hrt, hR, hQ, hxt⟩ := hC
  intro ad H locs ls hW hAa hag hn hvl hvs hS hl
  have he := pool_at (G := G) (ad := ad) hi.1
  rw [ent_3 hi.2] at he
  have k2 := kk ad H locs ls hW hAa hag hn hvl (vs_c (Vok_rf (fun j e => hW.2.2 _ _ j hi.1 e)) (vs_t hvs)) hS hl
  rw [List.map_cons, phys_rf] at k2
  exact va_get (D := G.1) (ci := 3) (C := RX3) (T := TX3) (N := 13) hx hb hts inB3 hown hKK.1.1 hW.1 i he rfl 9 (by decide) (hts _ hw) (fun _ h9 => h9) rfl hdg k2
theorem J_p3_9 {C : JC} {x : Bool} {cc : ByteArray} {nL : Nat} {rm : Room} {rt : Option FieldType} {own : String} {res : Res} {ce sl : Nat} {M : Mem} {pc : Nat} {lv : List (Nat × Value)} {st : List Value} {β : Type} {r0 : β} {f : Mem → Option β} {index : Nat} {a : Option Nat} {v : Option Nat} (hC : Ok C x cc nL rm rt own res) (hin : isInit C) (hdc : (TX3 9).1 = own) (hw : Cond.fieldLink own index RX3 (TX3 9).2.1 (TX3 9).2.2.1 ∈ BIG) (hdg : decode cc pc = .ok (.putfield index, 3)) (h : (pR 3 9 M a v).bind f = some r0)
    (kk : ∀ M', pR 3 9 M a v = some M' → f M' = some r0 → J C ce sl M' (pc + 3) lv st) : J C ce sl M pc lv (rf v :: rf a :: st) := by
  obtain ⟨M', hv, hf⟩ := bnd h
  have kk := kk M' hv hf
  obtain ⟨i, rfl, hv2⟩ := bnd hv
  split at hv2
  case isFalse => cases hv2
  case isTrue hi =>
  cases hv2
  obtain ⟨p, l, e, R, s, m, args, below, meth, c, H0, A, Q, nL0, G, ad0, n0⟩ := C
  obtain ⟨hx, hb, hml, hnl, hown, hts, hKK, hH0, hA, hlk, hrt, hR, hQ, hxt⟩ := hC
  intro ad H locs ls hW hAa hag hn hvl hvs hS hl
  have he := pool_at (G := G) (ad := ad) hi.1
  rw [ent_3 hi.2] at he
  have hD := pool_D hW hAa
  have e2 : (pool G ad M).set i (ad i, .inr (3, [.int (mI M i 0), re ad (mR M i 1), re ad (mR M i 2), .int (mI M i 3), re ad (mR M i 4), re ad (mR M i 5), re ad (mR M i 6), .int (mI M i 7), re ad (mR M i 8), re ad v, .int (mI M i 10), re ad (mR M i 11), .long (mJ M i 12)])) = pool G ad (sR M i 9 v) := pool_set rfl hi.1 (by rw [ent_3 hi.2]; simp [sR, mI, mJ, mR, up2]) (fun j hj => ent_sR_ne hj)
  have e3 : phys ad (rf v) = re ad v := phys_rf ad v
  rw [List.map_cons, e3]
  skip
  exact va_putF (D := G.1) (ci := 3) (C := RX3) (T := TX3) (N := 13) (ty := tyX3 9) (v := re ad v) hx hb hts inB3 tyX3 tyX3_ok nmX3 hown hKK.1.1 hW.1 hD hS i he rfl 9 (by decide) (hts _ hw) (fun _ h9 => h9) rfl hin hdc (by decide +kernel) (by cases v <;> rfl) (by cases v <;> rfl) (Nat.le_of_ble_eq_true rfl) hdg (fun H1 locs1 hP1 hD1 hS1 => kk ad H1 locs1 ls ⟨by rw [← e2]; exact hP1, hW.2.1, wf_sR hW.2.2 (vs_h hvs)⟩ hAa hag hn hvl (vs_t (vs_t hvs)) hS1 hl)
theorem J_g3_10 {C : JC} {x : Bool} {cc : ByteArray} {nL : Nat} {rm : Room} {rt : Option FieldType} {own : String} {res : Res} {ce sl : Nat} {M : Mem} {pc : Nat} {lv : List (Nat × Value)} {st : List Value} {β : Type} {r0 : β} {f : Int32 → Option β} {index : Nat} {a : Option Nat} (hC : Ok C x cc nL rm rt own res) (hw : Cond.fieldLink own index RX3 (TX3 10).2.1 (TX3 10).2.2.1 ∈ BIG) (hdg : decode cc pc = .ok (.getfield index, 3)) (h : (gI 3 10 M a).bind f = some r0)
    (kk : ∀ v, gI 3 10 M a = some v → f v = some r0 → J C ce sl M (pc + 3) lv (.int v :: st)) : J C ce sl M pc lv (rf a :: st) := by
  obtain ⟨v, hv, hf⟩ := bnd h
  have kk := kk v hv hf
  obtain ⟨i, rfl, hv2⟩ := bnd hv
  split at hv2
  case isFalse => cases hv2
  case isTrue hi =>
  cases hv2
  obtain ⟨p, l, e, R, s, m, args, below, meth, c, H0, A, Q, nL0, G, ad0, n0⟩ := C
  obtain ⟨hx, hb, hml, hnl, hown, hts, hKK, hH0, hA, hlk, hrt, hR, hQ, hxt⟩ := hC
  intro ad H locs ls hW hAa hag hn hvl hvs hS hl
  have he := pool_at (G := G) (ad := ad) hi.1
  rw [ent_3 hi.2] at he
  have k2 := kk ad H locs ls hW hAa hag hn hvl (vs_c Vok_int (vs_t hvs)) hS hl
  skip
  exact va_get (D := G.1) (ci := 3) (C := RX3) (T := TX3) (N := 13) hx hb hts inB3 hown hKK.1.1 hW.1 i he rfl 10 (by decide) (hts _ hw) (fun _ h9 => h9) rfl hdg k2
theorem J_p3_10 {C : JC} {x : Bool} {cc : ByteArray} {nL : Nat} {rm : Room} {rt : Option FieldType} {own : String} {res : Res} {ce sl : Nat} {M : Mem} {pc : Nat} {lv : List (Nat × Value)} {st : List Value} {β : Type} {r0 : β} {f : Mem → Option β} {index : Nat} {a : Option Nat} {v : Int32} (hC : Ok C x cc nL rm rt own res) (hw : Cond.fieldLink own index RX3 (TX3 10).2.1 (TX3 10).2.2.1 ∈ BIG) (hdg : decode cc pc = .ok (.putfield index, 3)) (h : (pI 3 10 M a v).bind f = some r0)
    (kk : ∀ M', pI 3 10 M a v = some M' → f M' = some r0 → J C ce sl M' (pc + 3) lv st) : J C ce sl M pc lv (.int v :: rf a :: st) := by
  obtain ⟨M', hv, hf⟩ := bnd h
  have kk := kk M' hv hf
  obtain ⟨i, rfl, hv2⟩ := bnd hv
  split at hv2
  case isFalse => cases hv2
  case isTrue hi =>
  cases hv2
  obtain ⟨p, l, e, R, s, m, args, below, meth, c, H0, A, Q, nL0, G, ad0, n0⟩ := C
  obtain ⟨hx, hb, hml, hnl, hown, hts, hKK, hH0, hA, hlk, hrt, hR, hQ, hxt⟩ := hC
  intro ad H locs ls hW hAa hag hn hvl hvs hS hl
  have he := pool_at (G := G) (ad := ad) hi.1
  rw [ent_3 hi.2] at he
  have hD := pool_D hW hAa
  have e2 : (pool G ad M).set i (ad i, .inr (3, [.int (mI M i 0), re ad (mR M i 1), re ad (mR M i 2), .int (mI M i 3), re ad (mR M i 4), re ad (mR M i 5), re ad (mR M i 6), .int (mI M i 7), re ad (mR M i 8), re ad (mR M i 9), .int v, re ad (mR M i 11), .long (mJ M i 12)])) = pool G ad (sI M i 10 v) := pool_set rfl hi.1 (by rw [ent_3 hi.2]; simp [sI, mI, mJ, mR, up2]) (fun j hj => ent_sI_ne hj)
  skip
  skip
  skip
  exact va_put (D := G.1) (ci := 3) (C := RX3) (T := TX3) (N := 13) (ty := tyX3 10) (v := .int v) hx hb hts inB3 tyX3 tyX3_ok nmX3 hown hKK.1.1 hW.1 hD hS i he rfl 10 (by decide) (hts _ hw) (fun _ h9 => h9) rfl (by decide +kernel) rfl rfl (Nat.le_of_ble_eq_true rfl) hdg (fun H1 locs1 hP1 hD1 hS1 => kk ad H1 locs1 ls ⟨by rw [← e2]; exact hP1, hW.2.1, hW.2.2⟩ hAa hag hn hvl (vs_t (vs_t hvs)) hS1 hl)
theorem J_g3_11 {C : JC} {x : Bool} {cc : ByteArray} {nL : Nat} {rm : Room} {rt : Option FieldType} {own : String} {res : Res} {ce sl : Nat} {M : Mem} {pc : Nat} {lv : List (Nat × Value)} {st : List Value} {β : Type} {r0 : β} {f : Option Nat → Option β} {index : Nat} {a : Option Nat} (hC : Ok C x cc nL rm rt own res) (hw : Cond.fieldLink own index RX3 (TX3 11).2.1 (TX3 11).2.2.1 ∈ BIG) (hdg : decode cc pc = .ok (.getfield index, 3)) (h : (gR 3 11 M a).bind f = some r0)
    (kk : ∀ v, gR 3 11 M a = some v → f v = some r0 → J C ce sl M (pc + 3) lv (rf v :: st)) : J C ce sl M pc lv (rf a :: st) := by
  obtain ⟨v, hv, hf⟩ := bnd h
  have kk := kk v hv hf
  obtain ⟨i, rfl, hv2⟩ := bnd hv
  split at hv2
  case isFalse => cases hv2
  case isTrue hi =>
  cases hv2
  obtain ⟨p, l, e, R, s, m, args, below, meth, c, H0, A, Q, nL0, G, ad0, n0⟩ := C
  obtain ⟨hx, hb, hml, hnl, hown, hts, hKK, hH0, hA, hlk, hrt, hR, hQ, hxt⟩ := hC
  intro ad H locs ls hW hAa hag hn hvl hvs hS hl
  have he := pool_at (G := G) (ad := ad) hi.1
  rw [ent_3 hi.2] at he
  have k2 := kk ad H locs ls hW hAa hag hn hvl (vs_c (Vok_rf (fun j e => hW.2.2 _ _ j hi.1 e)) (vs_t hvs)) hS hl
  rw [List.map_cons, phys_rf] at k2
  exact va_get (D := G.1) (ci := 3) (C := RX3) (T := TX3) (N := 13) hx hb hts inB3 hown hKK.1.1 hW.1 i he rfl 11 (by decide) (hts _ hw) (fun _ h9 => h9) rfl hdg k2
theorem J_p3_11 {C : JC} {x : Bool} {cc : ByteArray} {nL : Nat} {rm : Room} {rt : Option FieldType} {own : String} {res : Res} {ce sl : Nat} {M : Mem} {pc : Nat} {lv : List (Nat × Value)} {st : List Value} {β : Type} {r0 : β} {f : Mem → Option β} {index : Nat} {a : Option Nat} {v : Option Nat} (hC : Ok C x cc nL rm rt own res) (hin : isInit C) (hdc : (TX3 11).1 = own) (hw : Cond.fieldLink own index RX3 (TX3 11).2.1 (TX3 11).2.2.1 ∈ BIG) (hdg : decode cc pc = .ok (.putfield index, 3)) (h : (pR 3 11 M a v).bind f = some r0)
    (kk : ∀ M', pR 3 11 M a v = some M' → f M' = some r0 → J C ce sl M' (pc + 3) lv st) : J C ce sl M pc lv (rf v :: rf a :: st) := by
  obtain ⟨M', hv, hf⟩ := bnd h
  have kk := kk M' hv hf
  obtain ⟨i, rfl, hv2⟩ := bnd hv
  split at hv2
  case isFalse => cases hv2
  case isTrue hi =>
  cases hv2
  obtain ⟨p, l, e, R, s, m, args, below, meth, c, H0, A, Q, nL0, G, ad0, n0⟩ := C
  obtain ⟨hx, hb, hml, hnl, hown, hts, hKK, hH0, hA, hlk, hrt, hR, hQ, hxt⟩ := hC
  intro ad H locs ls hW hAa hag hn hvl hvs hS hl
  have he := pool_at (G := G) (ad := ad) hi.1
  rw [ent_3 hi.2] at he
  have hD := pool_D hW hAa
  have e2 : (pool G ad M).set i (ad i, .inr (3, [.int (mI M i 0), re ad (mR M i 1), re ad (mR M i 2), .int (mI M i 3), re ad (mR M i 4), re ad (mR M i 5), re ad (mR M i 6), .int (mI M i 7), re ad (mR M i 8), re ad (mR M i 9), .int (mI M i 10), re ad v, .long (mJ M i 12)])) = pool G ad (sR M i 11 v) := pool_set rfl hi.1 (by rw [ent_3 hi.2]; simp [sR, mI, mJ, mR, up2]) (fun j hj => ent_sR_ne hj)
  have e3 : phys ad (rf v) = re ad v := phys_rf ad v
  rw [List.map_cons, e3]
  skip
  exact va_putF (D := G.1) (ci := 3) (C := RX3) (T := TX3) (N := 13) (ty := tyX3 11) (v := re ad v) hx hb hts inB3 tyX3 tyX3_ok nmX3 hown hKK.1.1 hW.1 hD hS i he rfl 11 (by decide) (hts _ hw) (fun _ h9 => h9) rfl hin hdc (by decide +kernel) (by cases v <;> rfl) (by cases v <;> rfl) (Nat.le_of_ble_eq_true rfl) hdg (fun H1 locs1 hP1 hD1 hS1 => kk ad H1 locs1 ls ⟨by rw [← e2]; exact hP1, hW.2.1, wf_sR hW.2.2 (vs_h hvs)⟩ hAa hag hn hvl (vs_t (vs_t hvs)) hS1 hl)
theorem J_g3_12 {C : JC} {x : Bool} {cc : ByteArray} {nL : Nat} {rm : Room} {rt : Option FieldType} {own : String} {res : Res} {ce sl : Nat} {M : Mem} {pc : Nat} {lv : List (Nat × Value)} {st : List Value} {β : Type} {r0 : β} {f : Int64 → Option β} {index : Nat} {a : Option Nat} (hC : Ok C x cc nL rm rt own res) (hw : Cond.fieldLink own index RX3 (TX3 12).2.1 (TX3 12).2.2.1 ∈ BIG) (hdg : decode cc pc = .ok (.getfield index, 3)) (h : (gJ 3 12 M a).bind f = some r0)
    (kk : ∀ v, gJ 3 12 M a = some v → f v = some r0 → J C ce sl M (pc + 3) lv (.long v :: st)) : J C ce sl M pc lv (rf a :: st) := by
  obtain ⟨v, hv, hf⟩ := bnd h
  have kk := kk v hv hf
  obtain ⟨i, rfl, hv2⟩ := bnd hv
  split at hv2
  case isFalse => cases hv2
  case isTrue hi =>
  cases hv2
  obtain ⟨p, l, e, R, s, m, args, below, meth, c, H0, A, Q, nL0, G, ad0, n0⟩ := C
  obtain ⟨hx, hb, hml, hnl, hown, hts, hKK, hH0, hA, hlk, hrt, hR, hQ, hxt⟩ := hC
  intro ad H locs ls hW hAa hag hn hvl hvs hS hl
  have he := pool_at (G := G) (ad := ad) hi.1
  rw [ent_3 hi.2] at he
  have k2 := kk ad H locs ls hW hAa hag hn hvl (vs_c Vok_long (vs_t hvs)) hS hl
  skip
  exact va_get (D := G.1) (ci := 3) (C := RX3) (T := TX3) (N := 13) hx hb hts inB3 hown hKK.1.1 hW.1 i he rfl 12 (by decide) (hts _ hw) (fun _ h9 => h9) rfl hdg k2
theorem J_p3_12 {C : JC} {x : Bool} {cc : ByteArray} {nL : Nat} {rm : Room} {rt : Option FieldType} {own : String} {res : Res} {ce sl : Nat} {M : Mem} {pc : Nat} {lv : List (Nat × Value)} {st : List Value} {β : Type} {r0 : β} {f : Mem → Option β} {index : Nat} {a : Option Nat} {v : Int64} (hC : Ok C x cc nL rm rt own res) (hw : Cond.fieldLink own index RX3 (TX3 12).2.1 (TX3 12).2.2.1 ∈ BIG) (hdg : decode cc pc = .ok (.putfield index, 3)) (h : (pJ 3 12 M a v).bind f = some r0)
    (kk : ∀ M', pJ 3 12 M a v = some M' → f M' = some r0 → J C ce sl M' (pc + 3) lv st) : J C ce sl M pc lv (.long v :: rf a :: st) := by
  obtain ⟨M', hv, hf⟩ := bnd h
  have kk := kk M' hv hf
  obtain ⟨i, rfl, hv2⟩ := bnd hv
  split at hv2
  case isFalse => cases hv2
  case isTrue hi =>
  cases hv2
  obtain ⟨p, l, e, R, s, m, args, below, meth, c, H0, A, Q, nL0, G, ad0, n0⟩ := C
  obtain ⟨hx, hb, hml, hnl, hown, hts, hKK, hH0, hA, hlk, hrt, hR, hQ, hxt⟩ := hC
  intro ad H locs ls hW hAa hag hn hvl hvs hS hl
  have he := pool_at (G := G) (ad := ad) hi.1
  rw [ent_3 hi.2] at he
  have hD := pool_D hW hAa
  have e2 : (pool G ad M).set i (ad i, .inr (3, [.int (mI M i 0), re ad (mR M i 1), re ad (mR M i 2), .int (mI M i 3), re ad (mR M i 4), re ad (mR M i 5), re ad (mR M i 6), .int (mI M i 7), re ad (mR M i 8), re ad (mR M i 9), .int (mI M i 10), re ad (mR M i 11), .long v])) = pool G ad (sJ M i 12 v) := pool_set rfl hi.1 (by rw [ent_3 hi.2]; simp [sJ, mI, mJ, mR, up2]) (fun j hj => ent_sJ_ne hj)
  skip
  skip
  skip
  exact va_put (D := G.1) (ci := 3) (C := RX3) (T := TX3) (N := 13) (ty := tyX3 12) (v := .long v) hx hb hts inB3 tyX3 tyX3_ok nmX3 hown hKK.1.1 hW.1 hD hS i he rfl 12 (by decide) (hts _ hw) (fun _ h9 => h9) rfl (by decide +kernel) rfl rfl (Nat.le_of_ble_eq_true rfl) hdg (fun H1 locs1 hP1 hD1 hS1 => kk ad H1 locs1 ls ⟨by rw [← e2]; exact hP1, hW.2.1, hW.2.2⟩ hAa hag hn hvl (vs_t (vs_t hvs)) hS1 hl)
theorem J_iald {C : JC} {x : Bool} {cc : ByteArray} {nL : Nat} {rm : Room} {rt : Option FieldType} {own : String} {res : Res} {ce sl : Nat} {M : Mem} {pc : Nat} {lv : List (Nat × Value)} {st : List Value} {β : Type} {r0 : β} {f : Int32 → Option β} {a : Option Nat} {z : Int32} (hC : Ok C x cc nL rm rt own res) (hdg : decode cc pc = .ok (.iaload, 1)) (h : (aI M a z).bind f = some r0)
    (kk : ∀ v, aI M a z = some v → f v = some r0 → J C ce sl M (pc + 1) lv (.int v :: st)) : J C ce sl M pc lv (.int z :: rf a :: st) := by
  obtain ⟨v, hv, hf⟩ := bnd h
  have kk := kk v hv hf
  obtain ⟨i, rfl, hv2⟩ := bnd hv
  split at hv2
  case isFalse => cases hv2
  case isTrue hi =>
  cases hv2
  obtain ⟨p, l, e, R, s, m, args, below, meth, c, H0, A, Q, nL0, G, ad0, n0⟩ := C
  obtain ⟨hx, hb, hml, hnl, hown, hts, hKK, hH0, hA, hlk, hrt, hR, hQ, hxt⟩ := hC
  intro ad H locs ls hW hAa hag hn hvl hvs hS hl
  have he := pool_at (G := G) (ad := ad) hi.1
  rw [ent_4 hi.2.1] at he
  have k2 := kk ad H locs ls hW hAa hag hn hvl (vs_c Vok_int (vs_t (vs_t hvs))) hS hl
  skip
  exact va_iald hx hb hKK.1.1 hW.1 i 0 he rfl (inRb_vp hi.2.2) hdg k2
theorem J_lald {C : JC} {x : Bool} {cc : ByteArray} {nL : Nat} {rm : Room} {rt : Option FieldType} {own : String} {res : Res} {ce sl : Nat} {M : Mem} {pc : Nat} {lv : List (Nat × Value)} {st : List Value} {β : Type} {r0 : β} {f : Int64 → Option β} {a : Option Nat} {z : Int32} (hC : Ok C x cc nL rm rt own res) (hdg : decode cc pc = .ok (.laload, 1)) (h : (aJ M a z).bind f = some r0)
    (kk : ∀ v, aJ M a z = some v → f v = some r0 → J C ce sl M (pc + 1) lv (.long v :: st)) : J C ce sl M pc lv (.int z :: rf a :: st) := by
  obtain ⟨v, hv, hf⟩ := bnd h
  have kk := kk v hv hf
  obtain ⟨i, rfl, hv2⟩ := bnd hv
  split at hv2
  case isFalse => cases hv2
  case isTrue hi =>
  cases hv2
  obtain ⟨p, l, e, R, s, m, args, below, meth, c, H0, A, Q, nL0, G, ad0, n0⟩ := C
  obtain ⟨hx, hb, hml, hnl, hown, hts, hKK, hH0, hA, hlk, hrt, hR, hQ, hxt⟩ := hC
  intro ad H locs ls hW hAa hag hn hvl hvs hS hl
  have he := pool_at (G := G) (ad := ad) hi.1
  rw [ent_5 hi.2.1] at he
  have k2 := kk ad H locs ls hW hAa hag hn hvl (vs_c Vok_long (vs_t (vs_t hvs))) hS hl
  skip
  exact va_lald hx hb hKK.1.1 hW.1 i 1 he rfl (inRb_vp hi.2.2) hdg k2
theorem J_zald {C : JC} {x : Bool} {cc : ByteArray} {nL : Nat} {rm : Room} {rt : Option FieldType} {own : String} {res : Res} {ce sl : Nat} {M : Mem} {pc : Nat} {lv : List (Nat × Value)} {st : List Value} {β : Type} {r0 : β} {f : Int32 → Option β} {a : Option Nat} {z : Int32} (hC : Ok C x cc nL rm rt own res) (hdg : decode cc pc = .ok (.baload, 1)) (h : (aZ M a z).bind f = some r0)
    (kk : ∀ v, aZ M a z = some v → f v = some r0 → J C ce sl M (pc + 1) lv (.int v :: st)) : J C ce sl M pc lv (.int z :: rf a :: st) := by
  obtain ⟨v, hv, hf⟩ := bnd h
  have kk := kk v hv hf
  obtain ⟨i, rfl, hv2⟩ := bnd hv
  split at hv2
  case isFalse => cases hv2
  case isTrue hi =>
  cases hv2
  obtain ⟨p, l, e, R, s, m, args, below, meth, c, H0, A, Q, nL0, G, ad0, n0⟩ := C
  obtain ⟨hx, hb, hml, hnl, hown, hts, hKK, hH0, hA, hlk, hrt, hR, hQ, hxt⟩ := hC
  intro ad H locs ls hW hAa hag hn hvl hvs hS hl
  have he := pool_at (G := G) (ad := ad) hi.1
  rw [ent_6 hi.2.1] at he
  have k2 := kk ad H locs ls hW hAa hag hn hvl (vs_c Vok_int (vs_t (vs_t hvs))) hS hl
  skip
  exact va_zald hx hb hKK.1.1 hW.1 i 2 he rfl (inRb_vp hi.2.2) hdg k2
theorem J_dald {C : JC} {x : Bool} {cc : ByteArray} {nL : Nat} {rm : Room} {rt : Option FieldType} {own : String} {res : Res} {ce sl : Nat} {M : Mem} {pc : Nat} {lv : List (Nat × Value)} {st : List Value} {β : Type} {r0 : β} {f : UInt64 → Option β} {a : Option Nat} {z : Int32} (hC : Ok C x cc nL rm rt own res) (hdg : decode cc pc = .ok (.daload, 1)) (h : (aD M a z).bind f = some r0)
    (kk : ∀ v, aD M a z = some v → f v = some r0 → J C ce sl M (pc + 1) lv (.double v :: st)) : J C ce sl M pc lv (.int z :: rf a :: st) := by
  obtain ⟨v, hv, hf⟩ := bnd h
  have kk := kk v hv hf
  obtain ⟨i, rfl, hv2⟩ := bnd hv
  split at hv2
  case isFalse => cases hv2
  case isTrue hi =>
  cases hv2
  obtain ⟨p, l, e, R, s, m, args, below, meth, c, H0, A, Q, nL0, G, ad0, n0⟩ := C
  obtain ⟨hx, hb, hml, hnl, hown, hts, hKK, hH0, hA, hlk, hrt, hR, hQ, hxt⟩ := hC
  intro ad H locs ls hW hAa hag hn hvl hvs hS hl
  have he := pool_at (G := G) (ad := ad) hi.1
  rw [ent_10 hi.2.1] at he
  have k2 := kk ad H locs ls hW hAa hag hn hvl (vs_c Vok_double (vs_t (vs_t hvs))) hS hl
  skip
  exact va_dald hx hb hKK.1.1 hW.1 i 6 he rfl (inRb_vp hi.2.2) hdg k2
theorem J_aald7 {C : JC} {x : Bool} {cc : ByteArray} {nL : Nat} {rm : Room} {rt : Option FieldType} {own : String} {res : Res} {ce sl : Nat} {M : Mem} {pc : Nat} {lv : List (Nat × Value)} {st : List Value} {β : Type} {r0 : β} {f : Option Nat → Option β} {a : Option Nat} {z : Int32} (hC : Ok C x cc nL rm rt own res) (hdg : decode cc pc = .ok (.aaload, 1)) (h : (aR 7 M a z).bind f = some r0)
    (kk : ∀ v, aR 7 M a z = some v → f v = some r0 → J C ce sl M (pc + 1) lv (rf v :: st)) : J C ce sl M pc lv (.int z :: rf a :: st) := by
  obtain ⟨v, hv, hf⟩ := bnd h
  have kk := kk v hv hf
  obtain ⟨i, rfl, hv2⟩ := bnd hv
  split at hv2
  case isFalse => cases hv2
  case isTrue hi =>
  cases hv2
  obtain ⟨p, l, e, R, s, m, args, below, meth, c, H0, A, Q, nL0, G, ad0, n0⟩ := C
  obtain ⟨hx, hb, hml, hnl, hown, hts, hKK, hH0, hA, hlk, hrt, hR, hQ, hxt⟩ := hC
  intro ad H locs ls hW hAa hag hn hvl hvs hS hl
  have he := pool_at (G := G) (ad := ad) hi.1
  rw [ent_7 hi.2.1] at he
  have k2 := kk ad H locs ls hW hAa hag hn hvl (vs_c (Vok_rf (fun j e => hW.2.2 _ _ j hi.1 e)) (vs_t (vs_t hvs))) hS hl
  rw [List.map_cons, phys_rf] at k2
  exact va_aldq hx hb hKK.1.1 hW.1 i 3 he rfl (inRb_vp hi.2.2) hdg k2
theorem J_aald8 {C : JC} {x : Bool} {cc : ByteArray} {nL : Nat} {rm : Room} {rt : Option FieldType} {own : String} {res : Res} {ce sl : Nat} {M : Mem} {pc : Nat} {lv : List (Nat × Value)} {st : List Value} {β : Type} {r0 : β} {f : Option Nat → Option β} {a : Option Nat} {z : Int32} (hC : Ok C x cc nL rm rt own res) (hdg : decode cc pc = .ok (.aaload, 1)) (h : (aR 8 M a z).bind f = some r0)
    (kk : ∀ v, aR 8 M a z = some v → f v = some r0 → J C ce sl M (pc + 1) lv (rf v :: st)) : J C ce sl M pc lv (.int z :: rf a :: st) := by
  obtain ⟨v, hv, hf⟩ := bnd h
  have kk := kk v hv hf
  obtain ⟨i, rfl, hv2⟩ := bnd hv
  split at hv2
  case isFalse => cases hv2
  case isTrue hi =>
  cases hv2
  obtain ⟨p, l, e, R, s, m, args, below, meth, c, H0, A, Q, nL0, G, ad0, n0⟩ := C
  obtain ⟨hx, hb, hml, hnl, hown, hts, hKK, hH0, hA, hlk, hrt, hR, hQ, hxt⟩ := hC
  intro ad H locs ls hW hAa hag hn hvl hvs hS hl
  have he := pool_at (G := G) (ad := ad) hi.1
  rw [ent_8 hi.2.1] at he
  have k2 := kk ad H locs ls hW hAa hag hn hvl (vs_c (Vok_rf (fun j e => hW.2.2 _ _ j hi.1 e)) (vs_t (vs_t hvs))) hS hl
  rw [List.map_cons, phys_rf] at k2
  exact va_aldq hx hb hKK.1.1 hW.1 i 4 he rfl (inRb_vp hi.2.2) hdg k2
theorem va_aldA {p : Program} {l : Launch} {e : Env} {R : Room} {s : State} {m : MethodId} {args : Array Value} {below : List Frame} {meth : Method} {c : Code} {H : Heap} {locs : List Loc} {cells slots : Nat} {Q : State → Prop} {cc : ByteArray} {pc : Nat} {ls : Array Slot} {rest : List Value} {D : va_G} {cl : List vw_C} {a : Nat} {tys : List (ClassId × FieldType)} {ws : va_W} (hexec : p.tables.exec = Jvm.exec) (hb : c.code = cc) (hK : va_K D cl tys s) (hP : va_P D cl ws H) (q0 t0 : Nat) {cA : ClassId} {ty : FieldType} {n : Nat} {f : Nat → Option Nat} (ha : ws[q0]? = some (a, .inl (cA, n, .inr (.inr (.inr (.inr f)))))) (ht : tys[t0]? = some (cA, .array ty)) {i : Int32} (hin : vp_in i n) (hdg : decode cc pc = .ok (.aaload, 1))
    (kk : W p l e R s m args below meth c H locs cells slots Q (F0 m (pc + 1) ls (va_rf (f i.toNatClampNeg) :: rest))) : W p l e R s m args below meth c H locs cells slots Q (F0 m pc ls (.int i :: .ref a :: rest)) := by
  have hlt : i.toNatClampNeg < n := Nat.not_le.mp fun q => hin (Or.inr q)
  exact W.aald (v := va_rf (f i.toNatClampNeg)) (ty := .array ty) hexec hb (hP q0 _ ha) ((hK.2 t0 _ ht).1 n (fun j => va_rf (f j))) rfl (fun q => by cases q) (by show ¬ (i < 0 ∨ (arrV _ _ _).slots.size ≤ _); rw [arrV_size]; exact hin) (by show (arrV _ _ _).slots[_]? = _; rw [arrV_read _ _ hlt]) rfl rfl hdg kk
theorem J_aald9 {C : JC} {x : Bool} {cc : ByteArray} {nL : Nat} {rm : Room} {rt : Option FieldType} {own : String} {res : Res} {ce sl : Nat} {M : Mem} {pc : Nat} {lv : List (Nat × Value)} {st : List Value} {β : Type} {r0 : β} {f : Option Nat → Option β} {a : Option Nat} {z : Int32} (hC : Ok C x cc nL rm rt own res) (hdg : decode cc pc = .ok (.aaload, 1)) (h : (aR 9 M a z).bind f = some r0)
    (kk : ∀ v, aR 9 M a z = some v → f v = some r0 → J C ce sl M (pc + 1) lv (rf v :: st)) : J C ce sl M pc lv (.int z :: rf a :: st) := by
  obtain ⟨v, hv, hf⟩ := bnd h
  have kk := kk v hv hf
  obtain ⟨i, rfl, hv2⟩ := bnd hv
  split at hv2
  case isFalse => cases hv2
  case isTrue hi =>
  cases hv2
  obtain ⟨p, l, e, R, s, m, args, below, meth, c, H0, A, Q, nL0, G, ad0, n0⟩ := C
  obtain ⟨hx, hb, hml, hnl, hown, hts, hKK, hH0, hA, hlk, hrt, hR, hQ, hxt⟩ := hC
  intro ad H locs ls hW hAa hag hn hvl hvs hS hl
  have he := pool_at (G := G) (ad := ad) hi.1
  rw [ent_9 hi.2.1] at he
  have k2 := kk ad H locs ls hW hAa hag hn hvl (vs_c (Vok_rf (fun j e => hW.2.2 _ _ j hi.1 e)) (vs_t (vs_t hvs))) hS hl
  rw [List.map_cons, phys_rf] at k2
  exact va_aldA hx hb hKK.1.1 hW.1 i 5 he rfl (inRb_vp hi.2.2) hdg k2
theorem J_iast {C : JC} {x : Bool} {cc : ByteArray} {nL : Nat} {rm : Room} {rt : Option FieldType} {own : String} {res : Res} {ce sl : Nat} {M : Mem} {pc : Nat} {lv : List (Nat × Value)} {st : List Value} {β : Type} {r0 : β} {f : Mem → Option β} {a : Option Nat} {z : Int32} {v : Int32} (hC : Ok C x cc nL rm rt own res) (hdg : decode cc pc = .ok (.iastore, 1)) (h : (wI M a z v).bind f = some r0)
    (kk : ∀ M', wI M a z v = some M' → f M' = some r0 → J C ce sl M' (pc + 1) lv st) : J C ce sl M pc lv (.int v :: .int z :: rf a :: st) := by
  obtain ⟨M', hv, hf⟩ := bnd h
  have kk := kk M' hv hf
  obtain ⟨i, rfl, hv2⟩ := bnd hv
  split at hv2
  case isFalse => cases hv2
  case isTrue hi =>
  cases hv2
  obtain ⟨p, l, e, R, s, m, args, below, meth, c, H0, A, Q, nL0, G, ad0, n0⟩ := C
  obtain ⟨hx, hb, hml, hnl, hown, hts, hKK, hH0, hA, hlk, hrt, hR, hQ, hxt⟩ := hC
  intro ad H locs ls hW hAa hag hn hvl hvs hS hl
  have he := pool_at (G := G) (ad := ad) hi.1
  rw [ent_4 hi.2.1] at he
  have hD := pool_D hW hAa
  skip
  have e2 : (pool G ad M).set i (ad i, .inl (G.2 0, ln i, .inl (upd (mI M i) z.toNatClampNeg v))) = pool G ad (sI M i z.toNatClampNeg v) := pool_set rfl hi.1 (by rw [ent_4 hi.2.1]; rw [show mI (sI M i z.toNatClampNeg v) i = upd (mI M i) z.toNatClampNeg v from (funext fun q => by simp [sI, mI, mJ, mR, mD, up2, upd, vp_updL, vf_upd])]) (fun j hj => ent_sI_ne hj)
  exact va_iast hx hb hKK.1.1 hW.1 hD hS i 0 he rfl (inRb_vp hi.2.2) hdg (fun H1 locs1 hP1 hD1 hS1 => kk ad H1 locs1 ls ⟨by rw [← e2]; exact hP1, hW.2⟩ hAa hag hn hvl (vs_t (vs_t (vs_t hvs))) hS1 hl)
theorem J_last {C : JC} {x : Bool} {cc : ByteArray} {nL : Nat} {rm : Room} {rt : Option FieldType} {own : String} {res : Res} {ce sl : Nat} {M : Mem} {pc : Nat} {lv : List (Nat × Value)} {st : List Value} {β : Type} {r0 : β} {f : Mem → Option β} {a : Option Nat} {z : Int32} {v : Int64} (hC : Ok C x cc nL rm rt own res) (hdg : decode cc pc = .ok (.lastore, 1)) (h : (wJ M a z v).bind f = some r0)
    (kk : ∀ M', wJ M a z v = some M' → f M' = some r0 → J C ce sl M' (pc + 1) lv st) : J C ce sl M pc lv (.long v :: .int z :: rf a :: st) := by
  obtain ⟨M', hv, hf⟩ := bnd h
  have kk := kk M' hv hf
  obtain ⟨i, rfl, hv2⟩ := bnd hv
  split at hv2
  case isFalse => cases hv2
  case isTrue hi =>
  cases hv2
  obtain ⟨p, l, e, R, s, m, args, below, meth, c, H0, A, Q, nL0, G, ad0, n0⟩ := C
  obtain ⟨hx, hb, hml, hnl, hown, hts, hKK, hH0, hA, hlk, hrt, hR, hQ, hxt⟩ := hC
  intro ad H locs ls hW hAa hag hn hvl hvs hS hl
  have he := pool_at (G := G) (ad := ad) hi.1
  rw [ent_5 hi.2.1] at he
  have hD := pool_D hW hAa
  skip
  have e2 : (pool G ad M).set i (ad i, .inl (G.2 1, ln i, .inr (.inl (vp_updL (mJ M i) z.toNatClampNeg v)))) = pool G ad (sJ M i z.toNatClampNeg v) := pool_set rfl hi.1 (by rw [ent_5 hi.2.1]; rw [show mJ (sJ M i z.toNatClampNeg v) i = vp_updL (mJ M i) z.toNatClampNeg v from (funext fun q => by simp [sJ, mI, mJ, mR, mD, up2, upd, vp_updL, vf_upd])]) (fun j hj => ent_sJ_ne hj)
  exact va_last hx hb hKK.1.1 hW.1 hD hS i 1 he rfl (inRb_vp hi.2.2) hdg (fun H1 locs1 hP1 hD1 hS1 => kk ad H1 locs1 ls ⟨by rw [← e2]; exact hP1, hW.2⟩ hAa hag hn hvl (vs_t (vs_t (vs_t hvs))) hS1 hl)
theorem J_dast {C : JC} {x : Bool} {cc : ByteArray} {nL : Nat} {rm : Room} {rt : Option FieldType} {own : String} {res : Res} {ce sl : Nat} {M : Mem} {pc : Nat} {lv : List (Nat × Value)} {st : List Value} {β : Type} {r0 : β} {f : Mem → Option β} {a : Option Nat} {z : Int32} {v : UInt64} (hC : Ok C x cc nL rm rt own res) (hdg : decode cc pc = .ok (.dastore, 1)) (h : (wD M a z v).bind f = some r0)
    (kk : ∀ M', wD M a z v = some M' → f M' = some r0 → J C ce sl M' (pc + 1) lv st) : J C ce sl M pc lv (.double v :: .int z :: rf a :: st) := by
  obtain ⟨M', hv, hf⟩ := bnd h
  have kk := kk M' hv hf
  obtain ⟨i, rfl, hv2⟩ := bnd hv
  split at hv2
  case isFalse => cases hv2
  case isTrue hi =>
  cases hv2
  obtain ⟨p, l, e, R, s, m, args, below, meth, c, H0, A, Q, nL0, G, ad0, n0⟩ := C
  obtain ⟨hx, hb, hml, hnl, hown, hts, hKK, hH0, hA, hlk, hrt, hR, hQ, hxt⟩ := hC
  intro ad H locs ls hW hAa hag hn hvl hvs hS hl
  have he := pool_at (G := G) (ad := ad) hi.1
  rw [ent_10 hi.2.1] at he
  have hD := pool_D hW hAa
  skip
  have e2 : (pool G ad M).set i (ad i, .inl (G.2 6, ln i, .inr (.inr (.inr (.inl (vf_upd (mD M i) z.toNatClampNeg v)))))) = pool G ad (sD M i z.toNatClampNeg v) := pool_set rfl hi.1 (by rw [ent_10 hi.2.1]; rw [show mD (sD M i z.toNatClampNeg v) i = vf_upd (mD M i) z.toNatClampNeg v from (funext fun q => by simp [sD, mI, mJ, mR, mD, up2, upd, vp_updL, vf_upd])]) (fun j hj => ent_sD_ne hj)
  exact va_dast hx hb hKK.1.1 hW.1 hD hS i 6 he rfl (inRb_vp hi.2.2) hdg (fun H1 locs1 hP1 hD1 hS1 => kk ad H1 locs1 ls ⟨by rw [← e2]; exact hP1, hW.2⟩ hAa hag hn hvl (vs_t (vs_t (vs_t hvs))) hS1 hl)
theorem J_zast {C : JC} {x : Bool} {cc : ByteArray} {nL : Nat} {rm : Room} {rt : Option FieldType} {own : String} {res : Res} {ce sl : Nat} {M : Mem} {pc : Nat} {lv : List (Nat × Value)} {st : List Value} {β : Type} {r0 : β} {f : Mem → Option β} {a : Option Nat} {z : Int32} {v : Int32} (hC : Ok C x cc nL rm rt own res) (hdg : decode cc pc = .ok (.bastore, 1)) (h : (wZ M a z v).bind f = some r0)
    (kk : ∀ M', wZ M a z v = some M' → f M' = some r0 → J C ce sl M' (pc + 1) lv st) : J C ce sl M pc lv (.int v :: .int z :: rf a :: st) := by
  obtain ⟨M', hv, hf⟩ := bnd h
  have kk := kk M' hv hf
  obtain ⟨i, rfl, hv2⟩ := bnd hv
  split at hv2
  case isFalse => cases hv2
  case isTrue hi =>
  cases hv2
  obtain ⟨p, l, e, R, s, m, args, below, meth, c, H0, A, Q, nL0, G, ad0, n0⟩ := C
  obtain ⟨hx, hb, hml, hnl, hown, hts, hKK, hH0, hA, hlk, hrt, hR, hQ, hxt⟩ := hC
  intro ad H locs ls hW hAa hag hn hvl hvs hS hl
  have he := pool_at (G := G) (ad := ad) hi.1
  rw [ent_6 hi.2.1] at he
  have hD := pool_D hW hAa
  have hn1 : vp_nar .boolean v = v := by rw [hi.2.2.2]; decide
  have e2 : (pool G ad M).set i (ad i, .inl (G.2 2, ln i, .inl (upd (mI M i) z.toNatClampNeg (vp_nar .boolean v)))) = pool G ad (sI M i z.toNatClampNeg v) := pool_set rfl hi.1 (by rw [ent_6 hi.2.1]; rw [show mI (sI M i z.toNatClampNeg v) i = upd (mI M i) z.toNatClampNeg (vp_nar .boolean v) from (funext fun q => by simp [hn1, sI, mI, mJ, mR, mD, up2, upd, vp_updL, vf_upd])]) (fun j hj => ent_sI_ne hj)
  exact va_zast hx hb hKK.1.1 hW.1 hD hS i 2 he rfl (inRb_vp hi.2.2.1) hdg (fun H1 locs1 hP1 hD1 hS1 => kk ad H1 locs1 ls ⟨by rw [← e2]; exact hP1, hW.2⟩ hAa hag hn hvl (vs_t (vs_t (vs_t hvs))) hS1 hl)
theorem J_aast7 {C : JC} {x : Bool} {cc : ByteArray} {nL : Nat} {rm : Room} {rt : Option FieldType} {own : String} {res : Res} {ce sl : Nat} {M : Mem} {pc : Nat} {lv : List (Nat × Value)} {st : List Value} {β : Type} {r0 : β} {f : Mem → Option β} {a v : Option Nat} {z : Int32} (hC : Ok C x cc nL rm rt own res) (hdg : decode cc pc = .ok (.aastore, 1)) (h : (wR 7 0 M a z v).bind f = some r0)
    (kk : ∀ M', wR 7 0 M a z v = some M' → f M' = some r0 → J C ce sl M' (pc + 1) lv st) : J C ce sl M pc lv (rf v :: .int z :: rf a :: st) := by
  obtain ⟨M', hv, hf⟩ := bnd h
  have kk := kk M' hv hf
  obtain ⟨i, rfl, hv2⟩ := bnd hv
  obtain ⟨j, rfl, hv3⟩ := bnd hv2
  split at hv3
  case isFalse => cases hv3
  case isTrue hi =>
  cases hv3
  obtain ⟨p, l, e, R, s, m, args, below, meth, c, H0, A, Q, nL0, G, ad0, n0⟩ := C
  obtain ⟨hx, hb, hml, hnl, hown, hts, hKK, hH0, hA, hlk, hrt, hR, hQ, hxt⟩ := hC
  intro ad H locs ls hW hAa hag hn hvl hvs hS hl
  have he := pool_at (G := G) (ad := ad) hi.1
  rw [ent_7 hi.2.1] at he
  have hej := pool_at (G := G) (ad := ad) hi.2.2.2.1
  rw [ent_0 hi.2.2.2.2] at hej
  have hD := pool_D hW hAa
  have e2 : (pool G ad M).set i (ad i, .inl (G.2 3, ln i, .inr (.inr (.inr (.inr (va_up (fun k => (mR M i k).map ad) z.toNatClampNeg (some (ad j)))))))) = pool G ad (sR M i z.toNatClampNeg (some j)) := pool_set rfl hi.1 (by rw [ent_7 hi.2.1]; congr 7; funext q; by_cases hq : q = z.toNatClampNeg <;> simp [sR, mR, up2, va_up, hq]) (fun j hj => ent_sR_ne hj)
  exact va_astq (r := (RX0, TX0, 6)) hx hb hKK.1.1 hW.1 hD hS i 3 j 0 he rfl hej rfl (inRb_vp hi.2.2.1) hdg (fun H1 locs1 hP1 hD1 hS1 => kk ad H1 locs1 ls ⟨by rw [← e2]; exact hP1, hW.2.1, wf_sR hW.2.2 (vs_h hvs)⟩ hAa hag hn hvl (vs_t (vs_t (vs_t hvs))) hS1 hl)
theorem J_aast8 {C : JC} {x : Bool} {cc : ByteArray} {nL : Nat} {rm : Room} {rt : Option FieldType} {own : String} {res : Res} {ce sl : Nat} {M : Mem} {pc : Nat} {lv : List (Nat × Value)} {st : List Value} {β : Type} {r0 : β} {f : Mem → Option β} {a v : Option Nat} {z : Int32} (hC : Ok C x cc nL rm rt own res) (hdg : decode cc pc = .ok (.aastore, 1)) (h : (wR 8 1 M a z v).bind f = some r0)
    (kk : ∀ M', wR 8 1 M a z v = some M' → f M' = some r0 → J C ce sl M' (pc + 1) lv st) : J C ce sl M pc lv (rf v :: .int z :: rf a :: st) := by
  obtain ⟨M', hv, hf⟩ := bnd h
  have kk := kk M' hv hf
  obtain ⟨i, rfl, hv2⟩ := bnd hv
  obtain ⟨j, rfl, hv3⟩ := bnd hv2
  split at hv3
  case isFalse => cases hv3
  case isTrue hi =>
  cases hv3
  obtain ⟨p, l, e, R, s, m, args, below, meth, c, H0, A, Q, nL0, G, ad0, n0⟩ := C
  obtain ⟨hx, hb, hml, hnl, hown, hts, hKK, hH0, hA, hlk, hrt, hR, hQ, hxt⟩ := hC
  intro ad H locs ls hW hAa hag hn hvl hvs hS hl
  have he := pool_at (G := G) (ad := ad) hi.1
  rw [ent_8 hi.2.1] at he
  have hej := pool_at (G := G) (ad := ad) hi.2.2.2.1
  rw [ent_1 hi.2.2.2.2] at hej
  have hD := pool_D hW hAa
  have e2 : (pool G ad M).set i (ad i, .inl (G.2 4, ln i, .inr (.inr (.inr (.inr (va_up (fun k => (mR M i k).map ad) z.toNatClampNeg (some (ad j)))))))) = pool G ad (sR M i z.toNatClampNeg (some j)) := pool_set rfl hi.1 (by rw [ent_8 hi.2.1]; congr 7; funext q; by_cases hq : q = z.toNatClampNeg <;> simp [sR, mR, up2, va_up, hq]) (fun j hj => ent_sR_ne hj)
  exact va_astq (r := (RX1, TX1, 5)) hx hb hKK.1.1 hW.1 hD hS i 4 j 1 he rfl hej rfl (inRb_vp hi.2.2.1) hdg (fun H1 locs1 hP1 hD1 hS1 => kk ad H1 locs1 ls ⟨by rw [← e2]; exact hP1, hW.2.1, wf_sR hW.2.2 (vs_h hvs)⟩ hAa hag hn hvl (vs_t (vs_t (vs_t hvs))) hS1 hl)
theorem J_copyi {C : JC} {x : Bool} {cc : ByteArray} {nL : Nat} {rm : Room} {rt : Option FieldType} {own : String} {res : Res} {ce sl : Nat} {M : Mem} {pc : Nat} {lv : List (Nat × Value)} {st : List Value} {β : Type} {r0 : β} {f : Mem → Option β} {index : Nat} {a b : Option Nat} {sp dp n : Int32} (hC : Ok C x cc nL rm rt own res) (hw : Cond.methodLink own index arraycopyName ∈ BIG) (hcat : (st.map fun v => v.category).sum ≤ 8) (hfr : 1 ≤ rm.frames) (hlo : 8 + (nativeFrameWords "java/lang/System" "arraycopy" 5 + 11) ≤ rm.locals) (hdg : decode cc pc = .ok (.invokestatic index, 3)) (h : (cpI M a sp b dp n).bind f = some r0)
    (kk : ∀ M', cpI M a sp b dp n = some M' → f M' = some r0 → J C ce sl M' (pc + 3) lv st) : J C ce sl M pc lv (.int n :: .int dp :: rf b :: .int sp :: rf a :: st) := by
  obtain ⟨M', hv, hf⟩ := bnd h
  have kk := kk M' hv hf
  obtain ⟨i, rfl, hv2⟩ := bnd hv
  obtain ⟨j, rfl, hv3⟩ := bnd hv2
  split at hv3
  case isFalse => cases hv3
  case isTrue hi =>
  cases hv3
  obtain ⟨p, l, e, R, s, m, args, below, meth, c, H0, A, Q, nL0, G, ad0, n0⟩ := C
  obtain ⟨hx, hb, hml, hnl, hown, hts, hKK, hH0, hA, hlk, hrt, hR, hQ, hxt⟩ := hC
  intro ad H locs ls hW hAa hag hn hvl hvs hS hl
  obtain ⟨⟨i1, i2, i3, i4⟩, ⟨s1, s2, s3⟩, g1, g2⟩ := hi
  have he := pool_at (G := G) (ad := ad) i1
  rw [ent_4 i2] at he
  have hej := pool_at (G := G) (ad := ad) i3
  rw [ent_4 i4] at hej
  have hD := pool_D hW hAa
  subst hR
  have hcat2 : ((st.map (phys ad)).map fun v => v.category).sum ≤ 8 := by rw [List.map_map, show ((fun v : Value => v.category) ∘ phys ad) = (fun v => v.category) from funext (cat_phys ad)]; exact hcat
  have e2 : (pool G ad M).set j (ad j, .inl (G.2 0, ln j, .inl (va_cpy (mI M i) (mI M j) sp.toNatClampNeg dp.toNatClampNeg n.toNatClampNeg))) = pool G ad (sRow M j (va_cpy (mI M i) (mI M j) sp.toNatClampNeg dp.toNatClampNeg n.toNatClampNeg)) := pool_set rfl i3 (by rw [ent_4 i4]; congr 4; funext q; simp [sRow, mI]) (fun j hj => ent_sRow_ne hj)
  exact va_copyi hx hb (by rw [hml, ← hnl]; exact hl.1.symm) hown (hts _ hw) (hts _ w_acn) (hts _ w_acs) (hts _ w_aci) hKK.1.1 hW.1 hD hS i j 0 0 he hej rfl rfl rfl s1 s2 s3 g1 g2 (fun _ _ => rfl) hfr (by omega) hdg (fun H1 locs1 hP1 hD1 hS1 => kk ad H1 locs1 ls ⟨by rw [← e2]; exact hP1, hW.2⟩ hAa hag hn hvl (vs_t (vs_t (vs_t (vs_t (vs_t hvs))))) hS1 hl)
theorem J_alen {C : JC} {x : Bool} {cc : ByteArray} {nL : Nat} {rm : Room} {rt : Option FieldType} {own : String} {res : Res} {ce sl : Nat} {M : Mem} {pc : Nat} {lv : List (Nat × Value)} {st : List Value} {β : Type} {r0 : β} {f : Int32 → Option β} {a : Option Nat} (hC : Ok C x cc nL rm rt own res) (hdg : decode cc pc = .ok (.arraylength, 1)) (h : (aL M a).bind f = some r0)
    (kk : ∀ v, aL M a = some v → f v = some r0 → J C ce sl M (pc + 1) lv (.int v :: st)) : J C ce sl M pc lv (rf a :: st) := by
  obtain ⟨v, hv, hf⟩ := bnd h
  have kk := kk v hv hf
  obtain ⟨i, rfl, hv2⟩ := bnd hv
  split at hv2
  case isFalse => cases hv2
  case isTrue hi =>
  cases hv2
  obtain ⟨p, l, e, R, s, m, args, below, meth, c, H0, A, Q, nL0, G, ad0, n0⟩ := C
  obtain ⟨hx, hb, hml, hnl, hown, hts, hKK, hH0, hA, hlk, hrt, hR, hQ, hxt⟩ := hC
  intro ad H locs ls hW hAa hag hn hvl hvs hS hl
  have he := pool_at (G := G) (ad := ad) hi.1
  have k2 := kk ad H locs ls hW hAa hag hn hvl (vs_c Vok_int (vs_t hvs)) hS hl
  rcases (show kd i = 4 ∨ kd i = 5 ∨ kd i = 6 ∨ kd i = 7 ∨ kd i = 8 ∨ kd i = 9 ∨ kd i = 10 by omega) with h9 | h9 | h9 | h9 | h9 | h9 | h9
  · rw [ent_4 h9] at he; exact va_alen hx hb hKK.1.1 hW.1 i 0 he rfl rfl hdg k2
  · rw [ent_5 h9] at he; exact va_alen hx hb hKK.1.1 hW.1 i 1 he rfl rfl hdg k2
  · rw [ent_6 h9] at he; exact va_alen hx hb hKK.1.1 hW.1 i 2 he rfl rfl hdg k2
  · rw [ent_7 h9] at he; exact va_alen hx hb hKK.1.1 hW.1 i 3 he rfl rfl hdg k2
  · rw [ent_8 h9] at he; exact va_alen hx hb hKK.1.1 hW.1 i 4 he rfl rfl hdg k2
  · rw [ent_9 h9] at he; exact va_alen hx hb hKK.1.1 hW.1 i 5 he rfl rfl hdg k2
  · rw [ent_10 h9] at he; exact va_alen hx hb hKK.1.1 hW.1 i 6 he rfl rfl hdg k2
end
section
theorem lv_args_phys (ad : Nat → Nat) (vs : List Value) : ∀ i : Nat, lv_args i (vs.map (phys ad)) = (lv_args i vs).map fun q => (q.1, phys ad q.2) := by
  induction vs with
  | nil => intro i; rfl
  | cons v vs ih => intro i; simp only [List.map_cons, lv_args, cat_phys, ih]
theorem lg_sl_len (ad : Nat → Nat) (vs : List Value) : (lg_sl (vs.map (phys ad))).length = (lg_sl vs).length := by
  induction vs with
  | nil => rfl
  | cons v vs ih =>
    simp only [List.map_cons, lg_sl, List.flatMap_cons, List.length_append, cat_phys] at ih ⊢
    rw [ih]
    split <;> rfl
theorem vl_args {n : Nat} (vs : List Value) (h : ∀ v ∈ vs, Vok n v) : ∀ i : Nat, ∀ q ∈ lv_args i vs, Vok n q.2 := by
  induction vs with
  | nil => intro i q hq; cases hq
  | cons v vs ih =>
    intro i q hq
    rcases List.mem_cons.mp hq with e | e
    · rw [e]; exact vs_h h
    · exact ih (vs_t h) _ q e
theorem Con.enter {l : Launch} (hst : l.stackTraces = false) {y : MethodName} {cc : ByteArray} {maxL : Nat} {ret : Option FieldType} {rm : Room} {As : List Value} {M : Mem} {res : Res} {own : String} (hy : plainName y.cls = true) (ho : y.cls = own) (hlen : (lg_sl As).length ≤ maxL) {lv0 : List (Nat × Value)} (hlv : lv_args 0 As = lv0)
    (k : ∀ C : JC, Ok C false cc maxL rm ret own res → (y.name = "<init>" → isInit C) → J C 0 0 M 0 lv0 []) : Con false l y cc maxL ret rm As M res := by
  intro G ad sz
  rw [if_neg (by decide)]
  refine Met.ofW (cc := cc) (maxL := maxL) (ret := ret) hy rfl ?_
  intro p e s m args below meth c s₁ B hml hv
  obtain ⟨rfl, hsz, hW, hKK, hVok⟩ := hv
  subst hsz
  have hts := atoms_spec (ws := .code y cc maxL ret :: BIG) B.pre
  have hown : s.vm.findClass y.cls = some m.cls := findClass_of_methodNamed B.named
  have hnm : meth.name = y.name := (name_of_methodNamed B.named B.method).1
  have hl := lv_entry (As.map (phys ad)) (n := maxL) (by rw [lg_sl_len]; exact hlen)
  rw [lg_entry_eq]
  generalize (lg_sl (As.map (phys ad)) ++ List.replicate (maxL - (lg_sl (As.map (phys ad))).length) Slot.unset).toArray = ls at hl ⊢
  rw [lv_args_phys, hlv] at hl
  exact k (p, l, e, (headSpec (.code y cc maxL ret :: BIG) rm).room, s, m, (As.map (phys ad)).toArray, below, meth, c, s.heap, Aset ad M.1 s.heap.size, MQ below (Qret G ad M.1 (Aset ad M.1 s.heap.size) res) (As.map (phys ad)).toArray s rm.cells rm.slots (Aset ad M.1 s.heap.size), maxL, G, ad, M.1)
    ⟨B.exec, B.bytes, hml, rfl, ho ▸ hown, fun w hw => hts w (List.mem_cons_of_mem _ hw), hKK, rfl, fun q h => Or.inr h, B.notSynchronized, B.returns, rfl, rfl, (fun h => by cases h), hst⟩ (fun h => hnm.trans h)
    ad s.heap [] ls hW (fun i hi => Or.inl ⟨i, hi, rfl⟩) (fun _ _ => rfl) (Nat.le_refl _) (hlv ▸ vl_args As hVok 0) (fun v hv => by cases hv) va_S.rf hl
theorem Con.enterX {l : Launch} (hst : l.stackTraces = false) {y : MethodName} {cc : ByteArray} {maxL : Nat} {ret : Option FieldType} {rm : Room} {As : List Value} {M : Mem} {res : Res} {own : String} (hy : plainName y.cls = true) (ho : y.cls = own) (hlen : (lg_sl As).length ≤ maxL) {lv0 : List (Nat × Value)} (hlv : lv_args 0 As = lv0)
    (k : ∀ C : JC, Ok C true cc maxL rm ret own res → J C 0 0 M 0 lv0 []) : Con true l y cc maxL ret rm As M res := by
  intro G ad sz
  rw [if_pos rfl]
  refine vx_ofW (cc := cc) (maxL := maxL) (ret := ret) hy rfl ?_
  intro p e s m args below meth c s₁ B hml hex hv
  obtain ⟨rfl, hsz, hW, hKK, hVok⟩ := hv
  subst hsz
  have hts := atoms_spec (ws := .code y cc maxL ret :: BIG) B.pre
  have hown : s.vm.findClass y.cls = some m.cls := findClass_of_methodNamed B.named
  have hl := lv_entry (As.map (phys ad)) (n := maxL) (by rw [lg_sl_len]; exact hlen)
  rw [lg_entry_eq]
  generalize (lg_sl (As.map (phys ad)) ++ List.replicate (maxL - (lg_sl (As.map (phys ad))).length) Slot.unset).toArray = ls at hl ⊢
  rw [lv_args_phys, hlv] at hl
  exact k (p, l, e, (headSpec (.code y cc maxL ret :: BIG) rm).room, s, m, (As.map (phys ad)).toArray, below, meth, c, s.heap, Aset ad M.1 s.heap.size, vx_MQ below (Qret G ad M.1 (Aset ad M.1 s.heap.size) res) (Qthr G ad M.1 (Aset ad M.1 s.heap.size) res) (As.map (phys ad)).toArray s rm.cells rm.slots (Aset ad M.1 s.heap.size), maxL, G, ad, M.1)
    ⟨B.exec, B.bytes, hml, rfl, ho ▸ hown, fun w hw => hts w (List.mem_cons_of_mem _ hw), hKK, rfl, fun q h => Or.inr h, B.notSynchronized, B.returns, rfl, rfl, (fun _ => hex), hst⟩
    ad s.heap [] ls hW (fun i hi => Or.inl ⟨i, hi, rfl⟩) (fun _ _ => rfl) (Nat.le_refl _) (hlv ▸ vl_args As hVok 0) (fun v hv => by cases hv) va_S.rf hl
theorem w_oi1 : Cond.instanceMethod objectInit ∈ BIG := by decide +kernel
theorem w_oi2 : Cond.code objectInit ⟨#[0xb1]⟩ 1 none ∈ BIG := by decide +kernel
/-! ===== calls ===== -/
section WCALL
variable {p : Program} {l : Launch} {e : Env} {R : Room} {s : State} {m : MethodId} {args : Array Value} {below : List Frame} {meth : Method} {c : Code} {H : Heap} {locs : List Loc} {cells slots : Nat} {Q : State → Prop} {pc : Nat} {ls : Array Slot}
theorem Aset_sub {A : Nat → Prop} {H0 H : Heap} {ad : Nat → Nat} {n : Nat} (hAa : ∀ i, i < n → A (ad i)) (hA : ∀ q, H0.size ≤ q → A q) (hz : H0.size ≤ H.size) : ∀ q, Aset ad n H.size q → A q := fun q h => h.elim (fun ⟨i, hi, e⟩ => e ▸ hAa i hi) (fun h => hA q (Nat.le_trans hz h))
theorem W_call {G : Geo} {ad : Nat → Nat} {M M' : Mem} {rv : Option Value} {A : Nat → Prop} {H0 : Heap} {mc ms : Nat} {a : Array Value} {st0 rest : List Value}
    (hr : va_Run p l e R s m args below meth c H locs cells slots mc ms (F0 m pc ls st0) rest (Qret G ad M.1 (Aset ad M.1 H.size) (M', .inr rv) a) (Aset ad M.1 H.size))
    (hAa : ∀ i, i < M.1 → A (ad i)) (hA : ∀ q, H0.size ≤ q → A q) (hS : va_S A H0 H locs)
    (kk : ∀ (ad' : Nat → Nat) (H1 : Heap) (locs1 : List Loc), (∀ i, i < M.1 → ad' i = ad i) → M.1 ≤ M'.1 → Wd G ad' M' H1 → (∀ i, i < M'.1 → A (ad' i)) → (∀ v, rv = some v → Vok M'.1 v) → va_S A H0 H1 locs1 → W p l e R s m args below meth c H1 locs1 (cells + mc) (slots + ms) Q (F0 m (pc + 3) ls ((rv.map (phys ad')).toList ++ rest))) : W p l e R s m args below meth c H locs cells slots Q (F0 m pc ls st0) := by
  intro T hT X
  obtain ⟨v, st₀, t, T', L, h0, X', hL, e1, e2, ⟨⟨ad', rv', q1, q2, q3, q4, q5, q6, q7⟩, hz, hk⟩, stp⟩ := hr T hT X
  cases q1
  cases q2
  rw [h0] at hz hk
  have hsub := Aset_sub hAa hA hS.1
  obtain ⟨t2, a1, b1⟩ := kk ad' T'.heap (locs ++ L) q3 q4 (by rw [e1]; exact q5) (fun i hi => hsub _ (q6 i hi)) q7
    ⟨Nat.le_trans hS.1 (by rw [e1]; exact hz), fun q h1 h2 => by rw [e1, hk q (Nat.lt_of_lt_of_le h1 hS.1) (fun z => h2 (hsub q z))]; exact hS.2.1 q h1 h2, fun q hq => by
      rcases List.mem_append.mp hq with h | h
      · exact hS.2.2 q h
      · exact hsub _ (hL q h)⟩ T' rfl X'
  exact ⟨t2, stp t2 a1, b1⟩
theorem run_of_x {Qa : State → Outcome → State → Prop} {G : Geo} {ad0 : Nat → Nat} {n0 : Nat} {A : Nat → Prop} {M' : Mem} {rv : Option Value} {free : Nat → Prop} {g : JFrame} {rest : List Value} {mc ms : Nat} (h : vx_Run p l e R s m args below meth c H locs cells slots mc ms g rest Qa (Qthr G ad0 n0 A (M', .inr rv)) free) : va_Run p l e R s m args below meth c H locs cells slots mc ms g rest Qa free := by
  intro T hT X
  rcases h T hT X with h1 | ⟨q, st₀, t, T', L, E, ce, h0, X', hL, e1, e2, hx, -⟩
  · exact h1
  · obtain ⟨⟨ad, h1, -⟩, -⟩ := hx
    cases h1
end WCALL
/-- how a state keeps its contract's precondition, for a callee -/
theorem PreC_of {G : Geo} {ad : Nat → Nat} {M : Mem} {A : Nat → Prop} {s : State} {H : Heap} {locs : List Loc} {As : List Value} (hW : Wd G ad M H) (hAa : ∀ i, i < M.1 → A (ad i)) (hA : ∀ q, s.heap.size ≤ q → A q) (hKK : KK G A s s.heap) (hS : va_S A s.heap H locs) (hv : ∀ v ∈ As, Vok M.1 v) : ∀ U : State, U.heap = H → s.WarmedH U.vm → PreC G ad H.size As M (As.map (phys ad)).toArray U := fun U hU hWm =>
  ⟨rfl, by rw [hU], by rw [hU]; exact hW, by rw [hU]; exact KK.warm hWm ((hKK.kept (H1 := H) (fun q h1 h2 => hS.2.1 q h1 h2)).narrow (Aset_sub hAa hA hS.1)), hv⟩
theorem PreC_blind {G : Geo} {ad : Nat → Nat} {sz : Nat} {As : List Value} {M : Mem} : FrameBlind (PreC G ad sz As M) := fun a U g mk q => by
  obtain ⟨q0, q1, q2, q3, q4⟩ := q
  exact ⟨q0, q1, q2, KK.warm (U := U.calling g mk a) (State.WarmedH.refl U) q3, q4⟩
/-- a method's words, all in the great list -/
def VMok (y : MethodName) (C : String) (cc : ByteArray) (maxL : Nat) (ret : Option FieldType) (n : Nat) : Prop := Cond.code y cc maxL ret ∈ BIG ∧ Cond.instanceMethod y ∈ BIG ∧ Cond.selects C y y ∈ BIG ∧ Cond.initialized C ∈ BIG ∧ (y.cls = C ∧ y.cls ≠ "java/lang/invoke/MethodHandle" ∧ y.cls ≠ "java/lang/invoke/VarHandle" ∧ (parseMethodDescriptor y.desc).map (fun d => d.parameters.length) = some n)
def SMok (y : MethodName) (cc : ByteArray) (maxL : Nat) (ret : Option FieldType) (n : Nat) : Prop := Cond.code y cc maxL ret ∈ BIG ∧ Cond.static y ∈ BIG ∧ Cond.initialized y.cls ∈ BIG ∧ (y.cls ≠ "java/lang/invoke/MethodHandle" ∧ y.cls ≠ "java/lang/invoke/VarHandle" ∧ (parseMethodDescriptor y.desc).map (fun d => d.parameters.length) = some n)
def IMok (y : MethodName) (cc : ByteArray) (maxL : Nat) (n : Nat) : Prop := Cond.code y cc maxL none ∈ BIG ∧ Cond.instanceMethod y ∈ BIG ∧ Cond.initialized y.cls ∈ BIG ∧ y.name = "<init>" ∧ (y.cls ≠ "java/lang/invoke/MethodHandle" ∧ y.cls ≠ "java/lang/invoke/VarHandle" ∧ (parseMethodDescriptor y.desc).map (fun d => d.parameters.length) = some n)
def ck (ci : Nat) (M : Mem) (o : Option Nat) : Option Unit := o.bind fun i => if i < M.1 ∧ kd i = ci then some () else none
theorem ck_s {ci : Nat} {M : Mem} {o : Option Nat} {u : Unit} (h : ck ci M o = some u) : ∃ i, o = some i ∧ i < M.1 ∧ kd i = ci := by
  obtain ⟨i, rfl, h2⟩ := bnd h
  split at h2
  case isTrue hi => exact ⟨i, rfl, hi⟩
  case isFalse => cases h2
theorem cat_map (ad : Nat → Nat) (st : List Value) : ((st.map (phys ad)).map fun v => v.category).sum = (st.map fun v => v.category).sum := by
  rw [List.map_map, show ((fun v : Value => v.category) ∘ phys ad) = (fun v => v.category) from funext (cat_phys ad)]
theorem vs_arr {n : Nat} {As st : List Value} (h : ∀ v ∈ As.reverse ++ st, Vok n v) : (∀ v ∈ As, Vok n v) ∧ ∀ v ∈ st, Vok n v := ⟨fun v hv => h v (List.mem_append_left _ (List.mem_reverse.mpr hv)), fun v hv => h v (List.mem_append_right _ hv)⟩
theorem vs_ret {n : Nat} {rv : Option Value} {st : List Value} (h : ∀ v, rv = some v → Vok n v) (hs : ∀ v ∈ st, Vok n v) : ∀ v ∈ rv.toList ++ st, Vok n v := fun v hv => by
  rcases List.mem_append.mp hv with h1 | h1
  · exact h v (Option.mem_toList.mp h1)
  · exact hs v h1
theorem Vok_mono {n m : Nat} (h : n ≤ m) {v : Value} (hv : Vok n v) : Vok m v := fun i e => Nat.lt_of_lt_of_le (hv i e) h
theorem phys_ag {n : Nat} {ad ad' : Nat → Nat} (h : ∀ i, i < n → ad' i = ad i) {v : Value} (hv : Vok n v) : phys ad' v = phys ad v := by
  cases v <;> try rfl
  case retAddr n =>
    cases n with
    | zero => rfl
    | succ i => exact congrArg Value.ref (h i (hv i rfl))
theorem map_ag {n : Nat} {ad ad' : Nat → Nat} (h : ∀ i, i < n → ad' i = ad i) {st : List Value} (hs : ∀ v ∈ st, Vok n v) : st.map (phys ad') = st.map (phys ad) := List.map_congr_left fun v hv => phys_ag h (hs v hv)
theorem mapl_ag {n : Nat} {ad ad' : Nat → Nat} (h : ∀ i, i < n → ad' i = ad i) {lv : List (Nat × Value)} (hs : ∀ q ∈ lv, Vok n q.2) : (lv.map fun q => (q.1, phys ad' q.2)) = lv.map fun q => (q.1, phys ad q.2) := List.map_congr_left fun q hq => by rw [phys_ag h (hs q hq)]
theorem ret_map (ad : Nat → Nat) (rv : Option Value) (st : List Value) : (rv.map (phys ad)).toList ++ st.map (phys ad) = (rv.toList ++ st).map (phys ad) := by cases rv <;> rfl
theorem rcv_of9 {G : Geo} {ad : Nat → Nat} {M : Mem} {H : Heap} {A : Nat → Prop} {s : State} {Hk : Heap} (hW : Wd G ad M H) (hKK : KK G A s Hk) {ci i : Nat} {q : vw_C} (hi : i < M.1) (hk : kd i = ci) (hc : vwCl[ci]? = some q) : ∃ cell : Cell, H[ad i]? = some cell ∧ cell.vm.isStatics = false ∧ s.vm.findClass q.1 = some cell.cls := by
  have he := pool_at (G := G) (ad := ad) hi
  have h4 : ci < 4 := (List.getElem?_eq_some_iff.mp hc).1
  rcases (show ci = 0 ∨ ci = 1 ∨ ci = 2 ∨ ci = 3 by omega) with rfl | rfl | rfl | rfl
  · rw [ent_0 hk] at he; exact va_recv hKK.1.1 hW.1 hc he
  · rw [ent_1 hk] at he; exact va_recv hKK.1.1 hW.1 hc he
  · rw [ent_2 hk] at he; exact va_recv hKK.1.1 hW.1 hc he
  · rw [ent_3 hk] at he; exact va_recv hKK.1.1 hW.1 hc he
theorem J_callV {C : JC} {x : Bool} {cc : ByteArray} {nL : Nat} {rm : Room} {rt : Option FieldType} {own : String} {res : Res} {ce sl : Nat} {M : Mem} {pc : Nat} {lv : List (Nat × Value)} {st : List Value} {y : MethodName} {cc2 : ByteArray} {maxL2 index : Nat} {ret2 : Option FieldType} {rm2 : Room} {As : List Value} {M' : Mem} {rv : Option Value} {stk : List Value} {n : Nat} {Cn : String} {o : Option Nat} {ci : Nat} {qc : vw_C} (hC : Ok C x cc nL rm rt own res) (hcon : ∀ l, l.stackTraces = false → Con false l y cc2 maxL2 ret2 rm2 (rf o :: As) M (M', .inr rv)) (hm : VMok y Cn cc2 maxL2 ret2 n) (hw : Cond.methodLink own index y ∈ BIG) (ho : ∃ i, o = some i ∧ i < M.1 ∧ kd i = ci) (hq : vwCl[ci]? = some qc ∧ qc.1 = Cn) (hn9 : As.length = n) (hf : rm2.frames + 1 ≤ rm.frames ∧ 8 + (maxL2 + 11) + rm2.locals ≤ rm.locals) (hcat : (st.map fun v => v.category).sum ≤ 8) (hce : ce + rm2.cells ≤ rm.cells ∧ sl + rm2.slots ≤ rm.slots)
    (hdg : decode cc pc = .ok (.invokevirtual index, 3)) (hstk : stk = As.reverse ++ rf o :: st) (kk : J C (ce + rm2.cells) (sl + rm2.slots) M' (pc + 3) lv (rv.toList ++ st)) : J C ce sl M pc lv stk := by
  obtain ⟨i, rfl, hi1, hi2⟩ := ho
  subst hstk
  obtain ⟨m1, m2, m3, m4, m5⟩ := hm
  obtain ⟨p, l, e, R, s, m, args, below, meth, c, H0, A, Q, nL0, G, ad0, n0⟩ := C
  obtain ⟨hx, hb, hml, hnl, hown, hts, hKK, hH0, hA, hlk, hrt, hR, hQ, hxt⟩ := hC
  intro ad H locs ls hW hAa hag hn hvl hvs hS hl
  subst hR
  subst hnl
  have hvs2 := vs_arr hvs
  refine W_call (M := M) (M' := M') (rv := rv) (va_runV (cc := cc) (nL := nL0) (Ts := BIG) (own := own) (As := As.map (phys ad)) (rest := st.map (phys ad)) (C := Cn) (b := ad i) ⟨hx, hb, hml, hown, hts⟩ (by have h9 := hcon l hxt.2 G ad H.size; rw [if_neg (by decide)] at h9; exact h9) (cwV n hts (big_inB (fun w hw9 => by
      rcases List.mem_append.mp hw9 with h | h
      · simp only [List.mem_cons, List.not_mem_nil, or_false] at h
        rcases h with h | h | h | h <;> subst h
        · exact hw
        · exact m2
        · exact m3
        · exact m4
      · exact big_cons m1 w h)) rfl rfl rfl m5 hf) ⟨PreC_blind, hq.2 ▸ rcv_of9 hW hKK hi1 hi2 hq.1, PreC_of hW hAa hA hKK (hH0 ▸ hS) (vs_c (vs_h hvs2.2) hvs2.1)⟩ rfl (by rw [List.length_map]; exact hn9) hl.1 (by show List.map (phys ad) _ = _; rw [List.map_append, List.map_reverse]; rfl) (by show 0 + _ ≤ 8; rw [Nat.zero_add, cat_map]; exact hcat) hdg hce) hAa (by rw [hH0]; exact hA) hS (fun ad' H1 locs1 g1 g2 g3 g4 g5 g6 => ?_)
  have k2 := kk ad' H1 locs1 ls g3 g4 (fun i hi => (g1 i (Nat.lt_of_lt_of_le hi hn)).trans (hag i hi)) (Nat.le_trans hn g2) (fun q hq => Vok_mono g2 (hvl q hq)) (vs_ret g5 (fun v hv => Vok_mono g2 ((vs_t hvs2.2) v hv))) g6 (by rw [mapl_ag g1 hvl]; exact hl)
  rw [← ret_map, map_ag g1 (vs_t hvs2.2)] at k2
  exact k2
theorem J_callS {C : JC} {x : Bool} {cc : ByteArray} {nL : Nat} {rm : Room} {rt : Option FieldType} {own : String} {res : Res} {ce sl : Nat} {M : Mem} {pc : Nat} {lv : List (Nat × Value)} {st : List Value} {y : MethodName} {cc2 : ByteArray} {maxL2 index : Nat} {ret2 : Option FieldType} {rm2 : Room} {As : List Value} {M' : Mem} {rv : Option Value} {stk : List Value} {n : Nat} (hC : Ok C x cc nL rm rt own res) (hcon : ∀ l, l.stackTraces = false → Con false l y cc2 maxL2 ret2 rm2 As M (M', .inr rv)) (hm : SMok y cc2 maxL2 ret2 n) (hw : Cond.methodLink own index y ∈ BIG) (hn9 : As.length = n) (hf : rm2.frames + 1 ≤ rm.frames ∧ 8 + (maxL2 + 11) + rm2.locals ≤ rm.locals) (hcat : (st.map fun v => v.category).sum ≤ 8) (hce : ce + rm2.cells ≤ rm.cells ∧ sl + rm2.slots ≤ rm.slots)
    (hdg : decode cc pc = .ok (.invokestatic index, 3)) (hstk : stk = As.reverse ++ st) (kk : J C (ce + rm2.cells) (sl + rm2.slots) M' (pc + 3) lv (rv.toList ++ st)) : J C ce sl M pc lv stk := by
  subst hstk
  obtain ⟨m1, m2, m3, m4⟩ := hm
  obtain ⟨p, l, e, R, s, m, args, below, meth, c, H0, A, Q, nL0, G, ad0, n0⟩ := C
  obtain ⟨hx, hb, hml, hnl, hown, hts, hKK, hH0, hA, hlk, hrt, hR, hQ, hxt⟩ := hC
  intro ad H locs ls hW hAa hag hn hvl hvs hS hl
  subst hR
  subst hnl
  have hvs2 := vs_arr hvs
  refine W_call (M := M) (M' := M') (rv := rv) (va_runS (cc := cc) (nL := nL0) (Ts := BIG) (own := own) (As := As.map (phys ad)) (rest := st.map (phys ad)) ⟨hx, hb, hml, hown, hts⟩ (by have h9 := hcon l hxt.2 G ad H.size; rw [if_neg (by decide)] at h9; exact h9) (va_cwS n hts (big_inB (fun w hw9 => by
      rcases List.mem_append.mp hw9 with h | h
      · simp only [List.mem_cons, List.not_mem_nil, or_false] at h
        rcases h with h | h | h <;> subst h
        · exact hw
        · exact m2
        · exact m3
      · exact big_cons m1 w h)) rfl rfl rfl m4 hf) ⟨PreC_blind, PreC_of hW hAa hA hKK (hH0 ▸ hS) hvs2.1⟩ rfl (by rw [List.length_map]; exact hn9) hl.1 (by show List.map (phys ad) _ = _; rw [List.map_append, List.map_reverse]) (by show 0 + _ ≤ 8; rw [Nat.zero_add, cat_map]; exact hcat) hdg hce) hAa (by rw [hH0]; exact hA) hS (fun ad' H1 locs1 g1 g2 g3 g4 g5 g6 => ?_)
  have k2 := kk ad' H1 locs1 ls g3 g4 (fun i hi => (g1 i (Nat.lt_of_lt_of_le hi hn)).trans (hag i hi)) (Nat.le_trans hn g2) (fun q hq => Vok_mono g2 (hvl q hq)) (vs_ret g5 (fun v hv => Vok_mono g2 (hvs2.2 v hv))) g6 (by rw [mapl_ag g1 hvl]; exact hl)
  rw [← ret_map, map_ag g1 hvs2.2] at k2
  exact k2
theorem J_callSN {C : JC} {x : Bool} {cc : ByteArray} {nL : Nat} {rm : Room} {rt : Option FieldType} {own : String} {res : Res} {ce sl : Nat} {M : Mem} {pc : Nat} {lv : List (Nat × Value)} {st : List Value} {y : MethodName} {cc2 : ByteArray} {maxL2 index : Nat} {ret2 : Option FieldType} {rm2 : Room} {As : List Value} {M' : Mem} {rv : Option Value} {stk : List Value} {n : Nat} {host : String} (hC : Ok C x cc nL rm rt own res) (hcon : ∀ l, l.stackTraces = false → Con false l y cc2 maxL2 ret2 rm2 As M (M', .inr rv)) (hm : SMok y cc2 maxL2 ret2 n) (hw : ∀ U, nestB U → va_Nw (.methodLinkNest own index y host) U) (hn9 : As.length = n) (hf : rm2.frames + 1 ≤ rm.frames ∧ 8 + (maxL2 + 11) + rm2.locals ≤ rm.locals) (hcat : (st.map fun v => v.category).sum ≤ 8) (hce : ce + rm2.cells ≤ rm.cells ∧ sl + rm2.slots ≤ rm.slots)
    (hdg : decode cc pc = .ok (.invokestatic index, 3)) (hstk : stk = As.reverse ++ st) (kk : J C (ce + rm2.cells) (sl + rm2.slots) M' (pc + 3) lv (rv.toList ++ st)) : J C ce sl M pc lv stk := by
  subst hstk
  obtain ⟨m1, m2, m3, m4⟩ := hm
  obtain ⟨p, l, e, R, s, m, args, below, meth, c, H0, A, Q, nL0, G, ad0, n0⟩ := C
  obtain ⟨hx, hb, hml, hnl, hown, hts, hKK, hH0, hA, hlk, hrt, hR, hQ, hxt⟩ := hC
  intro ad H locs ls hW hAa hag hn hvl hvs hS hl
  subst hR
  subst hnl
  have hvs2 := vs_arr hvs
  refine W_call (M := M) (M' := M') (rv := rv) (va_runSN (host := host) (cc := cc) (nL := nL0) (Ts := BIG) (own := own) (As := As.map (phys ad)) (rest := st.map (phys ad)) ⟨hx, hb, hml, hown, hts⟩ (by have h9 := hcon l hxt.2 G ad H.size; rw [if_neg (by decide)] at h9; exact h9) ⟨va_cnB n hts (big_inB (big_cons m1)) rfl rfl rfl (hw s hKK.1.2.1) (hts _ m3) m4 hf, hts _ m2, trivial⟩ ⟨PreC_blind, PreC_of hW hAa hA hKK (hH0 ▸ hS) hvs2.1⟩ rfl (by rw [List.length_map]; exact hn9) hl.1 (by show List.map (phys ad) _ = _; rw [List.map_append, List.map_reverse]) (by show 0 + _ ≤ 8; rw [Nat.zero_add, cat_map]; exact hcat) hdg hce) hAa (by rw [hH0]; exact hA) hS (fun ad' H1 locs1 g1 g2 g3 g4 g5 g6 => ?_)
  have k2 := kk ad' H1 locs1 ls g3 g4 (fun i hi => (g1 i (Nat.lt_of_lt_of_le hi hn)).trans (hag i hi)) (Nat.le_trans hn g2) (fun q hq => Vok_mono g2 (hvl q hq)) (vs_ret g5 (fun v hv => Vok_mono g2 (hvs2.2 v hv))) g6 (by rw [mapl_ag g1 hvl]; exact hl)
  rw [← ret_map, map_ag g1 hvs2.2] at k2
  exact k2
theorem J_callI {C : JC} {x : Bool} {cc : ByteArray} {nL : Nat} {rm : Room} {rt : Option FieldType} {own : String} {res : Res} {ce sl : Nat} {M : Mem} {pc : Nat} {lv : List (Nat × Value)} {st : List Value} {y : MethodName} {cc2 : ByteArray} {maxL2 index : Nat} {rm2 : Room} {As : List Value} {M' : Mem} {rv : Option Value} {stk : List Value} {n : Nat} {o : Option Nat} (hC : Ok C x cc nL rm rt own res) (hcon : ∀ l, l.stackTraces = false → Con false l y cc2 maxL2 none rm2 (rf o :: As) M (M', .inr rv)) (hm : IMok y cc2 maxL2 n) (hw : Cond.methodLink own index y ∈ BIG) (ho : ∃ i, o = some i) (hn9 : As.length = n) (hf : rm2.frames + 1 ≤ rm.frames ∧ 8 + (maxL2 + 11) + rm2.locals ≤ rm.locals) (hcat : (st.map fun v => v.category).sum ≤ 8) (hce : ce + rm2.cells ≤ rm.cells ∧ sl + rm2.slots ≤ rm.slots)
    (hdg : decode cc pc = .ok (.invokespecial index, 3)) (hstk : stk = As.reverse ++ rf o :: st) (kk : J C (ce + rm2.cells) (sl + rm2.slots) M' (pc + 3) lv (rv.toList ++ st)) : J C ce sl M pc lv stk := by
  obtain ⟨i, rfl⟩ := ho
  subst hstk
  obtain ⟨m1, m2, m3, m4, m5⟩ := hm
  obtain ⟨p, l, e, R, s, m, args, below, meth, c, H0, A, Q, nL0, G, ad0, n0⟩ := C
  obtain ⟨hx, hb, hml, hnl, hown, hts, hKK, hH0, hA, hlk, hrt, hR, hQ, hxt⟩ := hC
  intro ad H locs ls hW hAa hag hn hvl hvs hS hl
  subst hR
  subst hnl
  have hvs2 := vs_arr hvs
  refine W_call (M := M) (M' := M') (rv := rv) (va_runI (cc := cc) (nL := nL0) (Ts := BIG) (own := own) (As := As.map (phys ad)) (rest := st.map (phys ad)) (b := ad i) ⟨hx, hb, hml, hown, hts⟩ (by have h9 := hcon l hxt.2 G ad H.size; rw [if_neg (by decide)] at h9; exact h9) (cwI n hts (big_inB (big_cons m1)) rfl rfl rfl (hts _ m3) (hts _ hw) (hts _ m2) m4 m5 hf) ⟨PreC_blind, PreC_of hW hAa hA hKK (hH0 ▸ hS) (vs_c (vs_h hvs2.2) hvs2.1)⟩ rfl (by rw [List.length_map]; exact hn9) hl.1 (by show List.map (phys ad) _ = _; rw [List.map_append, List.map_reverse]; rfl) (by show 0 + _ ≤ 8; rw [Nat.zero_add, cat_map]; exact hcat) hdg hce) hAa (by rw [hH0]; exact hA) hS (fun ad' H1 locs1 g1 g2 g3 g4 g5 g6 => ?_)
  have k2 := kk ad' H1 locs1 ls g3 g4 (fun i hi => (g1 i (Nat.lt_of_lt_of_le hi hn)).trans (hag i hi)) (Nat.le_trans hn g2) (fun q hq => Vok_mono g2 (hvl q hq)) (vs_ret g5 (fun v hv => Vok_mono g2 ((vs_t hvs2.2) v hv))) g6 (by rw [mapl_ag g1 hvl]; exact hl)
  rw [← ret_map, map_ag g1 (vs_t hvs2.2)] at k2
  exact k2
theorem J_callIN {C : JC} {x : Bool} {cc : ByteArray} {nL : Nat} {rm : Room} {rt : Option FieldType} {own : String} {res : Res} {ce sl : Nat} {M : Mem} {pc : Nat} {lv : List (Nat × Value)} {st : List Value} {y : MethodName} {cc2 : ByteArray} {maxL2 index : Nat} {rm2 : Room} {As : List Value} {M' : Mem} {rv : Option Value} {stk : List Value} {n : Nat} {o : Option Nat} {host : String} (hC : Ok C x cc nL rm rt own res) (hcon : ∀ l, l.stackTraces = false → Con false l y cc2 maxL2 none rm2 (rf o :: As) M (M', .inr rv)) (hm : IMok y cc2 maxL2 n) (hw : ∀ U, nestB U → va_Nw (.methodLinkNest own index y host) U) (ho : ∃ i, o = some i) (hn9 : As.length = n) (hf : rm2.frames + 1 ≤ rm.frames ∧ 8 + (maxL2 + 11) + rm2.locals ≤ rm.locals) (hcat : (st.map fun v => v.category).sum ≤ 8) (hce : ce + rm2.cells ≤ rm.cells ∧ sl + rm2.slots ≤ rm.slots)
    (hdg : decode cc pc = .ok (.invokespecial index, 3)) (hstk : stk = As.reverse ++ rf o :: st) (kk : J C (ce + rm2.cells) (sl + rm2.slots) M' (pc + 3) lv (rv.toList ++ st)) : J C ce sl M pc lv stk := by
  obtain ⟨i, rfl⟩ := ho
  subst hstk
  obtain ⟨m1, m2, m3, m4, m5⟩ := hm
  obtain ⟨p, l, e, R, s, m, args, below, meth, c, H0, A, Q, nL0, G, ad0, n0⟩ := C
  obtain ⟨hx, hb, hml, hnl, hown, hts, hKK, hH0, hA, hlk, hrt, hR, hQ, hxt⟩ := hC
  intro ad H locs ls hW hAa hag hn hvl hvs hS hl
  subst hR
  subst hnl
  have hvs2 := vs_arr hvs
  refine W_call (M := M) (M' := M') (rv := rv) (va_runIN (host := host) (cc := cc) (nL := nL0) (Ts := BIG) (own := own) (As := As.map (phys ad)) (rest := st.map (phys ad)) (b := ad i) ⟨hx, hb, hml, hown, hts⟩ (by have h9 := hcon l hxt.2 G ad H.size; rw [if_neg (by decide)] at h9; exact h9) ⟨va_cnB n hts (big_inB (big_cons m1)) rfl rfl rfl (hw s hKK.1.2.1) (hts _ m3) m5 hf, m4, hts _ m2⟩ ⟨PreC_blind, PreC_of hW hAa hA hKK (hH0 ▸ hS) (vs_c (vs_h hvs2.2) hvs2.1)⟩ rfl (by rw [List.length_map]; exact hn9) hl.1 (by show List.map (phys ad) _ = _; rw [List.map_append, List.map_reverse]; rfl) (by show 0 + _ ≤ 8; rw [Nat.zero_add, cat_map]; exact hcat) hdg hce) hAa (by rw [hH0]; exact hA) hS (fun ad' H1 locs1 g1 g2 g3 g4 g5 g6 => ?_)
  have k2 := kk ad' H1 locs1 ls g3 g4 (fun i hi => (g1 i (Nat.lt_of_lt_of_le hi hn)).trans (hag i hi)) (Nat.le_trans hn g2) (fun q hq => Vok_mono g2 (hvl q hq)) (vs_ret g5 (fun v hv => Vok_mono g2 ((vs_t hvs2.2) v hv))) g6 (by rw [mapl_ag g1 hvl]; exact hl)
  rw [← ret_map, map_ag g1 (vs_t hvs2.2)] at k2
  exact k2
theorem J_callVX {C : JC} {x : Bool} {cc : ByteArray} {nL : Nat} {rm : Room} {rt : Option FieldType} {own : String} {res : Res} {ce sl : Nat} {M : Mem} {pc : Nat} {lv : List (Nat × Value)} {st : List Value} {y : MethodName} {cc2 : ByteArray} {maxL2 index : Nat} {ret2 : Option FieldType} {rm2 : Room} {As : List Value} {M' : Mem} {rv : Option Value} {stk : List Value} {n : Nat} {Cn : String} {o : Option Nat} {ci : Nat} {qc : vw_C} (hC : Ok C x cc nL rm rt own res) (hcon : ∀ l, l.stackTraces = false → Con true l y cc2 maxL2 ret2 rm2 (rf o :: As) M (M', .inr rv)) (hm : VMok y Cn cc2 maxL2 ret2 n) (hw : Cond.methodLink own index y ∈ BIG) (ho : ∃ i, o = some i ∧ i < M.1 ∧ kd i = ci) (hq : vwCl[ci]? = some qc ∧ qc.1 = Cn) (hn9 : As.length = n) (hf : rm2.frames + 1 ≤ rm.frames ∧ 8 + (maxL2 + 11) + rm2.locals ≤ rm.locals) (hcat : (st.map fun v => v.category).sum ≤ 8) (hce : ce + rm2.cells ≤ rm.cells ∧ sl + rm2.slots ≤ rm.slots)
    (hdg : decode cc pc = .ok (.invokevirtual index, 3)) (hstk : stk = As.reverse ++ rf o :: st) (kk : J C (ce + rm2.cells) (sl + rm2.slots) M' (pc + 3) lv (rv.toList ++ st)) : J C ce sl M pc lv stk := by
  obtain ⟨i, rfl, hi1, hi2⟩ := ho
  subst hstk
  obtain ⟨m1, m2, m3, m4, m5⟩ := hm
  obtain ⟨p, l, e, R, s, m, args, below, meth, c, H0, A, Q, nL0, G, ad0, n0⟩ := C
  obtain ⟨hx, hb, hml, hnl, hown, hts, hKK, hH0, hA, hlk, hrt, hR, hQ, hxt⟩ := hC
  intro ad H locs ls hW hAa hag hn hvl hvs hS hl
  subst hR
  subst hnl
  have hvs2 := vs_arr hvs
  refine W_call (M := M) (M' := M') (rv := rv) (run_of_x (vx_runV (cc := cc) (nL := nL0) (Ts := BIG) (own := own) (As := As.map (phys ad)) (rest := st.map (phys ad)) (C := Cn) (b := ad i) ⟨hx, hb, hml, hown, hts⟩ (by have h9 := hcon l hxt.2 G ad H.size; rw [if_pos rfl] at h9; exact h9) (cwV n hts (big_inB (fun w hw9 => by
      rcases List.mem_append.mp hw9 with h | h
      · simp only [List.mem_cons, List.not_mem_nil, or_false] at h
        rcases h with h | h | h | h <;> subst h
        · exact hw
        · exact m2
        · exact m3
        · exact m4
      · exact big_cons m1 w h)) rfl rfl rfl m5 hf) ⟨PreC_blind, hq.2 ▸ rcv_of9 hW hKK hi1 hi2 hq.1, PreC_of hW hAa hA hKK (hH0 ▸ hS) (vs_c (vs_h hvs2.2) hvs2.1)⟩ rfl (by rw [List.length_map]; exact hn9) hl.1 (by show List.map (phys ad) _ = _; rw [List.map_append, List.map_reverse]; rfl) (by show 0 + _ ≤ 8; rw [Nat.zero_add, cat_map]; exact hcat) hdg hce)) hAa (by rw [hH0]; exact hA) hS (fun ad' H1 locs1 g1 g2 g3 g4 g5 g6 => ?_)
  have k2 := kk ad' H1 locs1 ls g3 g4 (fun i hi => (g1 i (Nat.lt_of_lt_of_le hi hn)).trans (hag i hi)) (Nat.le_trans hn g2) (fun q hq => Vok_mono g2 (hvl q hq)) (vs_ret g5 (fun v hv => Vok_mono g2 ((vs_t hvs2.2) v hv))) g6 (by rw [mapl_ag g1 hvl]; exact hl)
  rw [← ret_map, map_ag g1 (vs_t hvs2.2)] at k2
  exact k2
theorem J_callSX {C : JC} {x : Bool} {cc : ByteArray} {nL : Nat} {rm : Room} {rt : Option FieldType} {own : String} {res : Res} {ce sl : Nat} {M : Mem} {pc : Nat} {lv : List (Nat × Value)} {st : List Value} {y : MethodName} {cc2 : ByteArray} {maxL2 index : Nat} {ret2 : Option FieldType} {rm2 : Room} {As : List Value} {M' : Mem} {rv : Option Value} {stk : List Value} {n : Nat} (hC : Ok C x cc nL rm rt own res) (hcon : ∀ l, l.stackTraces = false → Con true l y cc2 maxL2 ret2 rm2 As M (M', .inr rv)) (hm : SMok y cc2 maxL2 ret2 n) (hw : Cond.methodLink own index y ∈ BIG) (hn9 : As.length = n) (hf : rm2.frames + 1 ≤ rm.frames ∧ 8 + (maxL2 + 11) + rm2.locals ≤ rm.locals) (hcat : (st.map fun v => v.category).sum ≤ 8) (hce : ce + rm2.cells ≤ rm.cells ∧ sl + rm2.slots ≤ rm.slots)
    (hdg : decode cc pc = .ok (.invokestatic index, 3)) (hstk : stk = As.reverse ++ st) (kk : J C (ce + rm2.cells) (sl + rm2.slots) M' (pc + 3) lv (rv.toList ++ st)) : J C ce sl M pc lv stk := by
  subst hstk
  obtain ⟨m1, m2, m3, m4⟩ := hm
  obtain ⟨p, l, e, R, s, m, args, below, meth, c, H0, A, Q, nL0, G, ad0, n0⟩ := C
  obtain ⟨hx, hb, hml, hnl, hown, hts, hKK, hH0, hA, hlk, hrt, hR, hQ, hxt⟩ := hC
  intro ad H locs ls hW hAa hag hn hvl hvs hS hl
  subst hR
  subst hnl
  have hvs2 := vs_arr hvs
  refine W_call (M := M) (M' := M') (rv := rv) (run_of_x (vx_runS (cc := cc) (nL := nL0) (Ts := BIG) (own := own) (As := As.map (phys ad)) (rest := st.map (phys ad)) ⟨hx, hb, hml, hown, hts⟩ (by have h9 := hcon l hxt.2 G ad H.size; rw [if_pos rfl] at h9; exact h9) (va_cwS n hts (big_inB (fun w hw9 => by
      rcases List.mem_append.mp hw9 with h | h
      · simp only [List.mem_cons, List.not_mem_nil, or_false] at h
        rcases h with h | h | h <;> subst h
        · exact hw
        · exact m2
        · exact m3
      · exact big_cons m1 w h)) rfl rfl rfl m4 hf) ⟨PreC_blind, PreC_of hW hAa hA hKK (hH0 ▸ hS) hvs2.1⟩ rfl (by rw [List.length_map]; exact hn9) hl.1 (by show List.map (phys ad) _ = _; rw [List.map_append, List.map_reverse]) (by show 0 + _ ≤ 8; rw [Nat.zero_add, cat_map]; exact hcat) hdg hce)) hAa (by rw [hH0]; exact hA) hS (fun ad' H1 locs1 g1 g2 g3 g4 g5 g6 => ?_)
  have k2 := kk ad' H1 locs1 ls g3 g4 (fun i hi => (g1 i (Nat.lt_of_lt_of_le hi hn)).trans (hag i hi)) (Nat.le_trans hn g2) (fun q hq => Vok_mono g2 (hvl q hq)) (vs_ret g5 (fun v hv => Vok_mono g2 (hvs2.2 v hv))) g6 (by rw [mapl_ag g1 hvl]; exact hl)
  rw [← ret_map, map_ag g1 hvs2.2] at k2
  exact k2
theorem J_objInit {C : JC} {x : Bool} {cc : ByteArray} {nL : Nat} {rm : Room} {rt : Option FieldType} {own : String} {res : Res} {ce sl : Nat} {M : Mem} {pc : Nat} {lv : List (Nat × Value)} {st : List Value} {idx : Nat} {o : Option Nat} (hC : Ok C x cc nL rm rt own res) (hw : Cond.methodLink own idx objectInit ∈ BIG) (ho : ∃ i, o = some i) (hf : 1 ≤ rm.frames) (hlo : (st.map fun v => v.category).sum + 12 ≤ rm.locals) (hdg : decode cc pc = .ok (.invokespecial idx, 3)) (kk : J C ce sl M (pc + 3) lv st) : J C ce sl M pc lv (rf o :: st) := by
  obtain ⟨i, rfl⟩ := ho
  obtain ⟨p, l, e, R, s, m, args, below, meth, c, H0, A, Q, nL0, G, ad0, n0⟩ := C
  obtain ⟨hx, hb, hml, hnl, hown, hts, hKK, hH0, hA, hlk, hrt, hR, hQ, hxt⟩ := hC
  intro ad H locs ls hW hAa hag hn hvl hvs hS hl
  subst hR
  exact W.objInit hx hb hown (hts _ hw) (hts _ w_oi1) (hts _ w_oi2) rfl (by show ls.size = _; rw [hml, ← hnl]; exact hl.1) rfl hdg hf (by show 2 * 0 + _ + 12 ≤ _; rw [cat_map]; omega) (kk ad H locs ls hW hAa hag hn hvl (vs_t hvs) hS hl)
/-! ===== throws ===== -/
def thr {α β : Type} (r : Mem × (String ⊕ α)) (k : α → Option (Mem × (String ⊕ β))) : Option (Mem × (String ⊕ β)) := match r.2 with
  | .inl E => some (r.1, .inl E)
  | .inr v => k v
def toRes {α : Type} (tv : α → Option Value) (r : Mem × (String ⊕ α)) : Res := (r.1, match r.2 with
  | .inl E => .inl E
  | .inr v => .inr (tv v))
def atOk (own : String) (ic : Nat) (cls : String) : Prop := (∀ w ∈ (vx_atS own ic cls ["java/lang/RuntimeException", "java/lang/Exception"]).filter goodWord, w ∈ BIG) ∧ (∀ w ∈ (vx_atS own ic cls ["java/lang/RuntimeException", "java/lang/Exception"]).filter (fun w => !goodWord w), w ∈ [Cond.castable cls cls, .declares yRE, .declares yEX, .declares yTH]) ∧ (∀ w ∈ vx_atS own ic cls ["java/lang/RuntimeException", "java/lang/Exception"], vx_ot w = true) ∧ Bundle.fit cls = true ∧ (∀ U, castB U → va_Nw (.castable cls cls) U)
theorem J_throw {C : JC} {cc : ByteArray} {nL : Nat} {rm : Room} {rt : Option FieldType} {res : Res} {ce sl : Nat} {M : Mem} {pc : Nat} {lv : List (Nat × Value)} {st : List Value} {cls text : String} {ik is ic : Nat} (hC : Ok C true cc nL rm rt RX2 res) (hat : atOk RX2 ic cls) (hw1 : Cond.classLink RX2 ik cls ∈ BIG) (hw2 : Cond.initialized cls ∈ BIG) (htx : ∀ U, strB U → ∃ sa, vk_R RX2 is text sa U)
    (d0 : decode cc pc = .ok (.new ik, 3)) (d3 : decode cc (pc + 3) = .ok (.dup, 1)) (d4 : decode cc (pc + 4) = .ok (.ldc is, 2)) (d6 : decode cc (pc + 6) = .ok (.invokespecial ic, 3)) (d9 : decode cc (pc + 9) = .ok (.athrow, 1)) (hres : (M, Sum.inl cls) = res)
    (hfr : 5 < rm.frames) (hlo : (st.map fun v => v.category).sum + 82 ≤ rm.locals) (hce : ce + 1 ≤ rm.cells) (hsl : sl + 6 ≤ rm.slots) : J C ce sl M pc lv st := by
  obtain ⟨p, l, e, R, s, m, args, below, meth, c, H0, A, Q, nL0, G, ad0, n0⟩ := C
  obtain ⟨hx, hb, hml, hnl, hown, hts, hKK, hH0, hA, hlk, hrt, hR, hQ, hxt⟩ := hC
  intro ad H locs ls hW hAa hag hn hvl hvs hS hl
  subst hres
  subst hR
  subst hH0
  obtain ⟨hex, hst⟩ := (⟨hxt.1 rfl, hxt.2⟩ : (∀ z ∈ c.exceptionTable.toList, False) ∧ l.stackTraces = false)
  obtain ⟨a1, a2, a3, a4, a5⟩ := hat
  obtain ⟨sa, hsa⟩ := htx s hKK.1.2.2.1
  rw [if_pos rfl] at hQ
  subst hQ
  refine vx_throwS (names := ["java/lang/RuntimeException", "java/lang/Exception"]) hx hb hst hown a4 (by decide +kernel) (hts _ hw1) (hts _ hw2) hsa (vx_hat (fun w h => hts w (a1 w h)) a2 (vx_c (va_Nw.use rfl (a5 s hKK.1.2.2.2.2)) (vx_c (va_Nw.use rfl hKK.1.2.2.2.2.2.1) (vx_c (va_Nw.use rfl hKK.1.2.2.2.2.2.2.1) (vx_c (va_Nw.use rfl hKK.1.2.2.2.2.2.2.2.1) vx_n))))) (fun w hw => ?_) hKK.2.1 hKK.2.2 hS (by rw [hml, ← hnl]; exact hl.1) d0 d3 d4 d6 d9 (fun x hx9 => (hex x hx9).elim) (by simpa using hfr) (by rw [cat_map]; simpa using hlo) hce hsl hlk (fun t hal hz hk => ?_) hS.2.2 hce hsl
  · rcases List.mem_cons.mp hw with h | hw
    · rw [h]; rfl
    · rcases List.mem_cons.mp hw with h | hw
      · rw [h]; rfl
      · exact a3 w hw
  · exact ⟨⟨ad, rfl, hag, hn, ⟨hW.1.kept (fun k9 x hx9 => hk x.1 ((hW.1 k9 x hx9).lt)), hW.2⟩, hAa⟩, Nat.le_trans hS.1 hz, fun q h1 h2 => (hk q (Nat.lt_of_lt_of_le h1 hS.1)).trans (hS.2.1 q h1 h2)⟩
theorem J_thrV {C : JC} {cc : ByteArray} {nL : Nat} {rm : Room} {rt : Option FieldType} {own : String} {res : Res} {ce sl : Nat} {M : Mem} {pc : Nat} {lv : List (Nat × Value)} {st : List Value} {y : MethodName} {cc2 : ByteArray} {maxL2 index : Nat} {ret2 : Option FieldType} {rm2 : Room} {As : List Value} {M' : Mem} {stk : List Value} {n : Nat} {E : String} {Cn : String} {o : Option Nat} {ci : Nat} {qc : vw_C} (hC : Ok C true cc nL rm rt own res) (hcon : ∀ l, l.stackTraces = false → Con true l y cc2 maxL2 ret2 rm2 (rf o :: As) M (M', .inl E)) (hm : VMok y Cn cc2 maxL2 ret2 n) (hw : Cond.methodLink own index y ∈ BIG) (ho : ∃ i, o = some i ∧ i < M.1 ∧ kd i = ci) (hq : vwCl[ci]? = some qc ∧ qc.1 = Cn) (hn9 : As.length = n) (hf : rm2.frames + 1 ≤ rm.frames ∧ 8 + (maxL2 + 11) + rm2.locals ≤ rm.locals) (hcat : (st.map fun v => v.category).sum ≤ 8) (hce : ce + rm2.cells ≤ rm.cells ∧ sl + rm2.slots ≤ rm.slots)
    (hdg : decode cc pc = .ok (.invokevirtual index, 3)) (hstk : stk = As.reverse ++ rf o :: st) (hres : (M', Sum.inl E) = res) : J C ce sl M pc lv stk := by
  obtain ⟨i, rfl, hi1, hi2⟩ := ho
  subst hstk
  obtain ⟨m1, m2, m3, m4, m5⟩ := hm
  obtain ⟨p, l, e, R, s, m, args, below, meth, c, H0, A, Q, nL0, G, ad0, n0⟩ := C
  obtain ⟨hx, hb, hml, hnl, hown, hts, hKK, hH0, hA, hlk, hrt, hR, hQ, hxt⟩ := hC
  intro ad H locs ls hW hAa hag hn hvl hvs hS hl
  subst hres
  subst hR
  subst hnl
  obtain ⟨hex, hst⟩ := (⟨hxt.1 rfl, hxt.2⟩ : (∀ z ∈ c.exceptionTable.toList, False) ∧ l.stackTraces = false)
  rw [if_pos rfl] at hQ
  subst hQ
  have hvs2 := vs_arr hvs
  have h9 := hcon l hst G ad H.size
  rw [if_pos rfl] at h9
  have hr := vx_runV (p := p) (l := l) (e := e) (R := R) (s := s) (m := m) (args := args) (below := below) (meth := meth) (c := c) (H := H) (locs := locs) (cells := ce) (slots := sl) (g := F0 m pc ls (((As.map (phys ad)).reverse ++ .ref (ad i) :: st.map (phys ad)))) (cc := cc) (nL := nL0) (Ts := BIG) (own := own) (As := As.map (phys ad)) (rest := st.map (phys ad)) (C := Cn) (b := ad i) ⟨hx, hb, hml, hown, hts⟩ h9 (cwV n hts (big_inB (fun w hw9 => by
      rcases List.mem_append.mp hw9 with h | h
      · simp only [List.mem_cons, List.not_mem_nil, or_false] at h
        rcases h with h | h | h | h <;> subst h
        · exact hw
        · exact m2
        · exact m3
        · exact m4
      · exact big_cons m1 w h)) rfl rfl rfl m5 hf) ⟨PreC_blind, hq.2 ▸ rcv_of9 hW hKK hi1 hi2 hq.1, PreC_of hW hAa hA hKK (hH0 ▸ hS) (vs_c (vs_h hvs2.2) hvs2.1)⟩ rfl (by rw [List.length_map]; exact hn9) hl.1 rfl (by show 0 + _ ≤ 8; rw [Nat.zero_add, cat_map]; exact hcat) hdg hce
  intro T hT X
  have hst9 : List.map (phys ad) (As.reverse ++ rf (some i) :: st) = (As.map (phys ad)).reverse ++ .ref (ad i) :: st.map (phys ad) := by rw [List.map_append, List.map_reverse]; rfl
  rw [hst9]
  rcases hr T hT X with ⟨v, st₀, t, T', L, h0, X', hL, e1, e2, ⟨⟨ad', rv', q1, -⟩, -⟩, -⟩ | ⟨q, st₀, t, T', L, E2, cel, h0, X', hL, e1, e2, ⟨⟨ad', q1, q3, q4, q5, q6⟩, hz, hk⟩, hcell, hv, hcl, stp⟩
  · cases q1
  cases q1
  rw [h0] at hz hk
  have hsub := Aset_sub hAa (by rw [hH0]; exact hA) hS.1
  have hS2 : va_S A H0 T'.heap (locs ++ L) := ⟨Nat.le_trans hS.1 (by rw [e1]; exact hz), fun q h1 h2 => by rw [e1, hk q (Nat.lt_of_lt_of_le h1 hS.1) (fun z => h2 (hsub q z))]; exact hS.2.1 q h1 h2, fun q hq => by
      rcases List.mem_append.mp hq with h | h
      · exact hS.2.2 q h
      · exact hsub _ (hL q h)⟩
  obtain ⟨t2, a1, b1⟩ := vx_out (Qc := Qret G ad0 n0 A (M', Sum.inl E)) (XC := Qthr G ad0 n0 A (M', Sum.inl E)) (below := below) (free := A) (pc := pc) (ls := ls) (rest := st.map (phys ad)) (E := E) (ce := cel) (q := q) (H := T'.heap) (locs := locs ++ L) (cells := ce + rm2.cells) (slots := sl + rm2.slots) (mc := R.cells) (ms := R.slots) (p := p) (l := l) (e := e) (R := R) (s := s) (m := m) (args := args) (meth := meth) (c := c) (fun x hx9 => (hex x hx9).elim) hlk (by rw [e1]; exact hcell) hv hcl
    (fun t3 ht3 hal => ⟨⟨ad', rfl, fun i hi => (q3 i (Nat.lt_of_lt_of_le hi hn)).trans (hag i hi), Nat.le_trans hn q4, by rw [ht3, e1]; exact q5, fun i hi => hsub _ (q6 i hi)⟩, by rw [ht3, ← hH0]; exact hS2.1, fun q h1 h2 => by rw [ht3]; rw [← hH0] at h1; exact (hS2.2.1 q h1 h2).trans (by rw [hH0])⟩) hS2.2.2 hce.1 hce.2 T' rfl X'
  exact ⟨t2, stp.trans a1, b1⟩
theorem J_thrS {C : JC} {cc : ByteArray} {nL : Nat} {rm : Room} {rt : Option FieldType} {own : String} {res : Res} {ce sl : Nat} {M : Mem} {pc : Nat} {lv : List (Nat × Value)} {st : List Value} {y : MethodName} {cc2 : ByteArray} {maxL2 index : Nat} {ret2 : Option FieldType} {rm2 : Room} {As : List Value} {M' : Mem} {stk : List Value} {n : Nat} {E : String} (hC : Ok C true cc nL rm rt own res) (hcon : ∀ l, l.stackTraces = false → Con true l y cc2 maxL2 ret2 rm2 As M (M', .inl E)) (hm : SMok y cc2 maxL2 ret2 n) (hw : Cond.methodLink own index y ∈ BIG) (hn9 : As.length = n) (hf : rm2.frames + 1 ≤ rm.frames ∧ 8 + (maxL2 + 11) + rm2.locals ≤ rm.locals) (hcat : (st.map fun v => v.category).sum ≤ 8) (hce : ce + rm2.cells ≤ rm.cells ∧ sl + rm2.slots ≤ rm.slots)
    (hdg : decode cc pc = .ok (.invokestatic index, 3)) (hstk : stk = As.reverse ++ st) (hres : (M', Sum.inl E) = res) : J C ce sl M pc lv stk := by
  skip
  subst hstk
  obtain ⟨m1, m2, m3, m4⟩ := hm
  obtain ⟨p, l, e, R, s, m, args, below, meth, c, H0, A, Q, nL0, G, ad0, n0⟩ := C
  obtain ⟨hx, hb, hml, hnl, hown, hts, hKK, hH0, hA, hlk, hrt, hR, hQ, hxt⟩ := hC
  intro ad H locs ls hW hAa hag hn hvl hvs hS hl
  subst hres
  subst hR
  subst hnl
  obtain ⟨hex, hst⟩ := (⟨hxt.1 rfl, hxt.2⟩ : (∀ z ∈ c.exceptionTable.toList, False) ∧ l.stackTraces = false)
  rw [if_pos rfl] at hQ
  subst hQ
  have hvs2 := vs_arr hvs
  have h9 := hcon l hst G ad H.size
  rw [if_pos rfl] at h9
  have hr := vx_runS (p := p) (l := l) (e := e) (R := R) (s := s) (m := m) (args := args) (below := below) (meth := meth) (c := c) (H := H) (locs := locs) (cells := ce) (slots := sl) (g := F0 m pc ls ((As.map (phys ad)).reverse ++ st.map (phys ad))) (cc := cc) (nL := nL0) (Ts := BIG) (own := own) (As := As.map (phys ad)) (rest := st.map (phys ad)) ⟨hx, hb, hml, hown, hts⟩ h9 (va_cwS n hts (big_inB (fun w hw9 => by
      rcases List.mem_append.mp hw9 with h | h
      · simp only [List.mem_cons, List.not_mem_nil, or_false] at h
        rcases h with h | h | h <;> subst h
        · exact hw
        · exact m2
        · exact m3
      · exact big_cons m1 w h)) rfl rfl rfl m4 hf) ⟨PreC_blind, PreC_of hW hAa hA hKK (hH0 ▸ hS) hvs2.1⟩ rfl (by rw [List.length_map]; exact hn9) hl.1 rfl (by show 0 + _ ≤ 8; rw [Nat.zero_add, cat_map]; exact hcat) hdg hce
  intro T hT X
  have hst9 : List.map (phys ad) (As.reverse ++ st) = (As.map (phys ad)).reverse ++ st.map (phys ad) := by rw [List.map_append, List.map_reverse]
  rw [hst9]
  rcases hr T hT X with ⟨v, st₀, t, T', L, h0, X', hL, e1, e2, ⟨⟨ad', rv', q1, -⟩, -⟩, -⟩ | ⟨q, st₀, t, T', L, E2, cel, h0, X', hL, e1, e2, ⟨⟨ad', q1, q3, q4, q5, q6⟩, hz, hk⟩, hcell, hv, hcl, stp⟩
  · cases q1
  cases q1
  rw [h0] at hz hk
  have hsub := Aset_sub hAa (by rw [hH0]; exact hA) hS.1
  have hS2 : va_S A H0 T'.heap (locs ++ L) := ⟨Nat.le_trans hS.1 (by rw [e1]; exact hz), fun q h1 h2 => by rw [e1, hk q (Nat.lt_of_lt_of_le h1 hS.1) (fun z => h2 (hsub q z))]; exact hS.2.1 q h1 h2, fun q hq => by
      rcases List.mem_append.mp hq with h | h
      · exact hS.2.2 q h
      · exact hsub _ (hL q h)⟩
  obtain ⟨t2, a1, b1⟩ := vx_out (Qc := Qret G ad0 n0 A (M', Sum.inl E)) (XC := Qthr G ad0 n0 A (M', Sum.inl E)) (below := below) (free := A) (pc := pc) (ls := ls) (rest := st.map (phys ad)) (E := E) (ce := cel) (q := q) (H := T'.heap) (locs := locs ++ L) (cells := ce + rm2.cells) (slots := sl + rm2.slots) (mc := R.cells) (ms := R.slots) (p := p) (l := l) (e := e) (R := R) (s := s) (m := m) (args := args) (meth := meth) (c := c) (fun x hx9 => (hex x hx9).elim) hlk (by rw [e1]; exact hcell) hv hcl
    (fun t3 ht3 hal => ⟨⟨ad', rfl, fun i hi => (q3 i (Nat.lt_of_lt_of_le hi hn)).trans (hag i hi), Nat.le_trans hn q4, by rw [ht3, e1]; exact q5, fun i hi => hsub _ (q6 i hi)⟩, by rw [ht3, ← hH0]; exact hS2.1, fun q h1 h2 => by rw [ht3]; rw [← hH0] at h1; exact (hS2.2.1 q h1 h2).trans (by rw [hH0])⟩) hS2.2.2 hce.1 hce.2 T' rfl X'
  exact ⟨t2, stp.trans a1, b1⟩
end
section
/-! ===== more rows ===== -/
theorem ite_t {c : Prop} [Decidable c] {α : Type} {A B r : α} (hc : c) (h : (if c then A else B) = r) : A = r := by rw [if_pos hc] at h; exact h
theorem ite_f {c : Prop} [Decidable c] {α : Type} {A B r : α} (hc : ¬ c) (h : (if c then A else B) = r) : B = r := by rw [if_neg hc] at h; exact h
theorem ite_c {c : Prop} [Decidable c] {α : Type} {A B r : α} {G : Prop} (h : (if c then A else B) = r) (kt : c → A = r → G) (kf : ¬ c → B = r → G) : G := by
  by_cases hc : c
  · exact kt hc (ite_t hc h)
  · exact kf hc (ite_f hc h)
theorem ck_c {ci : Nat} {M : Mem} {o : Option Nat} {α : Type} {f : Unit → Option α} {r : α} {G : Prop} (h : (ck ci M o).bind f = some r) (kk : (∃ i, o = some i ∧ i < M.1 ∧ kd i = ci) → f () = some r → G) : G := by
  obtain ⟨u, hu, hf⟩ := bnd h
  exact kk (ck_s hu) hf
theorem bnd_c {α β : Type} {o : Option α} {f : α → Option β} {r : β} {G : Prop} (h : o.bind f = some r) (kk : ∀ v, o = some v → f v = some r → G) : G := by
  obtain ⟨v, hv, hf⟩ := bnd h
  exact kk v hv hf
theorem thr_c {α β : Type} {w : Mem × (String ⊕ α)} {k : α → Option (Mem × (String ⊕ β))} {r : Mem × (String ⊕ β)} {G : Prop} (h : thr w k = some r) (kx : ∀ E, w.2 = .inl E → r = (w.1, .inl E) → G) (kk : ∀ v, w.2 = .inr v → k v = some r → G) : G := by
  obtain ⟨M, E | v⟩ := w
  · exact kx E rfl (Option.some.inj h).symm
  · exact kk v rfl h
/-- a guard on a number that a machine row needs -/
def chk {α : Type} (b : Bool) (k : Option α) : Option α := if b = true then k else none
theorem chk_c {α : Type} {b : Bool} {k : Option α} {r : α} {G : Prop} (h : chk b k = some r) (kk : b = true → k = some r → G) : G := by
  unfold chk at h
  split at h
  case isTrue hb => exact kk hb h
  case isFalse => cases h
def n64b (x : UInt64) : Bool := decide (x &&& 0x7fffffffffffffff ≤ 0x7ff0000000000000)
theorem n64_of {x : UInt64} (h : n64b x = true) : vf_n64 x := by
  unfold vf_n64
  simpa [n64b] using h
theorem ne_of_chk {a b : Int32} (h : (!(a == b)) = true) : ¬ a = b := by simpa using h
theorem J_dcmp {C : JC} {x : Bool} {cc : ByteArray} {nL : Nat} {rm : Room} {rt : Option FieldType} {own : String} {res : Res} {ce sl : Nat} {M : Mem} {pc : Nat} {lv : List (Nat × Value)} {st : List Value} {a b : UInt64} {op : CmpOp} (hC : Ok C x cc nL rm rt own res) (hdg : decode cc pc = .ok (.dcmp op, 1))
    (kk : J C ce sl M (pc + 1) lv (.int (Op.cmpValue (FP.dcmp a b) op) :: st)) : J C ce sl M pc lv (.double b :: .double a :: st) := by
  obtain ⟨p, l, e, R, s, m, args, below, meth, c, H0, A, Q, nL0, G, ad0, n0⟩ := C
  obtain ⟨hx, hb, hml, hnl, hown, hts, hKK, hH0, hA, hlk, hrt, hR, hQ, hxt⟩ := hC
  intro ad H locs ls hW hAa hag hn hvl hvs hS hl
  exact lv_dcmp hx hb hdg (kk ad H locs ls hW hAa hag hn hvl (vs_c Vok_int (vs_t (vs_t hvs))) hS hl)
theorem J_ldcw {C : JC} {x : Bool} {cc : ByteArray} {nL : Nat} {rm : Room} {rt : Option FieldType} {own : String} {res : Res} {ce sl : Nat} {M : Mem} {pc : Nat} {lv : List (Nat × Value)} {st : List Value} {index : Nat} {v : Int32} (hC : Ok C x cc nL rm rt own res) (hw : Cond.constant own index v ∈ BIG) (hdg : decode cc pc = .ok (.ldc_w index, 3))
    (kk : J C ce sl M (pc + 3) lv (.int v :: st)) : J C ce sl M pc lv st := by
  obtain ⟨p, l, e, R, s, m, args, below, meth, c, H0, A, Q, nL0, G, ad0, n0⟩ := C
  obtain ⟨hx, hb, hml, hnl, hown, hts, hKK, hH0, hA, hlk, hrt, hR, hQ, hxt⟩ := hC
  intro ad H locs ls hW hAa hag hn hvl hvs hS hl
  exact lv_ldcw hx hb hown (hts _ hw) hdg (kk ad H locs ls hW hAa hag hn hvl (vs_c Vok_int hvs) hS hl)
theorem J_inc {C : JC} {x : Bool} {cc : ByteArray} {nL : Nat} {rm : Room} {rt : Option FieldType} {own : String} {res : Res} {ce sl : Nat} {M : Mem} {pc : Nat} {lv : List (Nat × Value)} {st : List Value} {i j : Nat} {n : Int} {v k : Int32} {lv' : List (Nat × Value)} (hC : Ok C x cc nL rm rt own res) (hdg : decode cc pc = .ok (.iinc i n, 3)) (hi : i < nL) (hj : lv[j]? = some (i, .int v)) (hk : Int32.ofInt n = k) (hlv : (i, Value.int (v + k)) :: lv.filter (fun q => !(q.1 == i) && !(q.1 + 1 == i && q.2.category == 2)) = lv')
    (kk : J C ce sl M (pc + 3) lv' st) : J C ce sl M pc lv st := J_iinc hC hdg hi hj (by rw [hk]) hlv kk
theorem ne_toInt {a k : Int32} (h : ¬ a = k) : a.toInt ≠ k.toInt := fun e => h (Int32.toInt_inj.mp e)
theorem J_tabIn {C : JC} {x : Bool} {cc : ByteArray} {nL : Nat} {rm : Room} {rt : Option FieldType} {own : String} {res : Res} {ce sl : Nat} {M : Mem} {pc : Nat} {lv : List (Nat × Value)} {st : List Value} {dflt lo hi off : Int} {offs : Array Int} {len tgt : Nat} {a k : Int32} (hC : Ok C x cc nL rm rt own res) (hdg : decode cc pc = .ok (.tableswitch dflt lo hi offs, len)) (hak : a = k) (h1 : ¬ k.toInt < lo) (h2 : ¬ hi < k.toInt) (ho : offs[(k.toInt - lo).toNat]? = some off) (ht : (pc : Int) + off = (tgt : Int)) (kk : J C ce sl M tgt lv st) : J C ce sl M pc lv (.int a :: st) := by
  subst hak
  exact J_tableIn hC hdg h1 h2 ho ht kk
def thrE {α β : Type} (w : String ⊕ α) (fx : String → β) (k : α → β) : β := match w with
  | .inl E => fx E
  | .inr v => k v
theorem thrE_c {α β : Type} {w : String ⊕ α} {fx : String → β} {k : α → β} {r : β} {G : Prop} (h : thrE w fx k = r) (kx : ∀ E, w = .inl E → fx E = r → G) (kk : ∀ v, w = .inr v → k v = r → G) : G := by
  cases w with
  | inl E => exact kx E rfl h
  | inr v => exact kk v rfl h
def mapR {α : Type} (tv : α → Option Value) (w : String ⊕ α) : String ⊕ Option Value := match w with
  | .inl E => .inl E
  | .inr v => .inr (tv v)
def zb (x : Int32) : Bool := x == 0 || x == 1
theorem zb_nar {x : Int32} (h : zb x = true) : narrow .boolean (.int x) = .int x := by
  have h2 : x = 0 ∨ x = 1 := by simpa [zb] using h
  rcases h2 with rfl | rfl <;> decide
/-- more steps than any loop of the class takes -/
def FU : Nat := 2000000
theorem w_rw1 : Cond.native ⟨"java/lang/Double", "doubleToRawLongBits", "(D)J"⟩ ∈ BIG := by decide +kernel
theorem w_rw2 : Cond.static ⟨"java/lang/Double", "doubleToRawLongBits", "(D)J"⟩ ∈ BIG := by decide +kernel
theorem w_rw3 : Cond.initialized "java/lang/Double" ∈ BIG := by decide +kernel
theorem w_rw4 : Cond.methodLink RJxe99ae 134 ⟨"java/lang/Double", "doubleToRawLongBits", "(D)J"⟩ ∈ BIG := by decide +kernel
theorem J_raw {C : JC} {x : Bool} {cc : ByteArray} {nL : Nat} {rm : Room} {rt : Option FieldType} {res : Res} {ce sl : Nat} {M : Mem} {pc : Nat} {lv : List (Nat × Value)} {st : List Value} {b : UInt64} (hC : Ok C x cc nL rm rt RJxe99ae res) (hf : 1 ≤ rm.frames) (hlo : (st.map fun v => v.category).sum + 15 ≤ rm.locals) (hdg : decode cc pc = .ok (.invokestatic 134, 3))
    (kk : J C ce sl M (pc + 3) lv (.long b.toInt64 :: st)) : J C ce sl M pc lv (.double b :: st) := by
  obtain ⟨p, l, e, R, s, m, args, below, meth, c, H0, A, Q, nL0, G, ad0, n0⟩ := C
  obtain ⟨hx, hb, hml, hnl, hown, hts, hKK, hH0, hA, hlk, hrt, hR, hQ, hxt⟩ := hC
  intro ad H locs ls hW hAa hag hn hvl hvs hS hl
  subst hR
  exact vn_d2l hx hb (by rw [hml, ← hnl]; exact hl.1.symm) hown (hts _ w_rw4) (hts _ w_rw1) (hts _ w_rw2) (hts _ w_rw3) hf (by rw [cat_map]; exact hlo) hdg (kk ad H locs ls hW hAa hag hn hvl (vs_c Vok_long (vs_t hvs)) hS hl)
end
section
/-! ===== what is made ===== -/
def up1 {α : Type} (f : Nat → α) (k : Nat) (v : α) : Nat → α := fun j => if j = k then v else f j
def al (M : Mem) : Mem := (M.1 + 1, up1 (mI M) M.1 (fun _ => 0), up1 (mJ M) M.1 (fun _ => 0), up1 (mR M) M.1 (fun _ => none), up1 (mD M) M.1 (fun _ => 0))
def nwO (ci : Nat) (M : Mem) : Option Mem := if kd M.1 = ci then some (al M) else none
def nwA (kk : Nat) (M : Mem) (n : Int32) : Option Mem := if kd M.1 = kk ∧ ¬ n < 0 ∧ ln M.1 = n.toNatClampNeg then some (al M) else none
/-- an int[5][9] -/
def al6 (M : Mem) : Mem := (M.1 + 6, (fun a => if M.1 ≤ a ∧ a < M.1 + 6 then fun _ => 0 else mI M a), (fun a => if M.1 ≤ a ∧ a < M.1 + 6 then fun _ => 0 else mJ M a), (fun a => if a = M.1 then fun k => if k < 5 then some (M.1 + 1 + k) else none else if M.1 ≤ a ∧ a < M.1 + 6 then fun _ => none else mR M a), (fun a => if M.1 ≤ a ∧ a < M.1 + 6 then fun _ => 0 else mD M a))
def nwG (M : Mem) : Option Mem := if kd M.1 = 9 ∧ ln M.1 = 5 ∧ (List.range 5).all (fun k => kd (M.1 + 1 + k) == 4 && ln (M.1 + 1 + k) == 9) = true then some (al6 M) else none
theorem re_ag {ad ad' : Nat → Nat} {r : Option Nat} (h : ∀ j, r = some j → ad' j = ad j) : re ad' r = re ad r := by
  cases r with
  | none => rfl
  | some j => exact congrArg (fun x => va_rf (some x)) (h j rfl)
theorem map_agr {ad ad' : Nat → Nat} {r : Option Nat} (h : ∀ j, r = some j → ad' j = ad j) : r.map ad' = r.map ad := by
  cases r with
  | none => rfl
  | some j => exact congrArg some (h j rfl)
theorem ent_ag {G : Geo} {ad ad' : Nat → Nat} {M M2 : Mem} {i : Nat} (eI : mI M2 i = mI M i) (eJ : mJ M2 i = mJ M i) (eR : mR M2 i = mR M i) (eD : mD M2 i = mD M i) (h : ∀ k j, mR M i k = some j → ad' j = ad j) : ent G ad' M2 i = ent G ad M i := by
  have e1 : ∀ k, re ad' (mR M i k) = re ad (mR M i k) := fun k => re_ag (h k)
  have e2 : (fun k => (mR M i k).map ad') = fun k => (mR M i k).map ad := funext fun k => map_agr (h k)
  simp only [ent, eI, eJ, eR, eD, e1, e2]
theorem wd_al {G : Geo} {ad : Nat → Nat} {M : Mem} {H H1 : Heap} {A : Nat → Prop} {q : Nat} {x : va_E} (hW : Wd G ad M H) (hP1 : va_P G.1 vwCl (pool G ad M ++ [(q, x)]) H1) (hD1 : va_D A (pool G ad M ++ [(q, x)])) (hx : ent G (va_up ad M.1 q) (al M) M.1 = x) :
    Wd G (va_up ad M.1 q) (al M) H1 ∧ (∀ i, i < (al M).1 → A (va_up ad M.1 q i)) ∧ ∀ i, i < M.1 → va_up ad M.1 q i = ad i := by
  have hag : ∀ i, i < M.1 → va_up ad M.1 q i = ad i := fun i hi => va_up_ne _ _ (Nat.ne_of_lt hi)
  have e : pool G (va_up ad M.1 q) (al M) = pool G ad M ++ [(q, x)] := by
    show (List.range (M.1 + 1)).map _ = _
    rw [List.range_succ, List.map_append]
    congr 1
    · refine List.map_congr_left fun i hi => ?_
      have hi := List.mem_range.mp hi
      have hne : i ≠ M.1 := Nat.ne_of_lt hi
      rw [hag i hi, ent_ag (M2 := al M) (M := M) (ad := ad) (if_neg hne) (if_neg hne) (if_neg hne) (if_neg hne) (fun k j e => hag j (hW.2.2 i k j hi e))]
    · simp only [List.map_cons, List.map_nil, hx, va_up_self]
  have hl : (pool G ad M).length = M.1 := by simp [pool]
  have hA : ∀ i, i < M.1 + 1 → A (va_up ad M.1 q i) := fun i hi => by
    have := hD1.2 i (va_up ad M.1 q i, ent G (va_up ad M.1 q) (al M) i) (by rw [← e]; exact pool_at hi)
    exact this
  refine ⟨⟨by rw [e]; exact hP1, fun i j hi hj hij => ?_, fun i k j hi hr => ?_⟩, hA, hag⟩
  · exact hD1.1 i j _ _ (by rw [← e]; exact pool_at hi) (by rw [← e]; exact pool_at hj) hij
  · by_cases h : i = M.1
    · have hr2 : up1 (mR M) M.1 (fun _ => none) i k = some j := hr
      simp [up1, h] at hr2
    · have hr2 : up1 (mR M) M.1 (fun _ => none) i k = some j := hr
      simp only [up1, h, if_false] at hr2
      exact Nat.lt_succ_of_lt (hW.2.2 i k j (by have : i < M.1 + 1 := hi; omega) hr2)
theorem K_same {G : Geo} {s : State} {cA : ClassId} {ty : FieldType} {t0 : Nat} {c0 : ClassId} (hK : va_K G.1 vwCl (tysOf G ++ [(cA, ty)]) s) (h0 : t0 < 7) (h1 : (tysOf G)[t0]? = some (c0, ty)) : cA = c0 := by
  have a := (hK.2 7 (cA, ty) rfl).2
  have b := (hK.2 t0 (c0, ty) (by rw [List.getElem?_append_left (by simpa using h0)]; exact h1)).2
  have key : ∀ c, va_RA s c ty → s.vm.findClass ("[" ++ ty.toString) = some c := by
    intro c h
    cases ty <;> first | exact h | (obtain ⟨_, _, _, _, _, h4⟩ := h; exact h4)
  exact Option.some.inj ((key _ a).symm.trans (key _ b))
theorem w_inst0 : Cond.instantiable RX0 6 ∈ BIG := by decide +kernel
theorem w_ini0 : Cond.initialized RX0 ∈ BIG := by decide +kernel
theorem w_inst1 : Cond.instantiable RX1 5 ∈ BIG := by decide +kernel
theorem w_ini1 : Cond.initialized RX1 ∈ BIG := by decide +kernel
theorem w_inst2 : Cond.instantiable RX2 9 ∈ BIG := by decide +kernel
theorem w_ini2 : Cond.initialized RX2 ∈ BIG := by decide +kernel
theorem w_inst3 : Cond.instantiable RX3 13 ∈ BIG := by decide +kernel
theorem w_ini3 : Cond.initialized RX3 ∈ BIG := by decide +kernel
theorem w_arr4 : Cond.arrayClass (newarray.typeOf .int) ∈ BIG := by decide +kernel
theorem w_arr5 : Cond.arrayClass (newarray.typeOf .long) ∈ BIG := by decide +kernel
theorem w_arr6 : Cond.arrayClass (newarray.typeOf .boolean) ∈ BIG := by decide +kernel
theorem w_arr10 : Cond.arrayClass (newarray.typeOf .double) ∈ BIG := by decide +kernel
theorem J_new0 {C : JC} {x : Bool} {cc : ByteArray} {nL : Nat} {rm : Room} {rt : Option FieldType} {own : String} {res : Res} {ce sl : Nat} {M : Mem} {pc : Nat} {lv : List (Nat × Value)} {st : List Value} {β : Type} {r0 : β} {f : Mem → Option β} {index : Nat} (hC : Ok C x cc nL rm rt own res) (hw : Cond.classLink own index RX0 ∈ BIG) (hce : ce + 1 ≤ rm.cells) (hsl : sl + 6 ≤ rm.slots) (hdg : decode cc pc = .ok (.new index, 3)) (h : (nwO 0 M).bind f = some r0)
    (kk : ∀ M', nwO 0 M = some M' → f M' = some r0 → J C (ce + 1) (sl + 6) M' (pc + 3) lv (rf (some M.1) :: st)) : J C ce sl M pc lv st := by
  obtain ⟨M', hv, hf⟩ := bnd h
  have kk := kk M' hv hf
  unfold nwO at hv
  split at hv
  case isFalse => cases hv
  case isTrue hi =>
  cases hv
  obtain ⟨p, l, e, R, s, m, args, below, meth, c, H0, A, Q, nL0, G, ad0, n0⟩ := C
  obtain ⟨hx, hb, hml, hnl, hown, hts, hKK, hH0, hA, hlk, hrt, hR, hQ, hxt⟩ := hC
  intro ad H locs ls hW hAa hag hn hvl hvs hS hl
  subst hR
  refine va_new (D := G.1) (ci := 0) (C := RX0) (T := TX0) (N := 6) (fs := [.null, .null, .null, .int 0, .int 0, .int 0]) hx hb hts inB0 tyX0 tyX0_ok hown (hts _ hw) (hts _ w_inst0) (hts _ w_ini0) hKK.1.1 hW.1 (pool_D hW hAa) hS (by rw [hH0]; exact hA) rfl (by decide +kernel) hce hsl hdg (fun q H1 hP1 hD1 hS1 => ?_)
  obtain ⟨w1, w2, w3⟩ := wd_al hW hP1 hD1 (by rw [ent_0 hi]; simp [al, mI, mJ, mR, up1, re, va_rf])
  have k2 := kk (va_up ad M.1 q) H1 locs ls w1 w2 (fun i hi => (w3 i (Nat.lt_of_lt_of_le hi hn)).trans (hag i hi)) (Nat.le_succ_of_le hn) (fun q hq => Vok_mono (Nat.le_succ _) (hvl q hq)) (vs_c (fun i e => by cases e; exact Nat.lt_succ_self _) (fun v hv => Vok_mono (Nat.le_succ _) (hvs v hv))) hS1 (by rw [mapl_ag w3 hvl]; exact hl)
  rw [List.map_cons, map_ag w3 hvs] at k2
  have e9 : phys (va_up ad M.1 q) (rf (some M.1)) = .ref q := congrArg Value.ref (va_up_self _ _ _)
  rw [e9] at k2
  exact k2
theorem J_new1 {C : JC} {x : Bool} {cc : ByteArray} {nL : Nat} {rm : Room} {rt : Option FieldType} {own : String} {res : Res} {ce sl : Nat} {M : Mem} {pc : Nat} {lv : List (Nat × Value)} {st : List Value} {β : Type} {r0 : β} {f : Mem → Option β} {index : Nat} (hC : Ok C x cc nL rm rt own res) (hw : Cond.classLink own index RX1 ∈ BIG) (hce : ce + 1 ≤ rm.cells) (hsl : sl + 5 ≤ rm.slots) (hdg : decode cc pc = .ok (.new index, 3)) (h : (nwO 1 M).bind f = some r0)
    (kk : ∀ M', nwO 1 M = some M' → f M' = some r0 → J C (ce + 1) (sl + 5) M' (pc + 3) lv (rf (some M.1) :: st)) : J C ce sl M pc lv st := by
  obtain ⟨M', hv, hf⟩ := bnd h
  have kk := kk M' hv hf
  unfold nwO at hv
  split at hv
  case isFalse => cases hv
  case isTrue hi =>
  cases hv
  obtain ⟨p, l, e, R, s, m, args, below, meth, c, H0, A, Q, nL0, G, ad0, n0⟩ := C
  obtain ⟨hx, hb, hml, hnl, hown, hts, hKK, hH0, hA, hlk, hrt, hR, hQ, hxt⟩ := hC
  intro ad H locs ls hW hAa hag hn hvl hvs hS hl
  subst hR
  refine va_new (D := G.1) (ci := 1) (C := RX1) (T := TX1) (N := 5) (fs := [.null, .null, .int 0, .int 0, .int 0]) hx hb hts inB1 tyX1 tyX1_ok hown (hts _ hw) (hts _ w_inst1) (hts _ w_ini1) hKK.1.1 hW.1 (pool_D hW hAa) hS (by rw [hH0]; exact hA) rfl (by decide +kernel) hce hsl hdg (fun q H1 hP1 hD1 hS1 => ?_)
  obtain ⟨w1, w2, w3⟩ := wd_al hW hP1 hD1 (by rw [ent_1 hi]; simp [al, mI, mJ, mR, up1, re, va_rf])
  have k2 := kk (va_up ad M.1 q) H1 locs ls w1 w2 (fun i hi => (w3 i (Nat.lt_of_lt_of_le hi hn)).trans (hag i hi)) (Nat.le_succ_of_le hn) (fun q hq => Vok_mono (Nat.le_succ _) (hvl q hq)) (vs_c (fun i e => by cases e; exact Nat.lt_succ_self _) (fun v hv => Vok_mono (Nat.le_succ _) (hvs v hv))) hS1 (by rw [mapl_ag w3 hvl]; exact hl)
  rw [List.map_cons, map_ag w3 hvs] at k2
  have e9 : phys (va_up ad M.1 q) (rf (some M.1)) = .ref q := congrArg Value.ref (va_up_self _ _ _)
  rw [e9] at k2
  exact k2
theorem J_new2 {C : JC} {x : Bool} {cc : ByteArray} {nL : Nat} {rm : Room} {rt : Option FieldType} {own : String} {res : Res} {ce sl : Nat} {M : Mem} {pc : Nat} {lv : List (Nat × Value)} {st : List Value} {β : Type} {r0 : β} {f : Mem → Option β} {index : Nat} (hC : Ok C x cc nL rm rt own res) (hw : Cond.classLink own index RX2 ∈ BIG) (hce : ce + 1 ≤ rm.cells) (hsl : sl + 9 ≤ rm.slots) (hdg : decode cc pc = .ok (.new index, 3)) (h : (nwO 2 M).bind f = some r0)
    (kk : ∀ M', nwO 2 M = some M' → f M' = some r0 → J C (ce + 1) (sl + 9) M' (pc + 3) lv (rf (some M.1) :: st)) : J C ce sl M pc lv st := by
  obtain ⟨M', hv, hf⟩ := bnd h
  have kk := kk M' hv hf
  unfold nwO at hv
  split at hv
  case isFalse => cases hv
  case isTrue hi =>
  cases hv
  obtain ⟨p, l, e, R, s, m, args, below, meth, c, H0, A, Q, nL0, G, ad0, n0⟩ := C
  obtain ⟨hx, hb, hml, hnl, hown, hts, hKK, hH0, hA, hlk, hrt, hR, hQ, hxt⟩ := hC
  intro ad H locs ls hW hAa hag hn hvl hvs hS hl
  subst hR
  refine va_new (D := G.1) (ci := 2) (C := RX2) (T := TX2) (N := 9) (fs := [.null, .null, .int 0, .null, .null, .null, .int 0, .null, .null]) hx hb hts inB2 tyX2 tyX2_ok hown (hts _ hw) (hts _ w_inst2) (hts _ w_ini2) hKK.1.1 hW.1 (pool_D hW hAa) hS (by rw [hH0]; exact hA) rfl (by decide +kernel) hce hsl hdg (fun q H1 hP1 hD1 hS1 => ?_)
  obtain ⟨w1, w2, w3⟩ := wd_al hW hP1 hD1 (by rw [ent_2 hi]; simp [al, mI, mJ, mR, up1, re, va_rf])
  have k2 := kk (va_up ad M.1 q) H1 locs ls w1 w2 (fun i hi => (w3 i (Nat.lt_of_lt_of_le hi hn)).trans (hag i hi)) (Nat.le_succ_of_le hn) (fun q hq => Vok_mono (Nat.le_succ _) (hvl q hq)) (vs_c (fun i e => by cases e; exact Nat.lt_succ_self _) (fun v hv => Vok_mono (Nat.le_succ _) (hvs v hv))) hS1 (by rw [mapl_ag w3 hvl]; exact hl)
  rw [List.map_cons, map_ag w3 hvs] at k2
  have e9 : phys (va_up ad M.1 q) (rf (some M.1)) = .ref q := congrArg Value.ref (va_up_self _ _ _)
  rw [e9] at k2
  exact k2
theorem J_new3 {C : JC} {x : Bool} {cc : ByteArray} {nL : Nat} {rm : Room} {rt : Option FieldType} {own : String} {res : Res} {ce sl : Nat} {M : Mem} {pc : Nat} {lv : List (Nat × Value)} {st : List Value} {β : Type} {r0 : β} {f : Mem → Option β} {index : Nat} (hC : Ok C x cc nL rm rt own res) (hw : Cond.classLink own index RX3 ∈ BIG) (hce : ce + 1 ≤ rm.cells) (hsl : sl + 13 ≤ rm.slots) (hdg : decode cc pc = .ok (.new index, 3)) (h : (nwO 3 M).bind f = some r0)
    (kk : ∀ M', nwO 3 M = some M' → f M' = some r0 → J C (ce + 1) (sl + 13) M' (pc + 3) lv (rf (some M.1) :: st)) : J C ce sl M pc lv st := by
  obtain ⟨M', hv, hf⟩ := bnd h
  have kk := kk M' hv hf
  unfold nwO at hv
  split at hv
  case isFalse => cases hv
  case isTrue hi =>
  cases hv
  obtain ⟨p, l, e, R, s, m, args, below, meth, c, H0, A, Q, nL0, G, ad0, n0⟩ := C
  obtain ⟨hx, hb, hml, hnl, hown, hts, hKK, hH0, hA, hlk, hrt, hR, hQ, hxt⟩ := hC
  intro ad H locs ls hW hAa hag hn hvl hvs hS hl
  subst hR
  refine va_new (D := G.1) (ci := 3) (C := RX3) (T := TX3) (N := 13) (fs := [.int 0, .null, .null, .int 0, .null, .null, .null, .int 0, .null, .null, .int 0, .null, .long 0]) hx hb hts inB3 tyX3 tyX3_ok hown (hts _ hw) (hts _ w_inst3) (hts _ w_ini3) hKK.1.1 hW.1 (pool_D hW hAa) hS (by rw [hH0]; exact hA) rfl (by decide +kernel) hce hsl hdg (fun q H1 hP1 hD1 hS1 => ?_)
  obtain ⟨w1, w2, w3⟩ := wd_al hW hP1 hD1 (by rw [ent_3 hi]; simp [al, mI, mJ, mR, up1, re, va_rf])
  have k2 := kk (va_up ad M.1 q) H1 locs ls w1 w2 (fun i hi => (w3 i (Nat.lt_of_lt_of_le hi hn)).trans (hag i hi)) (Nat.le_succ_of_le hn) (fun q hq => Vok_mono (Nat.le_succ _) (hvl q hq)) (vs_c (fun i e => by cases e; exact Nat.lt_succ_self _) (fun v hv => Vok_mono (Nat.le_succ _) (hvs v hv))) hS1 (by rw [mapl_ag w3 hvl]; exact hl)
  rw [List.map_cons, map_ag w3 hvs] at k2
  have e9 : phys (va_up ad M.1 q) (rf (some M.1)) = .ref q := congrArg Value.ref (va_up_self _ _ _)
  rw [e9] at k2
  exact k2
theorem J_newa4 {C : JC} {x : Bool} {cc : ByteArray} {nL : Nat} {rm : Room} {rt : Option FieldType} {own : String} {res : Res} {ce sl : Nat} {M : Mem} {pc : Nat} {lv : List (Nat × Value)} {st : List Value} {β : Type} {r0 : β} {f : Mem → Option β} {n : Int32} {n' : Nat} (hC : Ok C x cc nL rm rt own res) (hn9 : n.toNatClampNeg = n') (hby : n' * componentBytes .int ≤ 536870912) (hce : ce + 1 ≤ rm.cells) (hsl : sl + n' ≤ rm.slots) (hdg : decode cc pc = .ok (.newarray .int, 2)) (h : (nwA 4 M n).bind f = some r0)
    (kk : ∀ M', nwA 4 M n = some M' → f M' = some r0 → J C (ce + 1) (sl + n') M' (pc + 2) lv (rf (some M.1) :: st)) : J C ce sl M pc lv (.int n :: st) := by
  obtain ⟨M', hv, hf⟩ := bnd h
  have kk := kk M' hv hf
  unfold nwA at hv
  split at hv
  case isFalse => cases hv
  case isTrue hi =>
  cases hv
  obtain ⟨p, l, e, R, s, m, args, below, meth, c, H0, A, Q, nL0, G, ad0, n0⟩ := C
  obtain ⟨hx, hb, hml, hnl, hown, hts, hKK, hH0, hA, hlk, hrt, hR, hQ, hxt⟩ := hC
  intro ad H locs ls hW hAa hag hn hvl hvs hS hl
  subst hR
  refine va_newa (atype := .int) (a0 := (n', .inl (fun _ => 0))) hx hb (hts _ w_arr4) rfl hKK.1.1 hW.1 (pool_D hW hAa) hS (by rw [hH0]; exact hA) (fun cA => by rw [vp_cell_i]; rfl) hi.2.1 hn9 hby hce hsl hdg (fun q cA H1 hK1 hP1 hD1 hS1 => ?_)
  have ec := K_same hK1 (t0 := 0) (by decide) rfl
  subst ec
  obtain ⟨w1, w2, w3⟩ := wd_al hW hP1 hD1 (by rw [ent_4 hi.1, hi.2.2, hn9]; simp [al, mI, mJ, mR, mD, up1])
  have k2 := kk (va_up ad M.1 q) H1 locs ls w1 w2 (fun i hi => (w3 i (Nat.lt_of_lt_of_le hi hn)).trans (hag i hi)) (Nat.le_succ_of_le hn) (fun q hq => Vok_mono (Nat.le_succ _) (hvl q hq)) (vs_c (fun i e => by cases e; exact Nat.lt_succ_self _) (fun v hv => Vok_mono (Nat.le_succ _) ((vs_t hvs) v hv))) hS1 (by rw [mapl_ag w3 hvl]; exact hl)
  rw [List.map_cons, map_ag w3 (vs_t hvs)] at k2
  have e9 : phys (va_up ad M.1 q) (rf (some M.1)) = .ref q := congrArg Value.ref (va_up_self _ _ _)
  rw [e9] at k2
  exact k2
theorem J_newa5 {C : JC} {x : Bool} {cc : ByteArray} {nL : Nat} {rm : Room} {rt : Option FieldType} {own : String} {res : Res} {ce sl : Nat} {M : Mem} {pc : Nat} {lv : List (Nat × Value)} {st : List Value} {β : Type} {r0 : β} {f : Mem → Option β} {n : Int32} {n' : Nat} (hC : Ok C x cc nL rm rt own res) (hn9 : n.toNatClampNeg = n') (hby : n' * componentBytes .long ≤ 536870912) (hce : ce + 1 ≤ rm.cells) (hsl : sl + n' ≤ rm.slots) (hdg : decode cc pc = .ok (.newarray .long, 2)) (h : (nwA 5 M n).bind f = some r0)
    (kk : ∀ M', nwA 5 M n = some M' → f M' = some r0 → J C (ce + 1) (sl + n') M' (pc + 2) lv (rf (some M.1) :: st)) : J C ce sl M pc lv (.int n :: st) := by
  obtain ⟨M', hv, hf⟩ := bnd h
  have kk := kk M' hv hf
  unfold nwA at hv
  split at hv
  case isFalse => cases hv
  case isTrue hi =>
  cases hv
  obtain ⟨p, l, e, R, s, m, args, below, meth, c, H0, A, Q, nL0, G, ad0, n0⟩ := C
  obtain ⟨hx, hb, hml, hnl, hown, hts, hKK, hH0, hA, hlk, hrt, hR, hQ, hxt⟩ := hC
  intro ad H locs ls hW hAa hag hn hvl hvs hS hl
  subst hR
  refine va_newa (atype := .long) (a0 := (n', .inr (.inl (fun _ => 0)))) hx hb (hts _ w_arr5) rfl hKK.1.1 hW.1 (pool_D hW hAa) hS (by rw [hH0]; exact hA) (fun cA => by rw [vp_cell_l]; rfl) hi.2.1 hn9 hby hce hsl hdg (fun q cA H1 hK1 hP1 hD1 hS1 => ?_)
  have ec := K_same hK1 (t0 := 1) (by decide) rfl
  subst ec
  obtain ⟨w1, w2, w3⟩ := wd_al hW hP1 hD1 (by rw [ent_5 hi.1, hi.2.2, hn9]; simp [al, mI, mJ, mR, mD, up1])
  have k2 := kk (va_up ad M.1 q) H1 locs ls w1 w2 (fun i hi => (w3 i (Nat.lt_of_lt_of_le hi hn)).trans (hag i hi)) (Nat.le_succ_of_le hn) (fun q hq => Vok_mono (Nat.le_succ _) (hvl q hq)) (vs_c (fun i e => by cases e; exact Nat.lt_succ_self _) (fun v hv => Vok_mono (Nat.le_succ _) ((vs_t hvs) v hv))) hS1 (by rw [mapl_ag w3 hvl]; exact hl)
  rw [List.map_cons, map_ag w3 (vs_t hvs)] at k2
  have e9 : phys (va_up ad M.1 q) (rf (some M.1)) = .ref q := congrArg Value.ref (va_up_self _ _ _)
  rw [e9] at k2
  exact k2
theorem J_newa6 {C : JC} {x : Bool} {cc : ByteArray} {nL : Nat} {rm : Room} {rt : Option FieldType} {own : String} {res : Res} {ce sl : Nat} {M : Mem} {pc : Nat} {lv : List (Nat × Value)} {st : List Value} {β : Type} {r0 : β} {f : Mem → Option β} {n : Int32} {n' : Nat} (hC : Ok C x cc nL rm rt own res) (hn9 : n.toNatClampNeg = n') (hby : n' * componentBytes .boolean ≤ 536870912) (hce : ce + 1 ≤ rm.cells) (hsl : sl + n' ≤ rm.slots) (hdg : decode cc pc = .ok (.newarray .boolean, 2)) (h : (nwA 6 M n).bind f = some r0)
    (kk : ∀ M', nwA 6 M n = some M' → f M' = some r0 → J C (ce + 1) (sl + n') M' (pc + 2) lv (rf (some M.1) :: st)) : J C ce sl M pc lv (.int n :: st) := by
  obtain ⟨M', hv, hf⟩ := bnd h
  have kk := kk M' hv hf
  unfold nwA at hv
  split at hv
  case isFalse => cases hv
  case isTrue hi =>
  cases hv
  obtain ⟨p, l, e, R, s, m, args, below, meth, c, H0, A, Q, nL0, G, ad0, n0⟩ := C
  obtain ⟨hx, hb, hml, hnl, hown, hts, hKK, hH0, hA, hlk, hrt, hR, hQ, hxt⟩ := hC
  intro ad H locs ls hW hAa hag hn hvl hvs hS hl
  subst hR
  refine va_newa (atype := .boolean) (a0 := (n', .inl (fun _ => 0))) hx hb (hts _ w_arr6) rfl hKK.1.1 hW.1 (pool_D hW hAa) hS (by rw [hH0]; exact hA) (fun cA => by rw [vp_cell_i]; rfl) hi.2.1 hn9 hby hce hsl hdg (fun q cA H1 hK1 hP1 hD1 hS1 => ?_)
  have ec := K_same hK1 (t0 := 2) (by decide) rfl
  subst ec
  obtain ⟨w1, w2, w3⟩ := wd_al hW hP1 hD1 (by rw [ent_6 hi.1, hi.2.2, hn9]; simp [al, mI, mJ, mR, mD, up1])
  have k2 := kk (va_up ad M.1 q) H1 locs ls w1 w2 (fun i hi => (w3 i (Nat.lt_of_lt_of_le hi hn)).trans (hag i hi)) (Nat.le_succ_of_le hn) (fun q hq => Vok_mono (Nat.le_succ _) (hvl q hq)) (vs_c (fun i e => by cases e; exact Nat.lt_succ_self _) (fun v hv => Vok_mono (Nat.le_succ _) ((vs_t hvs) v hv))) hS1 (by rw [mapl_ag w3 hvl]; exact hl)
  rw [List.map_cons, map_ag w3 (vs_t hvs)] at k2
  have e9 : phys (va_up ad M.1 q) (rf (some M.1)) = .ref q := congrArg Value.ref (va_up_self _ _ _)
  rw [e9] at k2
  exact k2
theorem J_newa10 {C : JC} {x : Bool} {cc : ByteArray} {nL : Nat} {rm : Room} {rt : Option FieldType} {own : String} {res : Res} {ce sl : Nat} {M : Mem} {pc : Nat} {lv : List (Nat × Value)} {st : List Value} {β : Type} {r0 : β} {f : Mem → Option β} {n : Int32} {n' : Nat} (hC : Ok C x cc nL rm rt own res) (hn9 : n.toNatClampNeg = n') (hby : n' * componentBytes .double ≤ 536870912) (hce : ce + 1 ≤ rm.cells) (hsl : sl + n' ≤ rm.slots) (hdg : decode cc pc = .ok (.newarray .double, 2)) (h : (nwA 10 M n).bind f = some r0)
    (kk : ∀ M', nwA 10 M n = some M' → f M' = some r0 → J C (ce + 1) (sl + n') M' (pc + 2) lv (rf (some M.1) :: st)) : J C ce sl M pc lv (.int n :: st) := by
  obtain ⟨M', hv, hf⟩ := bnd h
  have kk := kk M' hv hf
  unfold nwA at hv
  split at hv
  case isFalse => cases hv
  case isTrue hi =>
  cases hv
  obtain ⟨p, l, e, R, s, m, args, below, meth, c, H0, A, Q, nL0, G, ad0, n0⟩ := C
  obtain ⟨hx, hb, hml, hnl, hown, hts, hKK, hH0, hA, hlk, hrt, hR, hQ, hxt⟩ := hC
  intro ad H locs ls hW hAa hag hn hvl hvs hS hl
  subst hR
  refine va_newa (atype := .double) (a0 := (n', .inr (.inr (.inr (.inl (fun _ => 0)))))) hx hb (hts _ w_arr10) rfl hKK.1.1 hW.1 (pool_D hW hAa) hS (by rw [hH0]; exact hA) (fun cA => by rw [vp_cell_d]; rfl) hi.2.1 hn9 hby hce hsl hdg (fun q cA H1 hK1 hP1 hD1 hS1 => ?_)
  have ec := K_same hK1 (t0 := 6) (by decide) rfl
  subst ec
  obtain ⟨w1, w2, w3⟩ := wd_al hW hP1 hD1 (by rw [ent_10 hi.1, hi.2.2, hn9]; simp [al, mI, mJ, mR, mD, up1])
  have k2 := kk (va_up ad M.1 q) H1 locs ls w1 w2 (fun i hi => (w3 i (Nat.lt_of_lt_of_le hi hn)).trans (hag i hi)) (Nat.le_succ_of_le hn) (fun q hq => Vok_mono (Nat.le_succ _) (hvl q hq)) (vs_c (fun i e => by cases e; exact Nat.lt_succ_self _) (fun v hv => Vok_mono (Nat.le_succ _) ((vs_t hvs) v hv))) hS1 (by rw [mapl_ag w3 hvl]; exact hl)
  rw [List.map_cons, map_ag w3 (vs_t hvs)] at k2
  have e9 : phys (va_up ad M.1 q) (rf (some M.1)) = .ref q := congrArg Value.ref (va_up_self _ _ _)
  rw [e9] at k2
  exact k2
theorem J_anew7 {C : JC} {x : Bool} {cc : ByteArray} {nL : Nat} {rm : Room} {rt : Option FieldType} {own : String} {res : Res} {ce sl : Nat} {M : Mem} {pc : Nat} {lv : List (Nat × Value)} {st : List Value} {β : Type} {r0 : β} {f : Mem → Option β} {n : Int32} {n' index : Nat} (hC : Ok C x cc nL rm rt own res) (hw : Cond.classLink own index RX0 ∈ BIG) (hn9 : n.toNatClampNeg = n') (hby : n' * 4 ≤ 536870912) (hce : ce + 1 ≤ rm.cells) (hsl : sl + n' ≤ rm.slots) (hdg : decode cc pc = .ok (.anewarray index, 3)) (h : (nwA 7 M n).bind f = some r0)
    (kk : ∀ M', nwA 7 M n = some M' → f M' = some r0 → J C (ce + 1) (sl + n') M' (pc + 3) lv (rf (some M.1) :: st)) : J C ce sl M pc lv (.int n :: st) := by
  obtain ⟨M', hv, hf⟩ := bnd h
  have kk := kk M' hv hf
  unfold nwA at hv
  split at hv
  case isFalse => cases hv
  case isTrue hi =>
  cases hv
  obtain ⟨p, l, e, R, s, m, args, below, meth, c, H0, A, Q, nL0, G, ad0, n0⟩ := C
  obtain ⟨hx, hb, hml, hnl, hown, hts, hKK, hH0, hA, hlk, hrt, hR, hQ, hxt⟩ := hC
  intro ad H locs ls hW hAa hag hn hvl hvs hS hl
  subst hR
  refine va_newq (C := RX0) hx hb hown (hts _ hw) hKK.1.2.2.2.1.1 hKK.1.1 hW.1 (pool_D hW hAa) hS (by rw [hH0]; exact hA) hi.2.1 hn9 hby hce hsl hdg (fun q cA H1 hK1 hP1 hD1 hS1 => ?_)
  have ec := K_same hK1 (t0 := 3) (by decide) rfl
  subst ec
  obtain ⟨w1, w2, w3⟩ := wd_al hW hP1 hD1 (by rw [ent_7 hi.1, hi.2.2, hn9]; simp [al, mI, mJ, mR, mD, up1])
  have k2 := kk (va_up ad M.1 q) H1 locs ls w1 w2 (fun i hi => (w3 i (Nat.lt_of_lt_of_le hi hn)).trans (hag i hi)) (Nat.le_succ_of_le hn) (fun q hq => Vok_mono (Nat.le_succ _) (hvl q hq)) (vs_c (fun i e => by cases e; exact Nat.lt_succ_self _) (fun v hv => Vok_mono (Nat.le_succ _) ((vs_t hvs) v hv))) hS1 (by rw [mapl_ag w3 hvl]; exact hl)
  rw [List.map_cons, map_ag w3 (vs_t hvs)] at k2
  have e9 : phys (va_up ad M.1 q) (rf (some M.1)) = .ref q := congrArg Value.ref (va_up_self _ _ _)
  rw [e9] at k2
  exact k2
theorem J_anew8 {C : JC} {x : Bool} {cc : ByteArray} {nL : Nat} {rm : Room} {rt : Option FieldType} {own : String} {res : Res} {ce sl : Nat} {M : Mem} {pc : Nat} {lv : List (Nat × Value)} {st : List Value} {β : Type} {r0 : β} {f : Mem → Option β} {n : Int32} {n' index : Nat} (hC : Ok C x cc nL rm rt own res) (hw : Cond.classLink own index RX1 ∈ BIG) (hn9 : n.toNatClampNeg = n') (hby : n' * 4 ≤ 536870912) (hce : ce + 1 ≤ rm.cells) (hsl : sl + n' ≤ rm.slots) (hdg : decode cc pc = .ok (.anewarray index, 3)) (h : (nwA 8 M n).bind f = some r0)
    (kk : ∀ M', nwA 8 M n = some M' → f M' = some r0 → J C (ce + 1) (sl + n') M' (pc + 3) lv (rf (some M.1) :: st)) : J C ce sl M pc lv (.int n :: st) := by
  obtain ⟨M', hv, hf⟩ := bnd h
  have kk := kk M' hv hf
  unfold nwA at hv
  split at hv
  case isFalse => cases hv
  case isTrue hi =>
  cases hv
  obtain ⟨p, l, e, R, s, m, args, below, meth, c, H0, A, Q, nL0, G, ad0, n0⟩ := C
  obtain ⟨hx, hb, hml, hnl, hown, hts, hKK, hH0, hA, hlk, hrt, hR, hQ, hxt⟩ := hC
  intro ad H locs ls hW hAa hag hn hvl hvs hS hl
  subst hR
  refine va_newq (C := RX1) hx hb hown (hts _ hw) hKK.1.2.2.2.1.2.1 hKK.1.1 hW.1 (pool_D hW hAa) hS (by rw [hH0]; exact hA) hi.2.1 hn9 hby hce hsl hdg (fun q cA H1 hK1 hP1 hD1 hS1 => ?_)
  have ec := K_same hK1 (t0 := 4) (by decide) rfl
  subst ec
  obtain ⟨w1, w2, w3⟩ := wd_al hW hP1 hD1 (by rw [ent_8 hi.1, hi.2.2, hn9]; simp [al, mI, mJ, mR, mD, up1])
  have k2 := kk (va_up ad M.1 q) H1 locs ls w1 w2 (fun i hi => (w3 i (Nat.lt_of_lt_of_le hi hn)).trans (hag i hi)) (Nat.le_succ_of_le hn) (fun q hq => Vok_mono (Nat.le_succ _) (hvl q hq)) (vs_c (fun i e => by cases e; exact Nat.lt_succ_self _) (fun v hv => Vok_mono (Nat.le_succ _) ((vs_t hvs) v hv))) hS1 (by rw [mapl_ag w3 hvl]; exact hl)
  rw [List.map_cons, map_ag w3 (vs_t hvs)] at k2
  have e9 : phys (va_up ad M.1 q) (rf (some M.1)) = .ref q := congrArg Value.ref (va_up_self _ _ _)
  rw [e9] at k2
  exact k2
def ad6 (ad : Nat → Nat) (n q : Nat) (r : Nat → Nat) : Nat → Nat := fun i => if i = n then q else if n < i ∧ i < n + 6 then r (i - n - 1) else ad i
theorem J_multi {C : JC} {x : Bool} {cc : ByteArray} {nL : Nat} {rm : Room} {rt : Option FieldType} {own : String} {res : Res} {ce sl : Nat} {M : Mem} {pc : Nat} {lv : List (Nat × Value)} {st : List Value} {β : Type} {r0 : β} {f : Mem → Option β} {index : Nat} (hC : Ok C x cc nL rm rt own res) (hw : Cond.classLink own index "[[I" ∈ BIG) (hce : ce + 6 ≤ rm.cells) (hsl : sl + 50 ≤ rm.slots) (hdg : decode cc pc = .ok (.multianewarray index 2, 4)) (h : (nwG M).bind f = some r0)
    (kk : ∀ M', nwG M = some M' → f M' = some r0 → J C (ce + 6) (sl + 50) M' (pc + 4) lv (rf (some M.1) :: st)) : J C ce sl M pc lv (.int 9 :: .int 5 :: st) := by
  obtain ⟨M', hv, hf⟩ := bnd h
  have kk := kk M' hv hf
  unfold nwG at hv
  split at hv
  case isFalse => cases hv
  case isTrue hi0 =>
  cases hv
  have hi : kd M.1 = 9 ∧ ln M.1 = 5 ∧ ∀ k, k < 5 → kd (M.1 + 1 + k) = 4 ∧ ln (M.1 + 1 + k) = 9 := ⟨hi0.1, hi0.2.1, fun k hk => by
    have h9 := List.all_eq_true.mp hi0.2.2 k (List.mem_range.mpr hk)
    simpa using h9⟩
  obtain ⟨p, l, e, R, s, m, args, below, meth, c, H0, A, Q, nL0, G, ad0, n0⟩ := C
  obtain ⟨hx, hb, hml, hnl, hown, hts, hKK, hH0, hA, hlk, hrt, hR, hQ, hxt⟩ := hC
  intro ad H locs ls hW hAa hag hn hvl hvs hS hl
  subst hR
  have hcyI : s.vm.findClass (FieldType.array .int).toString = some (G.2 0) := (hKK.1.1.2 0 (G.2 0, .int) rfl).2
  refine va_mna (X := pool G ad M) (L := []) (f := fun _ => .inr (0, [])) (ty := .int) (cy := G.2 0) (z := (9, .inl (fun _ => 0))) (N' := 5) (K' := 9) hx hb hown (hts _ hw) hKK.1.2.2.2.1.2.2 (hts _ w_arr4) hcyI hKK.1.1 (by simpa [va_pl] using hW.1) (by simpa [va_pl] using pool_D hW hAa) hS (by rw [hH0]; exact hA) (by decide) (by decide) (by decide) (by decide) (by decide) (by decide +kernel) (by decide) (by decide) (by decide) hce hsl (fun c => by rw [vp_cell_i]; rfl) hdg (fun q r cA H1 hri hrL hK1 hP1 hD1 hS1 => ?_)
  have ec := K_same hK1 (t0 := 5) (by decide) rfl
  subst ec
  have hag6 : ∀ i, i < M.1 → ad6 ad M.1 q r i = ad i := fun i hi => by
    have h1 : i ≠ M.1 := Nat.ne_of_lt hi
    have h2 : ¬ (M.1 < i ∧ i < M.1 + 6) := by omega
    simp only [ad6, h1, h2, if_false]
  have e5 : (List.range 5).map r = [r 0, r 1, r 2, r 3, r 4] := rfl
  have ew : (pool G ad M ++ [(q, .inl (G.2 5, 5, .inr (.inr (.inr (.inr (fun i => if i < 5 then some (r i) else none))))))]) ++ va_pl ([] ++ (List.range 5).map r) (vr_up (fun _ => .inr (0, [])) ((List.range 5).map r) (.inl (G.2 0, 9, .inl (fun _ => 0)))) = pool G (ad6 ad M.1 q r) (al6 M) := by
    have hr : List.range (M.1 + 6) = List.range M.1 ++ [M.1, M.1 + 1, M.1 + 2, M.1 + 3, M.1 + 4, M.1 + 5] := by
      simp only [List.range_succ, List.append_assoc, List.cons_append, List.nil_append]
    show _ = (List.range (M.1 + 6)).map _
    rw [hr, List.map_append, e5]
    have k0 := hi.2.2 0 (by decide)
    have k1 := hi.2.2 1 (by decide)
    have k2 := hi.2.2 2 (by decide)
    have k3 := hi.2.2 3 (by decide)
    have k4 := hi.2.2 4 (by decide)
    simp only [Nat.add_zero] at k0
    have z : ∀ j, M.1 ≤ j → j < M.1 + 6 → mI (al6 M) j = fun _ => 0 := fun j h1 h2 => by show (if _ then _ else _) = _; rw [if_pos ⟨h1, h2⟩]
    rw [List.append_assoc]
    congr 1
    · refine (List.map_congr_left fun i hi9 => ?_).symm
      have hi9 := List.mem_range.mp hi9
      have hne : i ≠ M.1 := Nat.ne_of_lt hi9
      have hn6 : ¬ (M.1 ≤ i ∧ i < M.1 + 6) := by omega
      rw [hag6 i hi9, ent_ag (M2 := al6 M) (M := M) (ad := ad) (if_neg hn6) (if_neg hn6) (by show (if _ then _ else _) = _; rw [if_neg hne, if_neg hn6]) (if_neg hn6) (fun k j e => hag6 j (hW.2.2 i k j hi9 e))]
    · have f0 : ent G (ad6 ad M.1 q r) (al6 M) M.1 = .inl (G.2 5, 5, .inr (.inr (.inr (.inr (fun i => if i < 5 then some (r i) else none))))) := by
        rw [ent_9 hi.1, hi.2.1]
        congr 7
        funext k
        show Option.map _ ((if M.1 = M.1 then (fun k => if k < 5 then some (M.1 + 1 + k) else none) else _) k) = _
        rw [if_pos rfl]
        by_cases hk : k < 5
        · have h1 : M.1 + 1 + k ≠ M.1 := by omega
          have h2 : M.1 < M.1 + 1 + k ∧ M.1 + 1 + k < M.1 + 6 := by omega
          have h3 : M.1 + 1 + k - M.1 - 1 = k := by omega
          simp only [hk, if_true, Option.map_some, ad6, h1, if_false, h2, and_self, h3]
        · simp [hk]
      have fk : ∀ k, k < 5 → ent G (ad6 ad M.1 q r) (al6 M) (M.1 + 1 + k) = .inl (G.2 0, 9, .inl (fun _ => 0)) := fun k hk => by
        rw [ent_4 (hi.2.2 k hk).1, (hi.2.2 k hk).2, z _ (by omega) (by omega)]
      have ak : ∀ k, k < 5 → ad6 ad M.1 q r (M.1 + 1 + k) = r k := fun k hk => by
        have h1 : M.1 + 1 + k ≠ M.1 := by omega
        have h2 : M.1 < M.1 + 1 + k ∧ M.1 + 1 + k < M.1 + 6 := by omega
        have h3 : M.1 + 1 + k - M.1 - 1 = k := by omega
        simp only [ad6, h1, if_false, h2, and_self, if_true, h3]
      have a0 : ad6 ad M.1 q r M.1 = q := by simp [ad6]
      simp only [va_pl, List.nil_append, List.map_cons, List.map_nil, List.cons_append, f0, a0]
      have g := fun k hk => fk k hk
      have b := fun k hk => ak k hk
      have g1 := g 0 (by decide); have g2 := g 1 (by decide); have g3 := g 2 (by decide); have g4 := g 3 (by decide); have g5 := g 4 (by decide)
      have b1 := b 0 (by decide); have b2 := b 1 (by decide); have b3 := b 2 (by decide); have b4 := b 3 (by decide); have b5 := b 4 (by decide)
      simp only [Nat.add_zero, Nat.add_assoc, Nat.reduceAdd] at g1 g2 g3 g4 g5 b1 b2 b3 b4 b5
      rw [g1, g2, g3, g4, g5, b1, b2, b3, b4, b5]
      simp [vr_up]
  rw [ew] at hP1 hD1
  have hA6 : ∀ i, i < (al6 M).1 → A (ad6 ad M.1 q r i) := fun i hi9 => hD1.2 i _ (pool_at hi9)
  have w1 : Wd G (ad6 ad M.1 q r) (al6 M) H1 := by
    refine ⟨hP1, fun i j hi9 hj9 hij => hD1.1 i j _ _ (pool_at hi9) (pool_at hj9) hij, fun i k j hi9 hr => ?_⟩
    have hi9 : i < M.1 + 6 := hi9
    show j < M.1 + 6
    have hr : (if i = M.1 then (fun k => if k < 5 then some (M.1 + 1 + k) else none) else if M.1 ≤ i ∧ i < M.1 + 6 then fun _ => none else mR M i) k = some j := hr
    by_cases h1 : i = M.1
    · rw [if_pos h1] at hr
      by_cases hk : k < 5
      · simp only [hk, if_true, Option.some.injEq] at hr; omega
      · simp [hk] at hr
    · rw [if_neg h1] at hr
      by_cases h2 : M.1 ≤ i ∧ i < M.1 + 6
      · rw [if_pos h2] at hr; cases hr
      · rw [if_neg h2] at hr
        have := hW.2.2 i k j (by omega) hr
        omega
  have hle : M.1 ≤ (al6 M).1 := Nat.le_add_right _ 6
  have hvt := vs_t (vs_t hvs)
  have k2 := kk (ad6 ad M.1 q r) H1 locs ls w1 hA6 (fun i hi => (hag6 i (Nat.lt_of_lt_of_le hi hn)).trans (hag i hi)) (Nat.le_trans hn hle) (fun q hq => Vok_mono hle (hvl q hq)) (vs_c (fun i e => by cases e; exact Nat.lt_add_of_pos_right (by decide)) (fun v hv => Vok_mono hle (hvt v hv))) hS1 (by rw [mapl_ag hag6 hvl]; exact hl)
  rw [List.map_cons, map_ag hag6 hvt] at k2
  have e9 : phys (ad6 ad M.1 q r) (rf (some M.1)) = .ref q := congrArg Value.ref (by simp [ad6])
  rw [e9] at k2
  exact k2
end
section
/-! ===== the law's own rows: the script, wrappers with a table, handlers ===== -/
def sc (xs : Nat → Int32) (L : Nat) (z : Int32) : Option Int32 := if inRb z L = true then some (xs z.toNatClampNeg) else none
def ScOK (C : JC) (b L : Nat) (xs : Nat → Int32) : Prop := match C with
  | (p, l, e, R, s, m, args, below, meth, c, H0, A, Q, nL0, G, ad0, n0) => va_X b L xs s H0 ∧ b < H0.size ∧ ¬ A b
def TabOf (C : JC) (hh : List (Nat × Nat × Nat × Nat)) : Prop := match C with
  | (p, l, e, R, s, m, args, below, meth, c, H0, A, Q, nL0, G, ad0, n0) => c.exceptionTable.toList = tableOf hh
theorem J_sld {C : JC} {x : Bool} {cc : ByteArray} {nL : Nat} {rm : Room} {rt : Option FieldType} {own : String} {res : Res} {ce sl : Nat} {M : Mem} {pc : Nat} {lv : List (Nat × Value)} {st : List Value} {β : Type} {r0 : β} {f : Int32 → Option β} {z : Int32} {b L : Nat} {xs : Nat → Int32} (hC : Ok C x cc nL rm rt own res) (hSc : ScOK C b L xs) (hdg : decode cc pc = .ok (.iaload, 1)) (h : (sc xs L z).bind f = some r0)
    (kk : ∀ v, sc xs L z = some v → f v = some r0 → J C ce sl M (pc + 1) lv (.int v :: st)) : J C ce sl M pc lv (.int z :: .ref b :: st) := by
  obtain ⟨v, hv, hf⟩ := bnd h
  have kk := kk v hv hf
  unfold sc at hv
  split at hv
  case isFalse => cases hv
  case isTrue hi =>
  cases hv
  obtain ⟨p, l, e, R, s, m, args, below, meth, c, H0, A, Q, nL0, G, ad0, n0⟩ := C
  obtain ⟨hx, hb, hml, hnl, hown, hts, hKK, hH0, hA, hlk, hrt, hR, hQ, hxt⟩ := hC
  intro ad H locs ls hW hAa hag hn hvl hvs hS hl
  exact va_sld hx hb hSc.1 hSc.2.1 hSc.2.2 hS (inRb_vp hi) hdg (kk ad H locs ls hW hAa hag hn hvl (vs_c Vok_int (vs_t (vs_t hvs))) hS hl)
theorem J_slen {C : JC} {x : Bool} {cc : ByteArray} {nL : Nat} {rm : Room} {rt : Option FieldType} {own : String} {res : Res} {ce sl : Nat} {M : Mem} {pc : Nat} {lv : List (Nat × Value)} {st : List Value} {b L : Nat} {xs : Nat → Int32} (hC : Ok C x cc nL rm rt own res) (hSc : ScOK C b L xs) (hdg : decode cc pc = .ok (.arraylength, 1))
    (kk : J C ce sl M (pc + 1) lv (.int (Int32.ofNat L) :: st)) : J C ce sl M pc lv (.ref b :: st) := by
  obtain ⟨p, l, e, R, s, m, args, below, meth, c, H0, A, Q, nL0, G, ad0, n0⟩ := C
  obtain ⟨hx, hb, hml, hnl, hown, hts, hKK, hH0, hA, hlk, hrt, hR, hQ, hxt⟩ := hC
  intro ad H locs ls hW hAa hag hn hvl hvs hS hl
  exact va_slen hx hb hSc.1 hSc.2.1 hSc.2.2 hS hdg (kk ad H locs ls hW hAa hag hn hvl (vs_c Vok_int (vs_t hvs)) hS hl)
theorem J_aloadQ_n {C : JC} {x : Bool} {cc : ByteArray} {nL : Nat} {rm : Room} {rt : Option FieldType} {own : String} {res : Res} {ce sl : Nat} {M : Mem} {pc : Nat} {lv : List (Nat × Value)} {st : List Value} {k : Fin 4} {j q : Nat} (hC : Ok C x cc nL rm rt own res) (hdg : decode cc pc = .ok (.aload_n k, 1)) (hlv : lv[j]? = some ((k : Nat), .ref q))
    (kk : J C ce sl M (pc + 1) lv (.ref q :: st)) : J C ce sl M pc lv st := by
  obtain ⟨p, l, e, R, s, m, args, below, meth, c, H0, A, Q, nL0, G, ad0, n0⟩ := C
  obtain ⟨hx, hb, hml, hnl, hown, hts, hKK, hH0, hA, hlk, hrt, hR, hQ, hxt⟩ := hC
  intro ad H locs ls hW hAa hag hn hvl hvs hS hl
  exact lv_aload_n hx hb hdg rfl (lv_at hl j (mp_at hlv)) (kk ad H locs ls hW hAa hag hn hvl (vs_c Vok_ref hvs) hS hl)
theorem J_astoreQ_n {C : JC} {x : Bool} {cc : ByteArray} {nL : Nat} {rm : Room} {rt : Option FieldType} {own : String} {res : Res} {ce sl : Nat} {M : Mem} {pc : Nat} {lv : List (Nat × Value)} {st : List Value} {k : Fin 4} {i q : Nat} (hk : (k : Nat) = i) {lv' : List (Nat × Value)} (hC : Ok C x cc nL rm rt own res) (hdg : decode cc pc = .ok (.astore_n k, 1)) (hi : i < nL) (hlv : (i, Value.ref q) :: lv.filter (fun q => !(q.1 == i) && !(q.1 + 1 == i && q.2.category == 2)) = lv')
    (kk : J C ce sl M (pc + 1) lv' st) : J C ce sl M pc lv (.ref q :: st) := by
  obtain ⟨p, l, e, R, s, m, args, below, meth, c, H0, A, Q, nL0, G, ad0, n0⟩ := C
  obtain ⟨hx, hb, hml, hnl, hown, hts, hKK, hH0, hA, hlk, hrt, hR, hQ, hxt⟩ := hC
  intro ad H locs ls hW hAa hag hn hvl hvs hS hl
  subst hnl
  have kk := fun ls hl => kk ad H locs ls hW hAa hag hn (vl_st hlv (vs_h hvs) hvl) (vs_t hvs) hS hl
  have h9 := mp_st1 (ad := ad) hlv
  exact lv_astore_n hx hb hdg hk hl hi h9 kk
theorem J_astoreQ {C : JC} {x : Bool} {cc : ByteArray} {nL : Nat} {rm : Room} {rt : Option FieldType} {own : String} {res : Res} {ce sl : Nat} {M : Mem} {pc : Nat} {lv : List (Nat × Value)} {st : List Value} {i q : Nat} {lv' : List (Nat × Value)} (hC : Ok C x cc nL rm rt own res) (hdg : decode cc pc = .ok (.astore i, 2)) (hi : i < nL) (hlv : (i, Value.ref q) :: lv.filter (fun q => !(q.1 == i) && !(q.1 + 1 == i && q.2.category == 2)) = lv')
    (kk : J C ce sl M (pc + 2) lv' st) : J C ce sl M pc lv (.ref q :: st) := by
  obtain ⟨p, l, e, R, s, m, args, below, meth, c, H0, A, Q, nL0, G, ad0, n0⟩ := C
  obtain ⟨hx, hb, hml, hnl, hown, hts, hKK, hH0, hA, hlk, hrt, hR, hQ, hxt⟩ := hC
  intro ad H locs ls hW hAa hag hn hvl hvs hS hl
  subst hnl
  have kk := fun ls hl => kk ad H locs ls hW hAa hag hn (vl_st hlv (vs_h hvs) hvl) (vs_t hvs) hS hl
  have h9 := mp_st1 (ad := ad) hlv
  exact lv_astore hx hb hdg hl hi h9 kk
theorem J_widen {C : JC} {ce sl k n : Nat} {M : Mem} {pc : Nat} {lv : List (Nat × Value)} {st : List Value} (h1 : ce ≤ k) (h2 : sl ≤ n) (kk : J C k n M pc lv st) : J C ce sl M pc lv st := by
  obtain ⟨p, l, e, R, s, m, args, below, meth, c, H0, A, Q, nL0, G, ad0, n0⟩ := C
  intro ad H locs ls hW hAa hag hn hvl hvs hS hl
  exact W.widen h1 h2 (kk ad H locs ls hW hAa hag hn hvl hvs hS hl)
def ConW (l : Launch) (y : MethodName) (cc : ByteArray) (maxL : Nat) (ret : Option FieldType) (hh : List (Nat × Nat × Nat × Nat)) (rm : Room) (As : List Value) (M : Mem) (res : Res) : Prop := ∀ (G : Geo) (ad : Nat → Nat) (sz : Nat),
  Met l y (.codeWith y cc maxL ret hh :: BIG) rm (PreC G ad sz As M) (Qret G ad M.1 (Aset ad M.1 sz) res) rm.cells rm.slots (Aset ad M.1 sz)
theorem ConW.enter {l : Launch} (hst : l.stackTraces = false) {y : MethodName} {cc : ByteArray} {maxL : Nat} {ret : Option FieldType} {hh : List (Nat × Nat × Nat × Nat)} {rm : Room} {As : List Value} {M : Mem} {res : Res} {own : String} (hy : plainName y.cls = true) (ho : y.cls = own) (hlen : (lg_sl As).length ≤ maxL) {lv0 : List (Nat × Value)} (hlv : lv_args 0 As = lv0)
    (k : ∀ C : JC, Ok C false cc maxL rm ret own res → TabOf C hh → J C 0 0 M 0 lv0 []) : ConW l y cc maxL ret hh rm As M res := by
  intro G ad sz
  refine va_MetW (cc := cc) (maxL := maxL) (ret := ret) (hh := hh) hy rfl ?_
  intro p e s m args below meth c s₁ B hml hv
  obtain ⟨rfl, hsz, hW, hKK, hVok⟩ := hv
  subst hsz
  have hts := atoms_spec (ws := .codeWith y cc maxL ret hh :: BIG) B.pre
  have hown : s.vm.findClass y.cls = some m.cls := findClass_of_methodNamed B.named
  have htab := vx_table (x := y) B (hts _ List.mem_cons_self)
  have hl := lv_entry (As.map (phys ad)) (n := maxL) (by rw [lg_sl_len]; exact hlen)
  rw [lg_entry_eq]
  generalize (lg_sl (As.map (phys ad)) ++ List.replicate (maxL - (lg_sl (As.map (phys ad))).length) Slot.unset).toArray = ls at hl ⊢
  rw [lv_args_phys, hlv] at hl
  exact k (p, l, e, (headSpec (.codeWith y cc maxL ret hh :: BIG) rm).room, s, m, (As.map (phys ad)).toArray, below, meth, c, s.heap, Aset ad M.1 s.heap.size, MQ below (Qret G ad M.1 (Aset ad M.1 s.heap.size) res) (As.map (phys ad)).toArray s rm.cells rm.slots (Aset ad M.1 s.heap.size), maxL, G, ad, M.1)
    ⟨B.exec, B.bytes, hml, rfl, ho ▸ hown, fun w hw => hts w (List.mem_cons_of_mem _ hw), hKK, rfl, fun q h => Or.inr h, B.notSynchronized, B.returns, rfl, rfl, (fun h => by cases h), hst⟩ htab
    ad s.heap [] ls hW (fun i hi => Or.inl ⟨i, hi, rfl⟩) (fun _ _ => rfl) (Nat.le_refl _) (hlv ▸ vl_args As hVok 0) (fun v hv => by cases hv) va_S.rf hl
def SWok (y : MethodName) (cc : ByteArray) (maxL : Nat) (ret : Option FieldType) (hh : List (Nat × Nat × Nat × Nat)) (n : Nat) : Prop := Cond.codeWith y cc maxL ret hh ∈ BIG ∧ Cond.static y ∈ BIG ∧ Cond.initialized y.cls ∈ BIG ∧ (y.cls ≠ "java/lang/invoke/MethodHandle" ∧ y.cls ≠ "java/lang/invoke/VarHandle" ∧ (parseMethodDescriptor y.desc).map (fun d => d.parameters.length) = some n)
theorem J_callSW {C : JC} {x : Bool} {cc : ByteArray} {nL : Nat} {rm : Room} {rt : Option FieldType} {own : String} {res : Res} {ce sl : Nat} {M : Mem} {pc : Nat} {lv : List (Nat × Value)} {st : List Value} {y : MethodName} {cc2 : ByteArray} {maxL2 index : Nat} {ret2 : Option FieldType} {rm2 : Room} {As : List Value} {M' : Mem} {rv : Option Value} {stk : List Value} {n : Nat} {hh : List (Nat × Nat × Nat × Nat)} (hC : Ok C x cc nL rm rt own res) (hcon : ∀ l, l.stackTraces = false → ConW l y cc2 maxL2 ret2 hh rm2 As M (M', .inr rv)) (hm : SWok y cc2 maxL2 ret2 hh n) (hw : Cond.methodLink own index y ∈ BIG) (hn9 : As.length = n) (hf : rm2.frames + 1 ≤ rm.frames ∧ 8 + (maxL2 + 11) + rm2.locals ≤ rm.locals) (hcat : (st.map fun v => v.category).sum ≤ 8) (hce : ce + rm2.cells ≤ rm.cells ∧ sl + rm2.slots ≤ rm.slots)
    (hdg : decode cc pc = .ok (.invokestatic index, 3)) (hstk : stk = As.reverse ++ st) (kk : J C (ce + rm2.cells) (sl + rm2.slots) M' (pc + 3) lv (rv.toList ++ st)) : J C ce sl M pc lv stk := by
  subst hstk
  obtain ⟨m1, m2, m3, m4⟩ := hm
  obtain ⟨p, l, e, R, s, m, args, below, meth, c, H0, A, Q, nL0, G, ad0, n0⟩ := C
  obtain ⟨hx, hb, hml, hnl, hown, hts, hKK, hH0, hA, hlk, hrt, hR, hQ, hxt⟩ := hC
  intro ad H locs ls hW hAa hag hn hvl hvs hS hl
  subst hR
  subst hnl
  have hvs2 := vs_arr hvs
  refine W_call (M := M) (M' := M') (rv := rv) (vx_runSW (hh := hh) (cc := cc) (nL := nL0) (Ts := BIG) (own := own) (As := As.map (phys ad)) (rest := st.map (phys ad)) ⟨hx, hb, hml, hown, hts⟩ (hcon l hxt.2 G ad H.size) (vx_cwSW n hts (big_inB (fun w hw9 => by
      rcases List.mem_append.mp hw9 with h | h
      · simp only [List.mem_cons, List.not_mem_nil, or_false] at h
        rcases h with h | h | h <;> subst h
        · exact hw
        · exact m2
        · exact m3
      · exact big_cons m1 w h)) rfl rfl rfl m4 hf) ⟨PreC_blind, PreC_of hW hAa hA hKK (hH0 ▸ hS) hvs2.1⟩ rfl (by rw [List.length_map]; exact hn9) hl.1 (by show List.map (phys ad) _ = _; rw [List.map_append, List.map_reverse]) (by show 0 + _ ≤ 8; rw [Nat.zero_add, cat_map]; exact hcat) hdg hce) hAa (by rw [hH0]; exact hA) hS (fun ad' H1 locs1 g1 g2 g3 g4 g5 g6 => ?_)
  have k2 := kk ad' H1 locs1 ls g3 g4 (fun i hi => (g1 i (Nat.lt_of_lt_of_le hi hn)).trans (hag i hi)) (Nat.le_trans hn g2) (fun q hq => Vok_mono g2 (hvl q hq)) (vs_ret g5 (fun v hv => Vok_mono g2 (hvs2.2 v hv))) g6 (by rw [mapl_ag g1 hvl]; exact hl)
  rw [← ret_map, map_ag g1 hvs2.2] at k2
  exact k2
theorem J_catchV {C : JC} {x : Bool} {cc : ByteArray} {nL : Nat} {rm : Room} {rt : Option FieldType} {own : String} {res : Res} {ce sl : Nat} {M : Mem} {pc : Nat} {lv : List (Nat × Value)} {st : List Value} {y : MethodName} {cc2 : ByteArray} {maxL2 index : Nat} {ret2 : Option FieldType} {rm2 : Room} {As : List Value} {M' : Mem} {stk : List Value} {n : Nat} {E name : String} {Cn : String} {o : Option Nat} {ci : Nat} {qc : vw_C} {hh : List (Nat × Nat × Nat × Nat)} (pre : List (Nat × Nat × Nat × Nat)) (xh : Nat × Nat × Nat × Nat) (suf : List (Nat × Nat × Nat × Nat)) (hC : Ok C x cc nL rm rt own res) (htab : TabOf C hh) (hsplit : hh = pre ++ xh :: suf)
    (hpass : ∀ z ∈ pre, z.2.2.2 ≠ 0 ∧ ∃ nm, Cond.classLink own z.2.2.2 nm ∈ BIG ∧ ∀ U, ncB U → va_Nc E nm U) (hcov : covers ⟨xh.1, xh.2.1, xh.2.2.1, xh.2.2.2⟩ pc = true) (h0 : xh.2.2.2 ≠ 0) (hlink : Cond.classLink own xh.2.2.2 name ∈ BIG) (hcast : ∀ U, castB U → va_Nw (.castable E name) U)
    (hcon : ∀ l, l.stackTraces = false → Con true l y cc2 maxL2 ret2 rm2 (rf o :: As) M (M', .inl E)) (hm : VMok y Cn cc2 maxL2 ret2 n) (hw : Cond.methodLink own index y ∈ BIG) (ho : ∃ i, o = some i ∧ i < M.1 ∧ kd i = ci) (hq : vwCl[ci]? = some qc ∧ qc.1 = Cn) (hn9 : As.length = n) (hf : rm2.frames + 1 ≤ rm.frames ∧ 8 + (maxL2 + 11) + rm2.locals ≤ rm.locals) (hcat : (st.map fun v => v.category).sum ≤ 8) (hce : ce + rm2.cells ≤ rm.cells ∧ sl + rm2.slots ≤ rm.slots)
    (hdg : decode cc pc = .ok (.invokevirtual index, 3)) (hstk : stk = As.reverse ++ rf o :: st) (kk : ∀ q, J C (ce + rm2.cells) (sl + rm2.slots) M' xh.2.2.1 lv [.ref q]) : J C ce sl M pc lv stk := by
  obtain ⟨i, rfl, hi1, hi2⟩ := ho
  subst hstk
  obtain ⟨m1, m2, m3, m4, m5⟩ := hm
  obtain ⟨p, l, e, R, s, m, args, below, meth, c, H0, A, Q, nL0, G, ad0, n0⟩ := C
  obtain ⟨hx, hb, hml, hnl, hown, hts, hKK, hH0, hA, hlk, hrt, hR, hQ, hxt⟩ := hC
  intro ad H locs ls hW hAa hag hn hvl hvs hS hl
  subst hR
  subst hnl
  have hvs2 := vs_arr hvs
  have h9 := hcon l hxt.2 G ad H.size
  rw [if_pos rfl] at h9
  have hr := vx_runV (p := p) (l := l) (e := e) (R := R) (s := s) (m := m) (args := args) (below := below) (meth := meth) (c := c) (H := H) (locs := locs) (cells := ce) (slots := sl) (g := F0 m pc ls (((As.map (phys ad)).reverse ++ .ref (ad i) :: st.map (phys ad)))) (cc := cc) (nL := nL0) (Ts := BIG) (own := own) (As := As.map (phys ad)) (rest := st.map (phys ad)) (C := Cn) (b := ad i) ⟨hx, hb, hml, hown, hts⟩ h9 (cwV n hts (big_inB (fun w hw9 => by
      rcases List.mem_append.mp hw9 with h | h
      · simp only [List.mem_cons, List.not_mem_nil, or_false] at h
        rcases h with h | h | h | h <;> subst h
        · exact hw
        · exact m2
        · exact m3
        · exact m4
      · exact big_cons m1 w h)) rfl rfl rfl m5 hf) ⟨PreC_blind, hq.2 ▸ rcv_of9 hW hKK hi1 hi2 hq.1, PreC_of hW hAa hA hKK (hH0 ▸ hS) (vs_c (vs_h hvs2.2) hvs2.1)⟩ rfl (by rw [List.length_map]; exact hn9) hl.1 rfl (by show 0 + _ ≤ 8; rw [Nat.zero_add, cat_map]; exact hcat) hdg hce
  intro T hT X
  have hst9 : List.map (phys ad) (As.reverse ++ rf (some i) :: st) = (As.map (phys ad)).reverse ++ .ref (ad i) :: st.map (phys ad) := by rw [List.map_append, List.map_reverse]; rfl
  rw [hst9]
  rcases hr T hT X with ⟨v, st₀, t, T', L, h0, X', hL, e1, e2, ⟨⟨ad', rv', q1, -⟩, -⟩, -⟩ | ⟨q, st₀, t, T', L, E2, cel, hz0, X', hL, e1, e2, ⟨⟨ad', q1, q3, q4, q5, q6⟩, hz, hk⟩, hcell, hv, hcl, stp⟩
  · cases q1
  cases q1
  rw [hz0] at hz hk
  have hsub := Aset_sub hAa (by rw [hH0]; exact hA) hS.1
  have hS2 : va_S A H0 T'.heap (locs ++ L) := ⟨Nat.le_trans hS.1 (by rw [e1]; exact hz), fun q h1 h2 => by rw [e1, hk q (Nat.lt_of_lt_of_le h1 hS.1) (fun z => h2 (hsub q z))]; exact hS.2.1 q h1 h2, fun q hq => by
      rcases List.mem_append.mp hq with h | h
      · exact hS.2.2 q h
      · exact hsub _ (hL q h)⟩
  have hkk := kk q ad' T'.heap (locs ++ L) ls (by rw [e1]; exact q5) (fun i hi => hsub _ (q6 i hi)) (fun i hi => (q3 i (Nat.lt_of_lt_of_le hi hn)).trans (hag i hi)) (Nat.le_trans hn q4) (fun q hq => Vok_mono q4 (hvl q hq)) (vs_c Vok_ref (fun v hv => by cases hv)) hS2 (by rw [mapl_ag q3 hvl]; exact hl)
  have hcat9 := vx_catch (p := p) (l := l) (e := e) (R := R) (s := s) (m := m) (args := args) (below := below) (meth := meth) (c := c) (H := T'.heap) (locs := locs ++ L) (cells := ce + rm2.cells) (slots := sl + rm2.slots) (Q := Q) (pc := pc) (ls := ls) (rest := st.map (phys ad)) (E := E) (ce := cel) (q := q) hown (tableOf pre) ⟨xh.1, xh.2.1, xh.2.2.1, xh.2.2.2⟩ (tableOf suf) (by
      have h1 : c.exceptionTable.toList = tableOf hh := htab
      rw [h1, hsplit]
      simp [tableOf]) (fun z hz => by
      obtain ⟨w, hw1, rfl⟩ := List.mem_map.mp hz
      obtain ⟨a1, nm, a2, a3⟩ := hpass w hw1
      exact Or.inr ⟨a1, nm, hts _ a2, a3 s hKK.1.2.2.2.2.2.2.2.2⟩) hcov h0 (hts _ hlink) (va_Nw.use rfl (hcast s hKK.1.2.2.2.2)) (by rw [e1]; exact hcell) hv hcl hkk
  obtain ⟨t2, a1, b1⟩ := hcat9 T' rfl X'
  exact ⟨t2, stp.trans a1, b1⟩
end
